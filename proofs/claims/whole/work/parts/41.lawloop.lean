/-! the law's loop -/
def R_law : String := "MeasureChoiceLaw"
def lw_P (b : Addr) (xs : List Int32) (args : Array Value) (s : State) : Prop := args = #[.ref b] ∧ s.IntsAt b xs ∧ xs.length ≤ 2048 ∧ (Jvm.Cond.and given_1 narrow_1).before args s = true
def lw_Q (_ : Array Value) (s : State) (o : Outcome) (t : State) : Prop := o = .returned (some (.int 1)) ∧ Framed s o t [] 601024 7293034
def lw_Z (below : List Frame) (a : Array Value) (s : State) : State → Prop := fun t => ∃ o, t.status = .running ∧ Ended t below o ∧ lw_Q a s o t
/-- the law's own end, with 1 on the stack, nothing written that was there before, its room as the claim has it -/
theorem lw_ret {p : Program} {l : Launch} {e : Env} {s : State} {m : MethodId} {below : List Frame} {meth : Method} {c : Code} {b : Nat} (hx : p.tables.exec = Jvm.exec) (hb : c.code = code) (hr : meth.sig.returnType = ret) (hlocks : meth.locks = false) {pc : Nat} {H : Heap} {ls : Array Slot} (hdg : decode code pc = .ok (.ireturn, 1)) : W p l e room_1 s m #[Value.ref b] below meth c H [] 601024 7293034 (lw_Z below #[Value.ref b] s) (F0 m pc ls [.int 1]) := by
  intro T hT X
  obtain ⟨fs, hret, hrun, hended, hW, hframe⟩ := X.leave (v := some (.int 1)) (hlocks := hlocks) (fun h => by rw [hr] at h; cases h)
  have hmeth' : T.vm.method? m = some meth := X.method'
  refine ⟨T.setFrames fs, ?_, .returned (some (.int 1)), hrun, hended, rfl, ⟨_, rfl⟩, hW, hframe⟩
  jvm_step X.here [X.here.top, hx, hb, hdg, hmeth', hr, ret, narrow_b1]
  (try refine ⟨rfl, ?_⟩); (try refine ⟨rfl, ?_⟩)
  first | (intro acts; rw [hret _ acts rfl rfl rfl]) | rw [hret _ _ rfl rfl rfl]
  exact Steps.refl _
/-- what holds at the law's entry: the machine, the code, the tables' words, the script of L ints xs at the cell b, what the Statement gives of the start -/
def lw_At (p : Program) (s : State) (m : MethodId) (meth : Method) (c : Code) (b L : Nat) (xs : Nat → Int32) : Prop :=
  p.tables.exec = Jvm.exec ∧ c.code = code ∧ meth.sig.returnType = ret ∧ c.maxLocals = 7 ∧ s.vm.findClass R_law = some m.cls ∧ (∀ w ∈ lw_tbl, w.before #[Value.ref b] s = true) ∧ va_X b L xs s s.heap ∧ b < s.heap.size ∧ meth.locks = false ∧ (Jvm.Cond.and given_1 narrow_1).before #[Value.ref b] s = true
theorem nI_self (x : Int32) : x = nI x.toBitVec.toNat := by
  apply Int32.toBitVec_inj.mp
  apply BitVec.eq_of_toNat_eq
  show x.toBitVec.toNat = (BitVec.ofNat 32 x.toBitVec.toNat).toNat
  rw [BitVec.toNat_ofNat, Nat.mod_eq_of_lt x.toBitVec.isLt]
theorem and15 (x : Int32) : ∃ k, k ≤ 15 ∧ x &&& 15 = nI k := by
  refine ⟨x.toBitVec.toNat &&& 15, Nat.and_le_right, ?_⟩
  rw [← nI_and, ← nI_self]
  rfl
set_option maxHeartbeats 4000000 in
set_option maxRecDepth 100000 in
theorem law_body {p : Program} {l : Launch} {e : Env} {s : State} {m : MethodId} {below : List Frame} {meth : Method} {c : Code} {H : Heap} {locs : List Loc} {ls : Array Slot} {dC : Nat → ClassId} {dI : Nat → Nat → Nat} {b L : Nat} {xs : Nat → Int32} {o : Nat} {a q r : Nat → Nat} {cI cG cZ cJ : ClassId} {u : Nat} {w : Nat → Nat} {i : Nat} (Cx : mcCx p l s m c b L xs dC dI cI cG cZ cJ) (hr : meth.sig.returnType = ret) (hlocks : meth.locks = false) (hi9 : i ≤ 4096) (hLS : mcLS s dC dI o a q r cI cG cZ cJ u w i H locs) (hl : lv_has ls 7 [(4, .int (nI i)), (0, .ref b), (1, .ref o), (2, .ref (w 0)), (3, .ref u)])
    (ih : i + 4 ≤ L → ∀ (H : Heap) (locs : List Loc) (ls : Array Slot), mcLS s dC dI o a q r cI cG cZ cJ u w (i + 4) H locs → lv_has ls 7 [(4, .int (nI (i + 4))), (0, .ref b), (1, .ref o), (2, .ref (w 0)), (3, .ref u)] → W p l e room_1 s m #[Value.ref b] below meth c H locs (60 + (i + 4)) (11000 + 6 * (i + 4)) (lw_Z below #[Value.ref b] s) (F0 m 23 ls [])) :
    W p l e room_1 s m #[Value.ref b] below meth c H locs (60 + i) (11000 + 6 * i) (lw_Z below #[Value.ref b] s) (F0 m 23 ls []) := by
  obtain ⟨hx, hb, hml, hown, hts, hXs, hbl, hlt, hL, hK, hTh0⟩ := id Cx
  obtain ⟨la, n, v, C, G, X, D, B, bu, lp, ov, th, LG, LC, ch, hI, hP, hD, hS⟩ := id hLS
  have hbA : ¬ mcAA s b := Nat.not_le.mpr hbl
  refine lv_iload hx hb dL_law_23 (lv_at hl 0 rfl) ?_
  refine lv_aload_n hx hb dL_law_25 rfl (lv_at hl 1 rfl) ?_
  refine va_slen hx hb hXs hbl hbA hS dL_law_26 ?_
  refine lv_iconst (v := 4) hx hb dL_law_27 (by decide) ?_
  refine lv_isub hx hb dL_law_28 ?_
  have hsub : (Int32.ofNat L - 4 : Int32) = iI ((L : Int) - 4) := by
    rw [← iI_sub, iI_nat]
    rfl
  refine lv_icmp_gt (tgt := 1116) hx hb dL_law_29 (by decide) (fun c1 => ?_) (fun c1 => ?_)
  · refine lv_iconst (v := 1) hx hb dL_law_1116 (by decide) ?_
    refine va_forget (fun q hq => hS.2.2 q hq) ?_
    refine W.widen (k := 601024) (n := 7293034) (by omega) (by omega) ?_
    exact lw_ret hx hb hr hlocks dL_law_1117
  · have hi : i + 4 ≤ L := by
      rcases Nat.lt_or_ge L (i + 4) with z | z
      · refine absurd ?_ c1
        show (Int32.ofNat L - 4 : Int32) < nI i
        rw [hsub, ← iI_nat i]
        exact (iI_lt (by omega) (by omega) (by omega) (by omega)).mpr (by omega)
      · exact z
    obtain ⟨x0, hx0⟩ : ∃ v, xs i = v := ⟨_, rfl⟩
    refine lv_aload_n hx hb dL_law_32 rfl (lv_at hl 1 rfl) ?_
    refine lv_iload hx hb dL_law_33 (lv_at hl 0 rfl) ?_
    refine sldN hx hb hXs hbl hbA hS (k := i) (by omega) (by omega) hx0 dL_law_35 ?_
    refine lv_bipush (v := 15) hx hb dL_law_36 (by decide) ?_
    refine lv_iand hx hb dL_law_38 ?_
    have K : ∀ (H : Heap) (locs : List Loc) (ls : Array Slot), mcLS s dC dI o a q r cI cG cZ cJ u w (i + 1) H locs → lv_has ls 7 [(4, .int (nI i)), (0, .ref b), (1, .ref o), (2, .ref (w 0)), (3, .ref u)] → W p l e room_1 s m #[Value.ref b] below meth c H locs (60 + i + 1) (11000 + 6 * i + 6) (lw_Z below #[Value.ref b] s) (F0 m 1110 ls []) := by
      intro H locs ls hLS hl
      obtain ⟨la, n, v, C, G, X, D, B, bu, lp, ov, th, LG, LC, ch, hI, hP, hD, hS⟩ := hLS
      obtain ⟨y, hy⟩ : ∃ y : Int32, y = nI i + 4 := ⟨_, rfl⟩
      refine lv_iinc (v := y) (lv' := [(4, .int y), (0, .ref b), (1, .ref o), (2, .ref (w 0)), (3, .ref u)]) hx hb dL_law_1110 hl (k := 0) rfl (by rw [hy]; rfl) (by decide) rfl (fun ls hl => ?_)
      have hy2 : y = nI (i + 4) := hy.trans (nI_add i 4)
      subst hy2
      refine lv_goto (tgt := 23) hx hb dL_law_1113 (by decide) ?_
      refine W.widen (k := 60 + (i + 4)) (n := 11000 + 6 * (i + 4)) (by omega) (by omega) ?_
      exact ih hi H locs ls ⟨la, n, v, C, G, X, D, B, bu, lp, ov, th, LG, LC, ch, hI.mono (by omega), hP, hD, hS⟩ hl
    obtain ⟨k, hk, ek⟩ := and15 x0
    rw [ek]
    rcases (show k = 0 ∨ k = 1 ∨ k = 2 ∨ k = 3 ∨ k = 4 ∨ k = 5 ∨ k = 6 ∨ k = 7 ∨ k = 8 ∨ k = 9 ∨ k = 10 ∨ k = 11 ∨ k = 12 ∨ k = 13 ∨ k = 14 ∨ k = 15 by omega) with rfl | rfl | rfl | rfl | rfl | rfl | rfl | rfl | rfl | rfl | rfl | rfl | rfl | rfl | rfl | rfl
    · exact lv_tableIn (off := 73) (tgt := 112) hx hb dL_law_39 (by decide +kernel) (by decide +kernel) (by decide +kernel) (by decide) (law_0 Cx hi hLS hl K)
    · exact lv_tableIn (off := 141) (tgt := 180) hx hb dL_law_39 (by decide +kernel) (by decide +kernel) (by decide +kernel) (by decide) (law_1 Cx hi hLS hl K)
    · exact lv_tableIn (off := 201) (tgt := 240) hx hb dL_law_39 (by decide +kernel) (by decide +kernel) (by decide +kernel) (by decide) (law_2 Cx hi hLS hl K)
    · exact lv_tableIn (off := 304) (tgt := 343) hx hb dL_law_39 (by decide +kernel) (by decide +kernel) (by decide +kernel) (by decide) (law_3 Cx hi hLS hl K)
    · exact lv_tableIn (off := 407) (tgt := 446) hx hb dL_law_39 (by decide +kernel) (by decide +kernel) (by decide +kernel) (by decide) (law_4 Cx hi hLS hl K)
    · exact lv_tableIn (off := 487) (tgt := 526) hx hb dL_law_39 (by decide +kernel) (by decide +kernel) (by decide +kernel) (by decide) (law_5 Cx hi hLS hl K)
    · exact lv_tableIn (off := 550) (tgt := 589) hx hb dL_law_39 (by decide +kernel) (by decide +kernel) (by decide +kernel) (by decide) (law_6 Cx hi hLS hl K)
    · exact lv_tableIn (off := 618) (tgt := 657) hx hb dL_law_39 (by decide +kernel) (by decide +kernel) (by decide +kernel) (by decide) (law_7 Cx hi hLS hl K)
    · exact lv_tableIn (off := 674) (tgt := 713) hx hb dL_law_39 (by decide +kernel) (by decide +kernel) (by decide +kernel) (by decide) (law_8 Cx hi hLS hl K)
    · exact lv_tableIn (off := 730) (tgt := 769) hx hb dL_law_39 (by decide +kernel) (by decide +kernel) (by decide +kernel) (by decide) (law_9 Cx hi hLS hl K)
    · exact lv_tableIn (off := 755) (tgt := 794) hx hb dL_law_39 (by decide +kernel) (by decide +kernel) (by decide +kernel) (by decide) (law_10 Cx hi hLS hl K)
    · exact lv_tableIn (off := 823) (tgt := 862) hx hb dL_law_39 (by decide +kernel) (by decide +kernel) (by decide +kernel) (by decide) (law_11 Cx hi hLS hl K)
    · exact lv_tableIn (off := 879) (tgt := 918) hx hb dL_law_39 (by decide +kernel) (by decide +kernel) (by decide +kernel) (by decide) (law_12 Cx hi hLS hl K)
    · exact lv_tableIn (off := 947) (tgt := 986) hx hb dL_law_39 (by decide +kernel) (by decide +kernel) (by decide +kernel) (by decide) (law_13 Cx hi hLS hl K)
    · exact lv_tableIn (off := 1015) (tgt := 1054) hx hb dL_law_39 (by decide +kernel) (by decide +kernel) (by decide +kernel) (by decide) (law_14 Cx hi hLS hl K)
    · refine lv_tableOut (tgt := 1110) hx hb dL_law_39 (Or.inr (by decide +kernel)) (by decide) ?_
      refine W.widen (k := 60 + i + 1) (n := 11000 + 6 * i + 6) (by omega) (by omega) ?_
      exact K H locs ls ⟨la, n, v, C, G, X, D, B, bu, lp, ov, th, LG, LC, ch, hI.mono (Nat.le_succ i), hP, hD, hS⟩ hl
theorem law_loop {p : Program} {l : Launch} {e : Env} {s : State} {m : MethodId} {below : List Frame} {meth : Method} {c : Code} {dC : Nat → ClassId} {dI : Nat → Nat → Nat} {b L : Nat} {xs : Nat → Int32} {o : Nat} {a q r : Nat → Nat} {cI cG cZ cJ : ClassId} {u : Nat} {w : Nat → Nat} (Cx : mcCx p l s m c b L xs dC dI cI cG cZ cJ) (hr : meth.sig.returnType = ret) (hlocks : meth.locks = false) :
    ∀ (k i : Nat), L ≤ i + 4 * k → i ≤ L → ∀ (H : Heap) (locs : List Loc) (ls : Array Slot), mcLS s dC dI o a q r cI cG cZ cJ u w i H locs → lv_has ls 7 [(4, .int (nI i)), (0, .ref b), (1, .ref o), (2, .ref (w 0)), (3, .ref u)] → W p l e room_1 s m #[Value.ref b] below meth c H locs (60 + i) (11000 + 6 * i) (lw_Z below #[Value.ref b] s) (F0 m 23 ls []) := by
  have hL : L ≤ 2048 := Cx.2.2.2.2.2.2.2.2.1
  intro k
  induction k with
  | zero =>
    intro i h1 h2 H locs ls hLS hl
    exact law_body Cx hr hlocks (by omega) hLS hl (fun h => absurd h (by omega))
  | succ k ih =>
    intro i h1 h2 H locs ls hLS hl
    exact law_body Cx hr hlocks (by omega) hLS hl (fun h => ih (i + 4) (by omega) (by omega))
