/-! own rows over the kit: loops, worlds side by side, contracts of methods that only read, that write their world -/
section MK
variable {p : Program} {l : Launch} {e : Env} {R : Room} {s : State} {m : MethodId} {args : Array Value} {below : List Frame} {meth : Method} {c : Code} {cells slots : Nat} {Q : State → Prop}
/-- a loop that writes: at its head a state x of the loop, the heap, the locals -/
theorem lpW {σ : Type} {nL pc : Nat} {st : List Value} (I : σ → Heap → List Loc → Prop) (lv : σ → List (Nat × Value)) (μ : σ → Nat)
    (step : ∀ (x : σ) (H : Heap) (locs : List Loc) (ls : Array Slot), I x H locs → lv_has ls nL (lv x) →
      (∀ (y : σ) (H' : Heap) (locs' : List Loc) (ls' : Array Slot), I y H' locs' → μ y < μ x → lv_has ls' nL (lv y) → W p l e R s m args below meth c H' locs' cells slots Q (F0 m pc ls' st)) →
      W p l e R s m args below meth c H locs cells slots Q (F0 m pc ls st)) :
    ∀ (x : σ) (H : Heap) (locs : List Loc) (ls : Array Slot), I x H locs → lv_has ls nL (lv x) → W p l e R s m args below meth c H locs cells slots Q (F0 m pc ls st) := by
  have h : ∀ (n : Nat) (x : σ) (H : Heap) (locs : List Loc) (ls : Array Slot), μ x < n → I x H locs → lv_has ls nL (lv x) → W p l e R s m args below meth c H locs cells slots Q (F0 m pc ls st) := by
    intro n
    induction n with
    | zero => intro x H locs ls h; exact absurd h (by omega)
    | succ n ih =>
      intro x H locs ls hx hI hl
      exact step x H locs ls hI hl (fun y H' locs' ls' hy hm hl' => ih y H' locs' ls' (by omega) hy hl')
  exact fun x H locs ls hI hl => h (μ x + 1) x H locs ls (by omega) hI hl
/-- a loop that only reads -/
theorem lpR {σ : Type} {nL pc : Nat} {st : List Value} {H : Heap} {locs : List Loc} (I : σ → Prop) (lv : σ → List (Nat × Value)) (μ : σ → Nat)
    (step : ∀ (x : σ) (ls : Array Slot), I x → lv_has ls nL (lv x) →
      (∀ (y : σ) (ls' : Array Slot), I y → μ y < μ x → lv_has ls' nL (lv y) → W p l e R s m args below meth c H locs cells slots Q (F0 m pc ls' st)) →
      W p l e R s m args below meth c H locs cells slots Q (F0 m pc ls st)) :
    ∀ (x : σ) (ls : Array Slot), I x → lv_has ls nL (lv x) → W p l e R s m args below meth c H locs cells slots Q (F0 m pc ls st) := by
  have h : ∀ (n : Nat) (x : σ) (ls : Array Slot), μ x < n → I x → lv_has ls nL (lv x) → W p l e R s m args below meth c H locs cells slots Q (F0 m pc ls st) := by
    intro n
    induction n with
    | zero => intro x ls h; exact absurd h (by omega)
    | succ n ih =>
      intro x ls hx hI hl
      exact step x ls hI hl (fun y ls' hy hm hl' => ih y ls' (by omega) hy hl')
  exact fun x ls hI hl => h (μ x + 1) x ls (by omega) hI hl
end MK
theorem va_P.lft {D : va_G} {cl : List vw_C} {w1 w2 : va_W} {H : Heap} (h : va_P D cl (w1 ++ w2) H) : va_P D cl w1 H := fun k q hk => h k q (by rw [List.getElem?_append_left (List.getElem?_eq_some_iff.mp hk).1]; exact hk)
theorem va_P.rgt {D : va_G} {cl : List vw_C} {w1 w2 : va_W} {H : Heap} (h : va_P D cl (w1 ++ w2) H) : va_P D cl w2 H := fun k q hk => h (w1.length + k) q (by rw [List.getElem?_append_right (by omega), Nat.add_sub_cancel_left]; exact hk)
theorem va_D.lft {A : Nat → Prop} {w1 w2 : va_W} (h : va_D A (w1 ++ w2)) : va_D A w1 := by
  refine ⟨fun i j p q hi hj e => h.1 i j p q ?_ ?_ e, fun k q hk => h.2 k q ?_⟩
  · rw [List.getElem?_append_left (List.getElem?_eq_some_iff.mp hi).1]; exact hi
  · rw [List.getElem?_append_left (List.getElem?_eq_some_iff.mp hj).1]; exact hj
  · rw [List.getElem?_append_left (List.getElem?_eq_some_iff.mp hk).1]; exact hk
theorem va_D.rgt {A : Nat → Prop} {w1 w2 : va_W} (h : va_D A (w1 ++ w2)) : va_D A w2 := by
  have key : ∀ (k : Nat) (q : Nat × va_E), w2[k]? = some q → (w1 ++ w2)[w1.length + k]? = some q := fun k q hk => by rw [List.getElem?_append_right (by omega), Nat.add_sub_cancel_left]; exact hk
  refine ⟨fun i j p q hi hj e => ?_, fun k q hk => h.2 _ q (key k q hk)⟩
  have := h.1 _ _ p q (key i p hi) (key j q hj) e
  omega
/-- apart: no cell of the left world is one of the right one -/
theorem va_D.off {A : Nat → Prop} {w1 w2 : va_W} (h : va_D A (w1 ++ w2)) {i j : Nat} {p q : Nat × va_E} (hi : w1[i]? = some p) (hj : w2[j]? = some q) : p.1 ≠ q.1 := by
  intro e
  have hlt : i < w1.length := (List.getElem?_eq_some_iff.mp hi).1
  have := h.1 i (w1.length + j) p q (by rw [List.getElem?_append_left hlt]; exact hi) (by rw [List.getElem?_append_right (by omega), Nat.add_sub_cancel_left]; exact hj) e
  omega
/-- a callee has changed the left world, and made cells: the right one stands as it was -/
theorem va_jnL {A0 : Nat → Prop} {D : va_G} {cl : List vw_C} {w1 w2 w1' : va_W} {H H1 : Heap} (hP : va_P D cl (w1 ++ w2) H) (hD : va_D A0 (w1 ++ w2))
    (hk : ∀ q : Nat, q < H.size → ¬ va_A w1 H.size q → H1[q]? = H[q]?) (hF : ∀ q, va_A w1 H.size q → A0 q) (hP1 : va_P D cl w1' H1) (hD1 : va_D (va_A w1 H.size) w1') : va_P D cl (w1' ++ w2) H1 ∧ va_D A0 (w1' ++ w2) := by
  have hno : ∀ (k : Nat) (q : Nat × va_E), w2[k]? = some q → ¬ va_A w1 H.size q.1 := by
    intro k q hq hA
    rcases hA with ⟨i, e, hi⟩ | hge
    · exact va_D.off hD hi hq rfl
    · exact absurd (hP.rgt k q hq).lt (by omega)
  refine ⟨hP1.app (hP.rgt.kept (fun k q hq => hk q.1 (hP.rgt k q hq).lt (hno k q hq))), (hD1.weaken (fun k q _ h => hF q.1 h)).app hD.rgt (fun i j p q hi hj e => ?_)⟩
  exact hno j q hj (e ▸ hD1.2 i p hi)
theorem va_jnR {A0 : Nat → Prop} {D : va_G} {cl : List vw_C} {w1 w2 w2' : va_W} {H H1 : Heap} (hP : va_P D cl (w1 ++ w2) H) (hD : va_D A0 (w1 ++ w2))
    (hk : ∀ q : Nat, q < H.size → ¬ va_A w2 H.size q → H1[q]? = H[q]?) (hF : ∀ q, va_A w2 H.size q → A0 q) (hP1 : va_P D cl w2' H1) (hD1 : va_D (va_A w2 H.size) w2') : va_P D cl (w1 ++ w2') H1 ∧ va_D A0 (w1 ++ w2') := by
  have hno : ∀ (k : Nat) (q : Nat × va_E), w1[k]? = some q → ¬ va_A w2 H.size q.1 := by
    intro k q hq hA
    rcases hA with ⟨i, e, hi⟩ | hge
    · exact va_D.off hD hq hi rfl
    · exact absurd (hP.lft k q hq).lt (by omega)
  refine ⟨(hP.lft.kept (fun k q hq => hk q.1 (hP.lft k q hq).lt (hno k q hq))).app hP1, hD.lft.app (hD1.weaken (fun k q _ h => hF q.1 h)) (fun i j p q hi hj e => ?_)⟩
  exact hno i p hi (e ▸ hD1.2 j q hj)
theorem va_freeL {A0 : Nat → Prop} {w1 w2 : va_W} {H0 H : Heap} {locs : List Loc} (hD : va_D A0 (w1 ++ w2)) (hS : va_S A0 H0 H locs) (hA : ∀ q, H0.size ≤ q → A0 q) : ∀ q, va_A w1 H.size q → A0 q := by
  intro q h
  rcases h with ⟨k, e, h⟩ | h
  · exact hD.lft.2 k (q, e) h
  · exact hA q (Nat.le_trans hS.1 h)
theorem va_freeR {A0 : Nat → Prop} {w1 w2 : va_W} {H0 H : Heap} {locs : List Loc} (hD : va_D A0 (w1 ++ w2)) (hS : va_S A0 H0 H locs) (hA : ∀ q, H0.size ≤ q → A0 q) : ∀ q, va_A w2 H.size q → A0 q := by
  intro q h
  rcases h with ⟨k, e, h⟩ | h
  · exact hD.rgt.2 k (q, e) h
  · exact hA q (Nat.le_trans hS.1 h)
/-- what a method that only reads may take as given -/
def roP (D : va_G) (cl : List vw_C) (w : va_W) (tys : List (ClassId × FieldType)) (av : List Value) : Array Value → State → Prop := va_Pc av (fun U => va_P D cl w U.heap ∧ va_K D cl tys U)
theorem roP_blind {D : va_G} {cl : List vw_C} {w : va_W} {tys : List (ClassId × FieldType)} {av : List Value} : FrameBlind (roP D cl w tys av) := fun a U g mk q => by
  obtain ⟨q0, qP, qK⟩ := q
  exact ⟨q0, qP, va_K.moved (u := U) (U := U.calling g mk a) (Vm.Alike.refl U.vm) qK⟩
theorem roP_preS {D : va_G} {cl : List vw_C} {w : va_W} {tys : List (ClassId × FieldType)} {av : List Value} {s : State} {H : Heap} (hP : va_P D cl w H) (hK : va_K D cl tys s) : PreS s H (roP D cl w tys av) av :=
  ⟨roP_blind, fun U hU hW => ⟨rfl, by rw [hU]; exact hP, va_K.moved hW.alike hK⟩⟩
theorem roP_preV {D : va_G} {cl : List vw_C} {w : va_W} {tys : List (ClassId × FieldType)} {As : List Value} {s : State} {H : Heap} {C : vw_C} {b ci q0 : Nat} {fs : List Value} (hP : va_P D cl w H) (hK : va_K D cl tys s) (hc : cl[ci]? = some C) (he : w[q0]? = some (b, .inr (ci, fs))) : PreV s H C.1 b (roP D cl w tys (.ref b :: As)) As :=
  ⟨roP_blind, va_recv hK hP hc he, fun U hU hW => ⟨rfl, by rw [hU]; exact hP, va_K.moved hW.alike hK⟩⟩
/-- a method that writes its world w -/
def wrP (D : va_G) (cl : List vw_C) (w : va_W) (tys : List (ClassId × FieldType)) (sz : Nat) (av : List Value) : Array Value → State → Prop := va_Pc av (fun U => U.heap.size = sz ∧ va_P D cl w U.heap ∧ va_K D cl tys U ∧ va_D (fun _ => True) w)
theorem wrP_blind {D : va_G} {cl : List vw_C} {w : va_W} {tys : List (ClassId × FieldType)} {sz : Nat} {av : List Value} : FrameBlind (wrP D cl w tys sz av) := fun a U g mk q => by
  obtain ⟨q0, q1, qP, qK, qD⟩ := q
  exact ⟨q0, q1, qP, va_K.moved (u := U) (U := U.calling g mk a) (Vm.Alike.refl U.vm) qK, qD⟩
theorem wrP_preS {A : Nat → Prop} {D : va_G} {cl : List vw_C} {w : va_W} {tys : List (ClassId × FieldType)} {av : List Value} {s : State} {H : Heap} (hP : va_P D cl w H) (hK : va_K D cl tys s) (hD : va_D A w) : PreS s H (wrP D cl w tys H.size av) av :=
  ⟨wrP_blind, fun U hU hW => ⟨rfl, by rw [hU], by rw [hU]; exact hP, va_K.moved hW.alike hK, hD.weaken (fun _ _ _ _ => trivial)⟩⟩
theorem wrP_preV {A : Nat → Prop} {D : va_G} {cl : List vw_C} {w : va_W} {tys : List (ClassId × FieldType)} {As : List Value} {s : State} {H : Heap} {C : vw_C} {b ci q0 : Nat} {fs : List Value} (hP : va_P D cl w H) (hK : va_K D cl tys s) (hD : va_D A w) (hc : cl[ci]? = some C) (he : w[q0]? = some (b, .inr (ci, fs))) : PreV s H C.1 b (wrP D cl w tys H.size (.ref b :: As)) As :=
  ⟨wrP_blind, va_recv hK hP hc he, fun U hU hW => ⟨rfl, by rw [hU], by rw [hU]; exact hP, va_K.moved hW.alike hK, hD.weaken (fun _ _ _ _ => trivial)⟩⟩
abbrev wrB (D : va_G) (cl : List vw_C) (w w' : va_W) (tys : List (ClassId × FieldType)) (sz : Nat) (_ : Unit) (t : State) : Prop := va_P D cl w' t.heap ∧ va_K D cl tys t ∧ va_D (va_A w sz) w'
