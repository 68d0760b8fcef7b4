/-! the law from its entry -/
theorem pm_mid {α : Type} (x y z : List α) : ((x ++ y) ++ z).Perm ((x ++ z) ++ y) := by
  rw [List.append_assoc, List.append_assoc]
  exact List.Perm.append_left _ (pm_rot _ _)
theorem mcTh_start {s : State} {b : Nat} (hts : ∀ w ∈ lw_tbl, w.before #[Value.ref b] s = true) (hgv : (Jvm.Cond.and given_1 narrow_1).before #[Value.ref b] s = true) {cM : Nat} (hM : s.vm.findClass RM = some cM) : mcTh s s.heap := by
  have hg := flat_of_before _ hgv
  have hS : ∀ (k : Nat) (t : String), (Cond.stringRef RM k t).before #[Value.ref b] s = true → ∃ sa, vk_R RM k t sa s := by
    intro k t h
    obtain ⟨_, _, _, a, -, -, -, -, -, hev⟩ := Cond.stringRef_spec hM h
    exact ⟨a, vk_R.of h hev⟩
  refine ⟨fun w hw => ?_, fun q hq => ?_, vx_Zqof (hts _ (List.mem_of_getElem? (i := 232) (by decide +kernel))) (hts _ (mcB_in _ kw30)) (hg _ (by decide +kernel)) (fun _ _ h => h), vx_Zqof (hts _ (List.mem_of_getElem? (i := 234) (by decide +kernel))) (hts _ (mcB_in _ kw30)) (hg _ (by decide +kernel)) (fun _ _ h => h), va_Nc.of (hg (.not (.castable mcISE mcIAE)) (by decide +kernel))⟩
  · simp only [mcBw, List.mem_cons, List.not_mem_nil, or_false] at hw
    rcases hw with rfl | rfl | rfl | rfl | rfl
    · exact va_Nw.of rfl (hts _ (List.mem_of_getElem? (i := 207) (by decide +kernel)))
    · exact va_Nw.of rfl (hts _ (List.mem_of_getElem? (i := 274) (by decide +kernel)))
    · exact va_Nw.of rfl (hts _ (List.mem_of_getElem? (i := 209) (by decide +kernel)))
    · exact va_Nw.of rfl (hts _ (List.mem_of_getElem? (i := 211) (by decide +kernel)))
    · exact va_Nw.of rfl (hts _ (List.mem_of_getElem? (i := 213) (by decide +kernel)))
  · simp only [mcSt, List.mem_cons, List.not_mem_nil, or_false] at hq
    rcases hq with rfl | rfl | rfl | rfl | rfl | rfl | rfl
    · exact hS _ _ (hts _ (List.mem_of_getElem? (i := 245) (by decide +kernel)))
    · exact hS _ _ (hts _ (List.mem_of_getElem? (i := 281) (by decide +kernel)))
    · exact hS _ _ (hts _ (List.mem_of_getElem? (i := 307) (by decide +kernel)))
    · exact hS _ _ (hts _ (List.mem_of_getElem? (i := 320) (by decide +kernel)))
    · exact hS _ _ (hts _ (List.mem_of_getElem? (i := 362) (by decide +kernel)))
    · exact hS _ _ (hts _ (List.mem_of_getElem? (i := 408) (by decide +kernel)))
    · exact hS _ _ (hts _ (List.mem_of_getElem? (i := 422) (by decide +kernel)))
theorem mcNw_start {s : State} {b : Nat} (hts : ∀ w ∈ lw_tbl, w.before #[Value.ref b] s = true) : mcNw s :=
  ⟨va_AOA.of (hts _ (List.mem_of_getElem? (i := 51) (by decide +kernel))), va_Nw.of rfl (hts _ (List.mem_of_getElem? (i := 46) (by decide +kernel))), va_Nw.of rfl (hts _ (List.mem_of_getElem? (i := 87) (by decide +kernel))), va_Nw.of rfl (hts _ (List.mem_of_getElem? (i := 107) (by decide +kernel)))⟩
theorem mcK_start {s : State} {b : Nat} (hts : ∀ w ∈ lw_tbl, w.before #[Value.ref b] s = true) : ∃ (dC : Nat → ClassId) (dI : Nat → Nat → Nat), va_K (dC, dI) mcCl [] s := by
  obtain ⟨c0, i0, h0⟩ := u_known (C := RH) (T := FH) (N := 7) (n := 7) hts (fun w h => mcB_in w (inH w h)) (hts _ (mcB_in _ kw45))
  obtain ⟨c1, i1, h1⟩ := u_known (C := RA) (T := FA) (N := 4) (n := 4) hts (fun w h => mcB_in w (inA w h)) (hts _ (mcB_in _ kw84))
  obtain ⟨c2, i2, h2⟩ := u_known (C := RP) (T := FP) (N := 7) (n := 7) hts (fun w h => mcB_in w (inP w h)) (hts _ (mcB_in _ kw103))
  obtain ⟨c3, i3, h3⟩ := u_known (C := RM) (T := FM) (N := 3) (n := 3) hts (fun w h => mcB_in w (inM w h)) (hts _ (mcB_in _ kw37))
  obtain ⟨c4, i4, h4⟩ := u_known (C := RR) (T := FR) (N := 11) (n := 11) hts (fun w h => mcB_in w (inR w h)) (hts _ (mcB_in _ kw454))
  refine ⟨fun k => match k with
    | 0 => c0
    | 1 => c1
    | 2 => c2
    | 3 => c3
    | _ => c4, fun k => match k with
    | 0 => i0
    | 1 => i1
    | 2 => i2
    | 3 => i3
    | _ => i4, fun k q hq => ?_, fun k q h => by simp at h⟩
  match k, hq with
  | 0, hq => cases hq; exact h0
  | 1, hq => cases hq; exact h1
  | 2, hq => cases hq; exact h2
  | 3, hq => cases hq; exact h3
  | 4, hq => cases hq; exact h4
  | k + 5, hq => simp [mcCl] at hq
set_option maxHeartbeats 4000000 in
set_option maxRecDepth 100000 in
theorem whole_start {p : Program} {e : Env} {s : State} {m : MethodId} {below : List Frame} {meth : Method} {c : Code} (l : Launch) (hlt : l.stackTraces = false) {b L : Nat} {xs : Nat → Int32} (hL : L ≤ 2048) (C0 : lw_At p s m meth c b L xs) : W p l e room_1 s m #[Value.ref b] below meth c s.heap [] 0 0 (lw_Z below #[Value.ref b] s) (entryFrame m ([Value.ref b] : List Value).toArray 7) := by
  obtain ⟨hx, hb, hr, hml, hown, hts, hX, hbl, hlocks, hgv⟩ := C0
  have hown : s.vm.findClass RL = some m.cls := hown
  have hA : ∀ q : Nat, s.heap.size ≤ q → mcAA s q := fun _ h => h
  have hN : mcNw s := mcNw_start hts
  obtain ⟨dC, dI, hK0⟩ := mcK_start hts
  obtain ⟨cI, cG, cZ, cJ, hK⟩ := mcK4 (hts _ (mcB_in _ kw82)) hN.1 (hts _ (mcB_in _ kw493)) (hts _ (mcB_in _ kw596)) hK0
  have hTh : mcTh s s.heap := mcTh_start hts hgv (hK.1 3 _ rfl).2.1
  have Cx : mcCx p l s m c b L xs dC dI cI cG cZ cJ := ⟨hx, hb, hml, hown, hts, hX, hbl, hlt, hL, hK, hTh⟩
  have hS : va_S (mcAA s) s.heap s.heap [] := va_S.rf
  have hP : va_P (dC, dI) mcCl [] s.heap := fun k q h => by simp at h
  have hD : va_D (mcAA s) [] := ⟨fun i j p q h => by simp at h, fun k q h => by simp at h⟩
  have hl := lv_entry ([.ref b]) (n := 7) (Nat.le_of_ble_eq_true rfl)
  rw [lg_entry_eq]
  generalize (lg_sl ([.ref b]) ++ List.replicate (7 - (lg_sl ([.ref b])).length) Slot.unset).toArray = ls at hl ⊢
  have hl : lv_has ls 7 [(0, .ref b)] := hl
  refine va_new (ci := 3) (fs := [.null, .null, .null]) (C := RM) (T := FM) (N := 3) hx hb hts (fun w h => mcB_in w (inM w h)) tM tM_ok hown (hts _ (mcB_in _ kw36)) (hts _ (mcB_in _ kw37)) (hts _ (mcB_in _ kw25)) hK hP hD hS hA rfl (fun j hj => by rcases (show j = 0 ∨ j = 1 ∨ j = 2 by omega) with rfl | rfl | rfl <;> rfl) (Nat.le_of_ble_eq_true rfl) (Nat.le_of_ble_eq_true rfl) dL_law_0 (fun o H hP hD hS => ?_)
  refine lv_dup hx hb dL_law_3 rfl ?_
  have hP : va_P (dC, dI) mcCl ([(o, .inr (3, [.null, .null, .null]))] ++ []) H := hP
  have hD : va_D (mcAA s) ([(o, .inr (3, [.null, .null, .null]))] ++ []) := hD
  refine mcCallI (w := [(o, .inr (3, [.null, .null, .null]))]) (rest := [.ref o]) ⟨hx, hb, hml, hown, hts⟩ mcB_in (c_M_init l dC dI o cI cG cZ cJ H.size) kw38 kw39 kw25 kw40 ⟨rfl, rfl⟩ rfl (by decide +kernel) ⟨Nat.le_of_ble_eq_true rfl, Nat.le_of_ble_eq_true rfl⟩ hP.lft hK hD.lft hN hS (va_freeL hD hS hA) hl.1 rfl (Nat.le_of_ble_eq_true rfl) ⟨Nat.le_of_ble_eq_true rfl, Nat.le_of_ble_eq_true rfl⟩ dL_law_4 (fun x1 H1 locs1 hu hP1 hD1 hk1 hS1 => ?_)
  obtain ⟨a, q, r⟩ := x1
  obtain ⟨hPn, hDn⟩ := va_jnL hP hD hk1 (va_freeL hD hS hA) hP1 hD1
  have hS := hS1
  rw [List.append_nil] at hPn hDn
  have hP : va_P (dC, dI) mcCl (mcWT o a q r cI cG (0, -1, fun _ => 0, fun _ => 0) 0 0 (fun _ => 0) (fun _ => 0) (fun _ => 0) (fun _ => 0) (fun _ _ => 0) (fun _ => 0) (fun _ _ => 0, fun _ _ => 0, fun _ => 0, fun _ => 0, fun _ => 0, 0)) H1 := hPn
  have hD : va_D (mcAA s) (mcWT o a q r cI cG (0, -1, fun _ => 0, fun _ => 0) 0 0 (fun _ => 0) (fun _ => 0) (fun _ => 0) (fun _ => 0) (fun _ _ => 0) (fun _ => 0) (fun _ _ => 0, fun _ _ => 0, fun _ => 0, fun _ => 0, fun _ => 0, 0)) := hDn
  refine lv_astore_n (lv' := [(1, .ref o), (0, .ref b)]) hx hb dL_law_7 rfl hl (by decide) rfl (fun ls hl => ?_)
  refine va_new (ci := 4) (fs := [.int 0, .int 0, .null, .null, .null, .null, .null, .null, .null, .null, .null]) (C := RR) (T := FR) (N := 11) hx hb hts (fun w h => mcB_in w (inR w h)) tR tR_ok hown (hts _ (mcB_in _ kw453)) (hts _ (mcB_in _ kw454)) (hts _ (mcB_in _ kw29)) hK hP hD hS hA rfl (fun j hj => by rcases (show j = 0 ∨ j = 1 ∨ j = 2 ∨ j = 3 ∨ j = 4 ∨ j = 5 ∨ j = 6 ∨ j = 7 ∨ j = 8 ∨ j = 9 ∨ j = 10 by omega) with rfl | rfl | rfl | rfl | rfl | rfl | rfl | rfl | rfl | rfl | rfl <;> rfl) (Nat.le_of_ble_eq_true rfl) (Nat.le_of_ble_eq_true rfl) dL_law_8 (fun w0 H hP hD hS => ?_)
  refine lv_dup hx hb dL_law_11 rfl ?_
  have hPt := P_perm (pm_rot (mcWT o a q r cI cG (0, -1, fun _ => 0, fun _ => 0) 0 0 (fun _ => 0) (fun _ => 0) (fun _ => 0) (fun _ => 0) (fun _ _ => 0) (fun _ => 0) (fun _ _ => 0, fun _ _ => 0, fun _ => 0, fun _ => 0, fun _ => 0, 0) : va_W) [(w0, .inr (4, [.int 0, .int 0, .null, .null, .null, .null, .null, .null, .null, .null, .null]))]) hP
  have hDt := D_perm (pm_rot (mcWT o a q r cI cG (0, -1, fun _ => 0, fun _ => 0) 0 0 (fun _ => 0) (fun _ => 0) (fun _ => 0) (fun _ => 0) (fun _ _ => 0) (fun _ => 0) (fun _ _ => 0, fun _ _ => 0, fun _ => 0, fun _ => 0, fun _ => 0, 0) : va_W) [(w0, .inr (4, [.int 0, .int 0, .null, .null, .null, .null, .null, .null, .null, .null, .null]))]) hD
  refine mcCallI (w := [(w0, .inr (4, [.int 0, .int 0, .null, .null, .null, .null, .null, .null, .null, .null, .null]))]) (rest := [.ref w0]) ⟨hx, hb, hml, hown, hts⟩ mcB_in (c_R_init l dC dI w0 cI cG cZ cJ H.size) kw455 kw456 kw29 kw457 ⟨rfl, rfl⟩ rfl (by decide +kernel) ⟨Nat.le_of_ble_eq_true rfl, Nat.le_of_ble_eq_true rfl⟩ hPt.lft hK hDt.lft hN hS (va_freeL hDt hS hA) hl.1 rfl (Nat.le_of_ble_eq_true rfl) ⟨Nat.le_of_ble_eq_true rfl, Nat.le_of_ble_eq_true rfl⟩ dL_law_12 (fun w H1 locs1 hu hP1 hD1 hk1 hS1 => ?_)
  obtain ⟨hPn, hDn⟩ := va_jnL hPt hDt hk1 (va_freeL hDt hS hA) hP1 hD1
  have hS := hS1
  have hPm := P_perm (pm_rot (mcWR w cI cZ 0 0 (fun _ => 0) (fun _ => 0) (fun _ => 0) (fun _ => 0) (fun _ _ => 0) (fun _ => 0) (fun _ => 0) (fun _ => 0) (fun _ => 0) : va_W) (mcWT o a q r cI cG (0, -1, fun _ => 0, fun _ => 0) 0 0 (fun _ => 0) (fun _ => 0) (fun _ => 0) (fun _ => 0) (fun _ _ => 0) (fun _ => 0) (fun _ _ => 0, fun _ _ => 0, fun _ => 0, fun _ => 0, fun _ => 0, 0))) hPn
  have hDm := D_perm (pm_rot (mcWR w cI cZ 0 0 (fun _ => 0) (fun _ => 0) (fun _ => 0) (fun _ => 0) (fun _ _ => 0) (fun _ => 0) (fun _ => 0) (fun _ => 0) (fun _ => 0) : va_W) (mcWT o a q r cI cG (0, -1, fun _ => 0, fun _ => 0) 0 0 (fun _ => 0) (fun _ => 0) (fun _ => 0) (fun _ => 0) (fun _ _ => 0) (fun _ => 0) (fun _ _ => 0, fun _ _ => 0, fun _ => 0, fun _ => 0, fun _ => 0, 0))) hDn
  have hu : w 0 = w0 := hu
  subst hu
  have hP := hPm
  have hD := hDm
  refine lv_astore_n (lv' := [(2, .ref (w 0)), (1, .ref o), (0, .ref b)]) hx hb dL_law_15 rfl hl (by decide) rfl (fun ls hl => ?_)
  refine lv_iconst (v := 1) hx hb dL_law_16 (by decide) ?_
  refine newaN (ty := .long) hx hb rfl ra_long (hts _ (mcB_in _ kw596)) hK 3 rfl hP hD hS hA 1 (1, .inr (.inl (fun _ => 0))) (fun _ => rfl) (by decide) (by decide) (by decide) (Nat.le_of_ble_eq_true rfl) (Nat.le_of_ble_eq_true rfl) dL_law_17 (fun u H hP hD hS => ?_)
  have pmf : ((mcWT o a q r cI cG (0, -1, fun _ => 0, fun _ => 0) 0 0 (fun _ => 0) (fun _ => 0) (fun _ => 0) (fun _ => 0) (fun _ _ => 0) (fun _ => 0) (fun _ _ => 0, fun _ _ => 0, fun _ => 0, fun _ => 0, fun _ => 0, 0) ++ mcWR w cI cZ 0 0 (fun _ => 0) (fun _ => 0) (fun _ => 0) (fun _ => 0) (fun _ _ => 0) (fun _ => 0) (fun _ => 0) (fun _ => 0) (fun _ => 0)) ++ [(u, .inl (cJ, 1, .inr (.inl (fun _ => 0))))] : va_W).Perm ((mcWT o a q r cI cG (0, -1, fun _ => 0, fun _ => 0) 0 0 (fun _ => 0) (fun _ => 0) (fun _ => 0) (fun _ => 0) (fun _ _ => 0) (fun _ => 0) (fun _ _ => 0, fun _ _ => 0, fun _ => 0, fun _ => 0, fun _ => 0, 0) ++ [(u, .inl (cJ, 1, .inr (.inl (fun _ => 0))))]) ++ mcWR w cI cZ 0 0 (fun _ => 0) (fun _ => 0) (fun _ => 0) (fun _ => 0) (fun _ _ => 0) (fun _ => 0) (fun _ => 0) (fun _ => 0) (fun _ => 0)) := pm_mid _ _ _
  have hP := P_perm pmf hP
  have hD := D_perm pmf hD
  refine lv_astore_n (lv' := [(3, .ref u), (2, .ref (w 0)), (1, .ref o), (0, .ref b)]) hx hb dL_law_19 rfl hl (by decide) rfl (fun ls hl => ?_)
  refine lv_iconst (v := 0) hx hb dL_law_20 (by decide) ?_
  refine lv_istore (lv' := [(4, .int (nI 0)), (3, .ref u), (2, .ref (w 0)), (1, .ref o), (0, .ref b)]) hx hb dL_law_21 hl (by decide) rfl (fun ls hl => ?_)
  refine W.widen (k := 60 + 0) (n := 11000 + 6 * 0) (by decide) (by decide) ?_
  exact law_loop Cx hr hlocks L 0 (by omega) (Nat.zero_le _) H _ ls ⟨(0, -1, fun _ => 0, fun _ => 0), 0, 0, fun _ => 0, fun _ => 0, fun _ => 0, fun _ => 0, fun _ _ => 0, fun _ => 0, (fun _ _ => 0, fun _ _ => 0, fun _ => 0, fun _ => 0, fun _ => 0, 0), fun _ => 0, 0, fun _ => 0, fun _ => 0, fun _ => 0, mcInv.new, hP, hD, hS⟩ (lv_sub hl [0, 4, 3, 2, 1] rfl)
