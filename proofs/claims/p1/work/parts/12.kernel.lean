theorem in_X5_init_X1 : ∀ w ∈ wsX10, w ∈ wsX5_init := by decide +kernel
theorem in_X5_init_X5 : ∀ w ∈ wsX50, w ∈ wsX5_init := by decide +kernel
set_option maxHeartbeats 4000000 in
set_option maxRecDepth 100000 in
/-- Kernel(works, 3) -/
theorem c_X5_init_3 (l : Launch) (dC : Nat → ClassId) (dI : Nat → Nat → Nat) (h0 : Nat) (aw : Nat) (sz : Nat) : Met l yX5_init wsX5_init ({ frames := 2, cells := 50, slots := 156, locals := 32 }) (va_Pc [.ref h0, .ref aw, .int 3] (fun U => U.heap.size = sz ∧ va_P (dC, dI) vwCl [(h0, .inr (5, [.null, .int 0, .null, .null, .null, .null, .null, .null, .null, .null, .null, .null, .null, .null, .null, .int 0, .int 0, .int 0]))] U.heap ∧ va_K (dC, dI) vwCl [] U ∧ va_D (fun _ => True) [(h0, .inr (5, [.null, .int 0, .null, .null, .null, .null, .null, .null, .null, .null, .null, .null, .null, .null, .null, .int 0, .int 0, .int 0]))] ∧ w_N U)) (va_Qv (fun _ : Unit => True) (fun _ t => ∃ (fs : List Value), va_P (dC, dI) vwCl [(h0, .inr (5, fs))] t.heap ∧ va_K (dC, dI) vwCl [] t ∧ va_D (va_A [(h0, .inr (5, [.null, .int 0, .null, .null, .null, .null, .null, .null, .null, .null, .null, .null, .null, .null, .null, .int 0, .int 0, .int 0]))] sz) [(h0, .inr (5, fs))]) (va_A [(h0, .inr (5, [.null, .int 0, .null, .null, .null, .null, .null, .null, .null, .null, .null, .null, .null, .null, .null, .int 0, .int 0, .int 0]))] sz)) 50 156 (va_A [(h0, .inr (5, [.null, .int 0, .null, .null, .null, .null, .null, .null, .null, .null, .null, .null, .null, .null, .null, .int 0, .int 0, .int 0]))] sz) := by
  refine Met.ofW (cc := cX5_init) (maxL := 4) (ret := none) (by decide) rfl ?_
  intro p e s m args below meth c s₁ B hml hv
  obtain ⟨rfl, hsz, hP, hK, hD0, hN⟩ := hv
  have hx := B.exec
  have hb := B.bytes
  have hr := B.returns
  have hts := atoms_spec (ws := wsX5_init) B.pre
  have hown : s.vm.findClass RX5 = some m.cls := findClass_of_methodNamed B.named
  have hlocks := B.notSynchronized
  have hin : meth.name = "<init>" := (name_of_methodNamed B.named B.method).1
  subst hsz
  have hD := hD0.self (sz := s.heap.size)
  generalize hAe : va_A [(h0, .inr (5, [.null, .int 0, .null, .null, .null, .null, .null, .null, .null, .null, .null, .null, .null, .null, .null, .int 0, .int 0, .int 0]))] s.heap.size = A at hD ⊢
  have hA : ∀ q : Nat, s.heap.size ≤ q → A q := fun q h => by rw [← hAe]; exact Or.inr h
  have hS : va_S A s.heap s.heap [] := va_S.rf
  have hP : va_P (dC, dI) vwCl [(h0, .inr (5, [.null, .int 0, .null, .null, .null, .null, .null, .null, .null, .null, .null, .null, .null, .null, .null, .int 0, .int 0, .int 0]))] s.heap := hP
  have hl := lv_entry ([.ref h0, .ref aw, .int 3]) (n := 4) (Nat.le_of_ble_eq_true rfl)
  rw [lg_entry_eq]
  generalize (lg_sl ([.ref h0, .ref aw, .int 3]) ++ List.replicate (4 - (lg_sl ([.ref h0, .ref aw, .int 3])).length) Slot.unset).toArray = ls at hl ⊢
  have hl : lv_has ls 4 [(0, .ref h0), (1, .ref aw), (2, .int 3)] := hl
  refine gen_W (fun Q0 hQ0 => ?_)
  refine lv_aload_n hx hb dX5_init_0 rfl (lv_at hl 0 rfl) ?_
  refine W.objInit hx hb hown (hts (.methodLink RX5 3 objectInit) (List.mem_of_getElem? (i := 1) rfl)) (hts (.instanceMethod objectInit) (List.mem_of_getElem? (i := 2) rfl)) (hts _ (List.mem_of_getElem? (i := 3) rfl)) rfl (by rw [hml]; exact hl.1) rfl dX5_init_1 (Nat.le_of_ble_eq_true rfl) (Nat.le_of_ble_eq_true rfl) ?_
  refine W.eq (g2 := F0 m 4 ls []) rfl ?_
  refine lv_aload_n hx hb dX5_init_4 rfl (lv_at hl 0 rfl) ?_
  refine va_new (ci := 1) (fs := [.int 0, .int 0, .null]) (C := RX1) (T := TX1) (N := 3) hx hb hts (in_X5_init_X1) tyX1 tyX1_ok hown (hts (.classLink RX5 9 RX1) (List.mem_of_getElem? (i := 4) rfl)) (hts (.instantiable RX1 3) (List.mem_of_getElem? (i := 5) rfl)) (hts (.initialized RX1) (List.mem_of_getElem? (i := 6) rfl)) hK hP hD hS hA rfl (fun j hj => by rcases (show j = 0 ∨ j = 1 ∨ j = 2 by omega) with rfl | rfl | rfl <;> rfl) (Nat.le_of_ble_eq_true rfl) (Nat.le_of_ble_eq_true rfl) dX5_init_5 ?_
  clear hP hD hS; try clear H
  intro q_1 H hP hD hS
  replace hP : va_P (dC, dI) vwCl [(h0, .inr (5, [.null, .int 0, .null, .null, .null, .null, .null, .null, .null, .null, .null, .null, .null, .null, .null, .int 0, .int 0, .int 0])), (q_1, .inr (1, [.int 0, .int 0, .null]))] H := hP
  replace hD : va_D A [(h0, .inr (5, [.null, .int 0, .null, .null, .null, .null, .null, .null, .null, .null, .null, .null, .null, .null, .null, .int 0, .int 0, .int 0])), (q_1, .inr (1, [.int 0, .int 0, .null]))] := hD
  refine lv_dup hx hb dX5_init_8 rfl ?_
  have hPc := hP.sub (ws' := [(q_1, .inr (1, [.int 0, .int 0, .null]))]) [1] rfl
  have hDc := hD.sub (ws' := [(q_1, .inr (1, [.int 0, .int 0, .null]))]) [1] (by decide) rfl
  have hKc := hK.sub (tys' := []) [] rfl
  have hFc := va_free (wc := [(q_1, .inr (1, [.int 0, .int 0, .null]))]) hD hS hA [1] rfl
  refine va_callv (va_runIN (As := []) (rest := [.ref q_1, .ref h0]) ⟨hx, hb, hml, hown, hts⟩ (c_X1_init l dC dI q_1 H.size) ⟨va_cnB 0 hts gX5_init_X1_init_n11 rfl rfl rfl (hN.1 (RX5, 11, yX1_init, RX11) (List.mem_of_getElem? (i := 6) rfl)) (hts (.initialized RX1) (List.mem_of_getElem? (i := 6) rfl)) hd_X1_init ⟨Nat.le_of_ble_eq_true rfl, Nat.le_of_ble_eq_true rfl⟩, rfl, (hts (.instanceMethod yX1_init) (List.mem_of_getElem? (i := 30) rfl))⟩ ⟨fun a U g mk q => by obtain ⟨q0, q1, qP, qK, qD, qE0⟩ := q; exact ⟨q0, q1, qP, va_K.moved (u := U) (U := U.calling g mk a) (Vm.Alike.refl U.vm) qK, qD, w_N.same rfl qE0⟩, fun U hU hW => ⟨rfl, by rw [hU], by rw [hU]; exact hPc, va_K.moved hW.alike hKc, hDc.weaken (fun _ _ _ _ => trivial), w_N.warm hW hN⟩⟩ rfl rfl hl.1 rfl (lv_room (Nat.le_of_ble_eq_true rfl)) dX5_init_9 ⟨(Nat.le_of_ble_eq_true rfl), (Nat.le_of_ble_eq_true rfl)⟩) hS (fun q _ h => hFc q h) hFc (fun u t H1 locs1 ht hvm hw hB hz1 hk1 hS1 => ?_)
  obtain ⟨f_2, hP1, hK1, hD1⟩ := hB
  rw [ht] at hP1
  have hK1 := va_K.moved hvm.symm hK1
  have hJ := va_join (wr := [(h0, .inr (5, [.null, .int 0, .null, .null, .null, .null, .null, .null, .null, .null, .null, .null, .null, .null, .null, .int 0, .int 0, .int 0]))]) (w1 := [(q_1, .inr (1, f_2))]) hP hD [1] [0] rfl rfl (by decide) (by decide) hk1 hFc hP1 hD1
  clear hP hD hPc hDc hKc hFc hz1 hw; try clear hk1
  obtain ⟨hP, hD⟩ := hJ
  replace hK := (hK.sub (tys' := []) [] rfl).app (hK1.sub (tys' := []) [] rfl)
  clear hP1 hK1 hD1 hvm ht hS; try clear t
  try clear H
  revert hS1
  intro hS
  generalize H1 = H at hP hS ⊢; try clear H1
  replace hP : va_P (dC, dI) vwCl [(h0, .inr (5, [.null, .int 0, .null, .null, .null, .null, .null, .null, .null, .null, .null, .null, .null, .null, .null, .int 0, .int 0, .int 0])), (q_1, .inr (1, f_2))] H := hP
  replace hD : va_D A [(h0, .inr (5, [.null, .int 0, .null, .null, .null, .null, .null, .null, .null, .null, .null, .null, .null, .null, .null, .int 0, .int 0, .int 0])), (q_1, .inr (1, f_2))] := hD
  replace hK : va_K (dC, dI) vwCl [] s := hK
  refine va_putF (D := (dC, dI)) (ci := 5) (v := .ref q_1) (ty := .object "MotionSigns$Big") (C := RX5) (T := TX5) (N := 18) hx hb hts (in_X5_init_X5) tyX5 tyX5_ok nmX5 hown hK hP hD hS 0 rfl rfl 8 (by decide) (hts (.fieldLink RX5 12 "MotionSigns$Kernel" "nought" "LMotionSigns$Big;") (List.mem_of_getElem? (i := 7) rfl)) (fun _ h9 => h9) rfl hin rfl (tyX5_ok 8 (by decide)) rfl rfl (Nat.le_of_ble_eq_true rfl) dX5_init_12 ?_
  clear hP hD hS; try clear H
  intro H locs hP hD hS
  replace hP : va_P (dC, dI) vwCl [(h0, .inr (5, [.null, .int 0, .null, .null, .null, .null, .null, .null, .ref q_1, .null, .null, .null, .null, .null, .null, .int 0, .int 0, .int 0])), (q_1, .inr (1, f_2))] H := hP
  replace hD : va_D A [(h0, .inr (5, [.null, .int 0, .null, .null, .null, .null, .null, .null, .ref q_1, .null, .null, .null, .null, .null, .null, .int 0, .int 0, .int 0])), (q_1, .inr (1, f_2))] := hD
  replace hP := hP.sub (ws' := [(h0, .inr (5, [.null, .int 0, .null, .null, .null, .null, .null, .null, .ref q_1, .null, .null, .null, .null, .null, .null, .int 0, .int 0, .int 0]))]) [0] rfl
  replace hD := hD.sub (ws' := [(h0, .inr (5, [.null, .int 0, .null, .null, .null, .null, .null, .null, .ref q_1, .null, .null, .null, .null, .null, .null, .int 0, .int 0, .int 0]))]) [0] (by decide) rfl
  refine lv_aload_n hx hb dX5_init_15 rfl (lv_at hl 0 rfl) ?_
  refine va_new (ci := 1) (fs := [.int 0, .int 0, .null]) (C := RX1) (T := TX1) (N := 3) hx hb hts (in_X5_init_X1) tyX1 tyX1_ok hown (hts (.classLink RX5 9 RX1) (List.mem_of_getElem? (i := 4) rfl)) (hts (.instantiable RX1 3) (List.mem_of_getElem? (i := 5) rfl)) (hts (.initialized RX1) (List.mem_of_getElem? (i := 6) rfl)) hK hP hD hS hA rfl (fun j hj => by rcases (show j = 0 ∨ j = 1 ∨ j = 2 by omega) with rfl | rfl | rfl <;> rfl) (Nat.le_of_ble_eq_true rfl) (Nat.le_of_ble_eq_true rfl) dX5_init_16 ?_
  clear hP hD hS; try clear H
  intro q_3 H hP hD hS
  replace hP : va_P (dC, dI) vwCl [(h0, .inr (5, [.null, .int 0, .null, .null, .null, .null, .null, .null, .ref q_1, .null, .null, .null, .null, .null, .null, .int 0, .int 0, .int 0])), (q_3, .inr (1, [.int 0, .int 0, .null]))] H := hP
  replace hD : va_D A [(h0, .inr (5, [.null, .int 0, .null, .null, .null, .null, .null, .null, .ref q_1, .null, .null, .null, .null, .null, .null, .int 0, .int 0, .int 0])), (q_3, .inr (1, [.int 0, .int 0, .null]))] := hD
  refine lv_dup hx hb dX5_init_19 rfl ?_
  have hPc := hP.sub (ws' := [(q_3, .inr (1, [.int 0, .int 0, .null]))]) [1] rfl
  have hDc := hD.sub (ws' := [(q_3, .inr (1, [.int 0, .int 0, .null]))]) [1] (by decide) rfl
  have hKc := hK.sub (tys' := []) [] rfl
  have hFc := va_free (wc := [(q_3, .inr (1, [.int 0, .int 0, .null]))]) hD hS hA [1] rfl
  refine va_callv (va_runIN (As := []) (rest := [.ref q_3, .ref h0]) ⟨hx, hb, hml, hown, hts⟩ (c_X1_init l dC dI q_3 H.size) ⟨va_cnB 0 hts gX5_init_X1_init_n11 rfl rfl rfl (hN.1 (RX5, 11, yX1_init, RX11) (List.mem_of_getElem? (i := 6) rfl)) (hts (.initialized RX1) (List.mem_of_getElem? (i := 6) rfl)) hd_X1_init ⟨Nat.le_of_ble_eq_true rfl, Nat.le_of_ble_eq_true rfl⟩, rfl, (hts (.instanceMethod yX1_init) (List.mem_of_getElem? (i := 30) rfl))⟩ ⟨fun a U g mk q => by obtain ⟨q0, q1, qP, qK, qD, qE0⟩ := q; exact ⟨q0, q1, qP, va_K.moved (u := U) (U := U.calling g mk a) (Vm.Alike.refl U.vm) qK, qD, w_N.same rfl qE0⟩, fun U hU hW => ⟨rfl, by rw [hU], by rw [hU]; exact hPc, va_K.moved hW.alike hKc, hDc.weaken (fun _ _ _ _ => trivial), w_N.warm hW hN⟩⟩ rfl rfl hl.1 rfl (lv_room (Nat.le_of_ble_eq_true rfl)) dX5_init_20 ⟨(Nat.le_of_ble_eq_true rfl), (Nat.le_of_ble_eq_true rfl)⟩) hS (fun q _ h => hFc q h) hFc (fun u t H1 locs1 ht hvm hw hB hz1 hk1 hS1 => ?_)
  obtain ⟨f_4, hP1, hK1, hD1⟩ := hB
  rw [ht] at hP1
  have hK1 := va_K.moved hvm.symm hK1
  have hJ := va_join (wr := [(h0, .inr (5, [.null, .int 0, .null, .null, .null, .null, .null, .null, .ref q_1, .null, .null, .null, .null, .null, .null, .int 0, .int 0, .int 0]))]) (w1 := [(q_3, .inr (1, f_4))]) hP hD [1] [0] rfl rfl (by decide) (by decide) hk1 hFc hP1 hD1
  clear hP hD hPc hDc hKc hFc hz1 hw; try clear hk1
  obtain ⟨hP, hD⟩ := hJ
  replace hK := (hK.sub (tys' := []) [] rfl).app (hK1.sub (tys' := []) [] rfl)
  clear hP1 hK1 hD1 hvm ht hS; try clear t
  try clear H
  revert hS1
  intro hS
  generalize H1 = H at hP hS ⊢; try clear H1
  replace hP : va_P (dC, dI) vwCl [(h0, .inr (5, [.null, .int 0, .null, .null, .null, .null, .null, .null, .ref q_1, .null, .null, .null, .null, .null, .null, .int 0, .int 0, .int 0])), (q_3, .inr (1, f_4))] H := hP
  replace hD : va_D A [(h0, .inr (5, [.null, .int 0, .null, .null, .null, .null, .null, .null, .ref q_1, .null, .null, .null, .null, .null, .null, .int 0, .int 0, .int 0])), (q_3, .inr (1, f_4))] := hD
  replace hK : va_K (dC, dI) vwCl [] s := hK
  refine va_putF (D := (dC, dI)) (ci := 5) (v := .ref q_3) (ty := .object "MotionSigns$Big") (C := RX5) (T := TX5) (N := 18) hx hb hts (in_X5_init_X5) tyX5 tyX5_ok nmX5 hown hK hP hD hS 0 rfl rfl 9 (by decide) (hts (.fieldLink RX5 18 "MotionSigns$Kernel" "mine" "LMotionSigns$Big;") (List.mem_of_getElem? (i := 8) rfl)) (fun _ h9 => h9) rfl hin rfl (tyX5_ok 9 (by decide)) rfl rfl (Nat.le_of_ble_eq_true rfl) dX5_init_23 ?_
  clear hP hD hS; try clear H
  intro H locs hP hD hS
  replace hP : va_P (dC, dI) vwCl [(h0, .inr (5, [.null, .int 0, .null, .null, .null, .null, .null, .null, .ref q_1, .ref q_3, .null, .null, .null, .null, .null, .int 0, .int 0, .int 0])), (q_3, .inr (1, f_4))] H := hP
  replace hD : va_D A [(h0, .inr (5, [.null, .int 0, .null, .null, .null, .null, .null, .null, .ref q_1, .ref q_3, .null, .null, .null, .null, .null, .int 0, .int 0, .int 0])), (q_3, .inr (1, f_4))] := hD
  replace hP := hP.sub (ws' := [(h0, .inr (5, [.null, .int 0, .null, .null, .null, .null, .null, .null, .ref q_1, .ref q_3, .null, .null, .null, .null, .null, .int 0, .int 0, .int 0]))]) [0] rfl
  replace hD := hD.sub (ws' := [(h0, .inr (5, [.null, .int 0, .null, .null, .null, .null, .null, .null, .ref q_1, .ref q_3, .null, .null, .null, .null, .null, .int 0, .int 0, .int 0]))]) [0] (by decide) rfl
  refine lv_aload_n hx hb dX5_init_26 rfl (lv_at hl 0 rfl) ?_
  refine va_new (ci := 1) (fs := [.int 0, .int 0, .null]) (C := RX1) (T := TX1) (N := 3) hx hb hts (in_X5_init_X1) tyX1 tyX1_ok hown (hts (.classLink RX5 9 RX1) (List.mem_of_getElem? (i := 4) rfl)) (hts (.instantiable RX1 3) (List.mem_of_getElem? (i := 5) rfl)) (hts (.initialized RX1) (List.mem_of_getElem? (i := 6) rfl)) hK hP hD hS hA rfl (fun j hj => by rcases (show j = 0 ∨ j = 1 ∨ j = 2 by omega) with rfl | rfl | rfl <;> rfl) (Nat.le_of_ble_eq_true rfl) (Nat.le_of_ble_eq_true rfl) dX5_init_27 ?_
  clear hP hD hS; try clear H
  intro q_5 H hP hD hS
  replace hP : va_P (dC, dI) vwCl [(h0, .inr (5, [.null, .int 0, .null, .null, .null, .null, .null, .null, .ref q_1, .ref q_3, .null, .null, .null, .null, .null, .int 0, .int 0, .int 0])), (q_5, .inr (1, [.int 0, .int 0, .null]))] H := hP
  replace hD : va_D A [(h0, .inr (5, [.null, .int 0, .null, .null, .null, .null, .null, .null, .ref q_1, .ref q_3, .null, .null, .null, .null, .null, .int 0, .int 0, .int 0])), (q_5, .inr (1, [.int 0, .int 0, .null]))] := hD
  refine lv_dup hx hb dX5_init_30 rfl ?_
  have hPc := hP.sub (ws' := [(q_5, .inr (1, [.int 0, .int 0, .null]))]) [1] rfl
  have hDc := hD.sub (ws' := [(q_5, .inr (1, [.int 0, .int 0, .null]))]) [1] (by decide) rfl
  have hKc := hK.sub (tys' := []) [] rfl
  have hFc := va_free (wc := [(q_5, .inr (1, [.int 0, .int 0, .null]))]) hD hS hA [1] rfl
  refine va_callv (va_runIN (As := []) (rest := [.ref q_5, .ref h0]) ⟨hx, hb, hml, hown, hts⟩ (c_X1_init l dC dI q_5 H.size) ⟨va_cnB 0 hts gX5_init_X1_init_n11 rfl rfl rfl (hN.1 (RX5, 11, yX1_init, RX11) (List.mem_of_getElem? (i := 6) rfl)) (hts (.initialized RX1) (List.mem_of_getElem? (i := 6) rfl)) hd_X1_init ⟨Nat.le_of_ble_eq_true rfl, Nat.le_of_ble_eq_true rfl⟩, rfl, (hts (.instanceMethod yX1_init) (List.mem_of_getElem? (i := 30) rfl))⟩ ⟨fun a U g mk q => by obtain ⟨q0, q1, qP, qK, qD, qE0⟩ := q; exact ⟨q0, q1, qP, va_K.moved (u := U) (U := U.calling g mk a) (Vm.Alike.refl U.vm) qK, qD, w_N.same rfl qE0⟩, fun U hU hW => ⟨rfl, by rw [hU], by rw [hU]; exact hPc, va_K.moved hW.alike hKc, hDc.weaken (fun _ _ _ _ => trivial), w_N.warm hW hN⟩⟩ rfl rfl hl.1 rfl (lv_room (Nat.le_of_ble_eq_true rfl)) dX5_init_31 ⟨(Nat.le_of_ble_eq_true rfl), (Nat.le_of_ble_eq_true rfl)⟩) hS (fun q _ h => hFc q h) hFc (fun u t H1 locs1 ht hvm hw hB hz1 hk1 hS1 => ?_)
  obtain ⟨f_6, hP1, hK1, hD1⟩ := hB
  rw [ht] at hP1
  have hK1 := va_K.moved hvm.symm hK1
  have hJ := va_join (wr := [(h0, .inr (5, [.null, .int 0, .null, .null, .null, .null, .null, .null, .ref q_1, .ref q_3, .null, .null, .null, .null, .null, .int 0, .int 0, .int 0]))]) (w1 := [(q_5, .inr (1, f_6))]) hP hD [1] [0] rfl rfl (by decide) (by decide) hk1 hFc hP1 hD1
  clear hP hD hPc hDc hKc hFc hz1 hw; try clear hk1
  obtain ⟨hP, hD⟩ := hJ
  replace hK := (hK.sub (tys' := []) [] rfl).app (hK1.sub (tys' := []) [] rfl)
  clear hP1 hK1 hD1 hvm ht hS; try clear t
  try clear H
  revert hS1
  intro hS
  generalize H1 = H at hP hS ⊢; try clear H1
  replace hP : va_P (dC, dI) vwCl [(h0, .inr (5, [.null, .int 0, .null, .null, .null, .null, .null, .null, .ref q_1, .ref q_3, .null, .null, .null, .null, .null, .int 0, .int 0, .int 0])), (q_5, .inr (1, f_6))] H := hP
  replace hD : va_D A [(h0, .inr (5, [.null, .int 0, .null, .null, .null, .null, .null, .null, .ref q_1, .ref q_3, .null, .null, .null, .null, .null, .int 0, .int 0, .int 0])), (q_5, .inr (1, f_6))] := hD
  replace hK : va_K (dC, dI) vwCl [] s := hK
  refine va_putF (D := (dC, dI)) (ci := 5) (v := .ref q_5) (ty := .object "MotionSigns$Big") (C := RX5) (T := TX5) (N := 18) hx hb hts (in_X5_init_X5) tyX5 tyX5_ok nmX5 hown hK hP hD hS 0 rfl rfl 10 (by decide) (hts (.fieldLink RX5 21 "MotionSigns$Kernel" "theirs" "LMotionSigns$Big;") (List.mem_of_getElem? (i := 9) rfl)) (fun _ h9 => h9) rfl hin rfl (tyX5_ok 10 (by decide)) rfl rfl (Nat.le_of_ble_eq_true rfl) dX5_init_34 ?_
  clear hP hD hS; try clear H
  intro H locs hP hD hS
  replace hP : va_P (dC, dI) vwCl [(h0, .inr (5, [.null, .int 0, .null, .null, .null, .null, .null, .null, .ref q_1, .ref q_3, .ref q_5, .null, .null, .null, .null, .int 0, .int 0, .int 0])), (q_5, .inr (1, f_6))] H := hP
  replace hD : va_D A [(h0, .inr (5, [.null, .int 0, .null, .null, .null, .null, .null, .null, .ref q_1, .ref q_3, .ref q_5, .null, .null, .null, .null, .int 0, .int 0, .int 0])), (q_5, .inr (1, f_6))] := hD
  replace hP := hP.sub (ws' := [(h0, .inr (5, [.null, .int 0, .null, .null, .null, .null, .null, .null, .ref q_1, .ref q_3, .ref q_5, .null, .null, .null, .null, .int 0, .int 0, .int 0]))]) [0] rfl
  replace hD := hD.sub (ws' := [(h0, .inr (5, [.null, .int 0, .null, .null, .null, .null, .null, .null, .ref q_1, .ref q_3, .ref q_5, .null, .null, .null, .null, .int 0, .int 0, .int 0]))]) [0] (by decide) rfl
  refine lv_aload_n hx hb dX5_init_37 rfl (lv_at hl 0 rfl) ?_
  refine va_new (ci := 1) (fs := [.int 0, .int 0, .null]) (C := RX1) (T := TX1) (N := 3) hx hb hts (in_X5_init_X1) tyX1 tyX1_ok hown (hts (.classLink RX5 9 RX1) (List.mem_of_getElem? (i := 4) rfl)) (hts (.instantiable RX1 3) (List.mem_of_getElem? (i := 5) rfl)) (hts (.initialized RX1) (List.mem_of_getElem? (i := 6) rfl)) hK hP hD hS hA rfl (fun j hj => by rcases (show j = 0 ∨ j = 1 ∨ j = 2 by omega) with rfl | rfl | rfl <;> rfl) (Nat.le_of_ble_eq_true rfl) (Nat.le_of_ble_eq_true rfl) dX5_init_38 ?_
  clear hP hD hS; try clear H
  intro q_7 H hP hD hS
  replace hP : va_P (dC, dI) vwCl [(h0, .inr (5, [.null, .int 0, .null, .null, .null, .null, .null, .null, .ref q_1, .ref q_3, .ref q_5, .null, .null, .null, .null, .int 0, .int 0, .int 0])), (q_7, .inr (1, [.int 0, .int 0, .null]))] H := hP
  replace hD : va_D A [(h0, .inr (5, [.null, .int 0, .null, .null, .null, .null, .null, .null, .ref q_1, .ref q_3, .ref q_5, .null, .null, .null, .null, .int 0, .int 0, .int 0])), (q_7, .inr (1, [.int 0, .int 0, .null]))] := hD
  refine lv_dup hx hb dX5_init_41 rfl ?_
  have hPc := hP.sub (ws' := [(q_7, .inr (1, [.int 0, .int 0, .null]))]) [1] rfl
  have hDc := hD.sub (ws' := [(q_7, .inr (1, [.int 0, .int 0, .null]))]) [1] (by decide) rfl
  have hKc := hK.sub (tys' := []) [] rfl
  have hFc := va_free (wc := [(q_7, .inr (1, [.int 0, .int 0, .null]))]) hD hS hA [1] rfl
  refine va_callv (va_runIN (As := []) (rest := [.ref q_7, .ref h0]) ⟨hx, hb, hml, hown, hts⟩ (c_X1_init l dC dI q_7 H.size) ⟨va_cnB 0 hts gX5_init_X1_init_n11 rfl rfl rfl (hN.1 (RX5, 11, yX1_init, RX11) (List.mem_of_getElem? (i := 6) rfl)) (hts (.initialized RX1) (List.mem_of_getElem? (i := 6) rfl)) hd_X1_init ⟨Nat.le_of_ble_eq_true rfl, Nat.le_of_ble_eq_true rfl⟩, rfl, (hts (.instanceMethod yX1_init) (List.mem_of_getElem? (i := 30) rfl))⟩ ⟨fun a U g mk q => by obtain ⟨q0, q1, qP, qK, qD, qE0⟩ := q; exact ⟨q0, q1, qP, va_K.moved (u := U) (U := U.calling g mk a) (Vm.Alike.refl U.vm) qK, qD, w_N.same rfl qE0⟩, fun U hU hW => ⟨rfl, by rw [hU], by rw [hU]; exact hPc, va_K.moved hW.alike hKc, hDc.weaken (fun _ _ _ _ => trivial), w_N.warm hW hN⟩⟩ rfl rfl hl.1 rfl (lv_room (Nat.le_of_ble_eq_true rfl)) dX5_init_42 ⟨(Nat.le_of_ble_eq_true rfl), (Nat.le_of_ble_eq_true rfl)⟩) hS (fun q _ h => hFc q h) hFc (fun u t H1 locs1 ht hvm hw hB hz1 hk1 hS1 => ?_)
  obtain ⟨f_8, hP1, hK1, hD1⟩ := hB
  rw [ht] at hP1
  have hK1 := va_K.moved hvm.symm hK1
  have hJ := va_join (wr := [(h0, .inr (5, [.null, .int 0, .null, .null, .null, .null, .null, .null, .ref q_1, .ref q_3, .ref q_5, .null, .null, .null, .null, .int 0, .int 0, .int 0]))]) (w1 := [(q_7, .inr (1, f_8))]) hP hD [1] [0] rfl rfl (by decide) (by decide) hk1 hFc hP1 hD1
  clear hP hD hPc hDc hKc hFc hz1 hw; try clear hk1
  obtain ⟨hP, hD⟩ := hJ
  replace hK := (hK.sub (tys' := []) [] rfl).app (hK1.sub (tys' := []) [] rfl)
  clear hP1 hK1 hD1 hvm ht hS; try clear t
  try clear H
  revert hS1
  intro hS
  generalize H1 = H at hP hS ⊢; try clear H1
  replace hP : va_P (dC, dI) vwCl [(h0, .inr (5, [.null, .int 0, .null, .null, .null, .null, .null, .null, .ref q_1, .ref q_3, .ref q_5, .null, .null, .null, .null, .int 0, .int 0, .int 0])), (q_7, .inr (1, f_8))] H := hP
  replace hD : va_D A [(h0, .inr (5, [.null, .int 0, .null, .null, .null, .null, .null, .null, .ref q_1, .ref q_3, .ref q_5, .null, .null, .null, .null, .int 0, .int 0, .int 0])), (q_7, .inr (1, f_8))] := hD
  replace hK : va_K (dC, dI) vwCl [] s := hK
  refine va_putF (D := (dC, dI)) (ci := 5) (v := .ref q_7) (ty := .object "MotionSigns$Big") (C := RX5) (T := TX5) (N := 18) hx hb hts (in_X5_init_X5) tyX5 tyX5_ok nmX5 hown hK hP hD hS 0 rfl rfl 11 (by decide) (hts (.fieldLink RX5 24 "MotionSigns$Kernel" "common" "LMotionSigns$Big;") (List.mem_of_getElem? (i := 10) rfl)) (fun _ h9 => h9) rfl hin rfl (tyX5_ok 11 (by decide)) rfl rfl (Nat.le_of_ble_eq_true rfl) dX5_init_45 ?_
  clear hP hD hS; try clear H
  intro H locs hP hD hS
  replace hP : va_P (dC, dI) vwCl [(h0, .inr (5, [.null, .int 0, .null, .null, .null, .null, .null, .null, .ref q_1, .ref q_3, .ref q_5, .ref q_7, .null, .null, .null, .int 0, .int 0, .int 0])), (q_7, .inr (1, f_8))] H := hP
  replace hD : va_D A [(h0, .inr (5, [.null, .int 0, .null, .null, .null, .null, .null, .null, .ref q_1, .ref q_3, .ref q_5, .ref q_7, .null, .null, .null, .int 0, .int 0, .int 0])), (q_7, .inr (1, f_8))] := hD
  replace hP := hP.sub (ws' := [(h0, .inr (5, [.null, .int 0, .null, .null, .null, .null, .null, .null, .ref q_1, .ref q_3, .ref q_5, .ref q_7, .null, .null, .null, .int 0, .int 0, .int 0]))]) [0] rfl
  replace hD := hD.sub (ws' := [(h0, .inr (5, [.null, .int 0, .null, .null, .null, .null, .null, .null, .ref q_1, .ref q_3, .ref q_5, .ref q_7, .null, .null, .null, .int 0, .int 0, .int 0]))]) [0] (by decide) rfl
  refine lv_aload_n hx hb dX5_init_48 rfl (lv_at hl 0 rfl) ?_
  refine va_new (ci := 1) (fs := [.int 0, .int 0, .null]) (C := RX1) (T := TX1) (N := 3) hx hb hts (in_X5_init_X1) tyX1 tyX1_ok hown (hts (.classLink RX5 9 RX1) (List.mem_of_getElem? (i := 4) rfl)) (hts (.instantiable RX1 3) (List.mem_of_getElem? (i := 5) rfl)) (hts (.initialized RX1) (List.mem_of_getElem? (i := 6) rfl)) hK hP hD hS hA rfl (fun j hj => by rcases (show j = 0 ∨ j = 1 ∨ j = 2 by omega) with rfl | rfl | rfl <;> rfl) (Nat.le_of_ble_eq_true rfl) (Nat.le_of_ble_eq_true rfl) dX5_init_49 ?_
  clear hP hD hS; try clear H
  intro q_9 H hP hD hS
  replace hP : va_P (dC, dI) vwCl [(h0, .inr (5, [.null, .int 0, .null, .null, .null, .null, .null, .null, .ref q_1, .ref q_3, .ref q_5, .ref q_7, .null, .null, .null, .int 0, .int 0, .int 0])), (q_9, .inr (1, [.int 0, .int 0, .null]))] H := hP
  replace hD : va_D A [(h0, .inr (5, [.null, .int 0, .null, .null, .null, .null, .null, .null, .ref q_1, .ref q_3, .ref q_5, .ref q_7, .null, .null, .null, .int 0, .int 0, .int 0])), (q_9, .inr (1, [.int 0, .int 0, .null]))] := hD
  refine lv_dup hx hb dX5_init_52 rfl ?_
  have hPc := hP.sub (ws' := [(q_9, .inr (1, [.int 0, .int 0, .null]))]) [1] rfl
  have hDc := hD.sub (ws' := [(q_9, .inr (1, [.int 0, .int 0, .null]))]) [1] (by decide) rfl
  have hKc := hK.sub (tys' := []) [] rfl
  have hFc := va_free (wc := [(q_9, .inr (1, [.int 0, .int 0, .null]))]) hD hS hA [1] rfl
  refine va_callv (va_runIN (As := []) (rest := [.ref q_9, .ref h0]) ⟨hx, hb, hml, hown, hts⟩ (c_X1_init l dC dI q_9 H.size) ⟨va_cnB 0 hts gX5_init_X1_init_n11 rfl rfl rfl (hN.1 (RX5, 11, yX1_init, RX11) (List.mem_of_getElem? (i := 6) rfl)) (hts (.initialized RX1) (List.mem_of_getElem? (i := 6) rfl)) hd_X1_init ⟨Nat.le_of_ble_eq_true rfl, Nat.le_of_ble_eq_true rfl⟩, rfl, (hts (.instanceMethod yX1_init) (List.mem_of_getElem? (i := 30) rfl))⟩ ⟨fun a U g mk q => by obtain ⟨q0, q1, qP, qK, qD, qE0⟩ := q; exact ⟨q0, q1, qP, va_K.moved (u := U) (U := U.calling g mk a) (Vm.Alike.refl U.vm) qK, qD, w_N.same rfl qE0⟩, fun U hU hW => ⟨rfl, by rw [hU], by rw [hU]; exact hPc, va_K.moved hW.alike hKc, hDc.weaken (fun _ _ _ _ => trivial), w_N.warm hW hN⟩⟩ rfl rfl hl.1 rfl (lv_room (Nat.le_of_ble_eq_true rfl)) dX5_init_53 ⟨(Nat.le_of_ble_eq_true rfl), (Nat.le_of_ble_eq_true rfl)⟩) hS (fun q _ h => hFc q h) hFc (fun u t H1 locs1 ht hvm hw hB hz1 hk1 hS1 => ?_)
  obtain ⟨f_10, hP1, hK1, hD1⟩ := hB
  rw [ht] at hP1
  have hK1 := va_K.moved hvm.symm hK1
  have hJ := va_join (wr := [(h0, .inr (5, [.null, .int 0, .null, .null, .null, .null, .null, .null, .ref q_1, .ref q_3, .ref q_5, .ref q_7, .null, .null, .null, .int 0, .int 0, .int 0]))]) (w1 := [(q_9, .inr (1, f_10))]) hP hD [1] [0] rfl rfl (by decide) (by decide) hk1 hFc hP1 hD1
  clear hP hD hPc hDc hKc hFc hz1 hw; try clear hk1
  obtain ⟨hP, hD⟩ := hJ
  replace hK := (hK.sub (tys' := []) [] rfl).app (hK1.sub (tys' := []) [] rfl)
  clear hP1 hK1 hD1 hvm ht hS; try clear t
  try clear H
  revert hS1
  intro hS
  generalize H1 = H at hP hS ⊢; try clear H1
  replace hP : va_P (dC, dI) vwCl [(h0, .inr (5, [.null, .int 0, .null, .null, .null, .null, .null, .null, .ref q_1, .ref q_3, .ref q_5, .ref q_7, .null, .null, .null, .int 0, .int 0, .int 0])), (q_9, .inr (1, f_10))] H := hP
  replace hD : va_D A [(h0, .inr (5, [.null, .int 0, .null, .null, .null, .null, .null, .null, .ref q_1, .ref q_3, .ref q_5, .ref q_7, .null, .null, .null, .int 0, .int 0, .int 0])), (q_9, .inr (1, f_10))] := hD
  replace hK : va_K (dC, dI) vwCl [] s := hK
  refine va_putF (D := (dC, dI)) (ci := 5) (v := .ref q_9) (ty := .object "MotionSigns$Big") (C := RX5) (T := TX5) (N := 18) hx hb hts (in_X5_init_X5) tyX5 tyX5_ok nmX5 hown hK hP hD hS 0 rfl rfl 12 (by decide) (hts (.fieldLink RX5 27 "MotionSigns$Kernel" "rest" "LMotionSigns$Big;") (List.mem_of_getElem? (i := 11) rfl)) (fun _ h9 => h9) rfl hin rfl (tyX5_ok 12 (by decide)) rfl rfl (Nat.le_of_ble_eq_true rfl) dX5_init_56 ?_
  clear hP hD hS; try clear H
  intro H locs hP hD hS
  replace hP : va_P (dC, dI) vwCl [(h0, .inr (5, [.null, .int 0, .null, .null, .null, .null, .null, .null, .ref q_1, .ref q_3, .ref q_5, .ref q_7, .ref q_9, .null, .null, .int 0, .int 0, .int 0])), (q_9, .inr (1, f_10))] H := hP
  replace hD : va_D A [(h0, .inr (5, [.null, .int 0, .null, .null, .null, .null, .null, .null, .ref q_1, .ref q_3, .ref q_5, .ref q_7, .ref q_9, .null, .null, .int 0, .int 0, .int 0])), (q_9, .inr (1, f_10))] := hD
  replace hP := hP.sub (ws' := [(h0, .inr (5, [.null, .int 0, .null, .null, .null, .null, .null, .null, .ref q_1, .ref q_3, .ref q_5, .ref q_7, .ref q_9, .null, .null, .int 0, .int 0, .int 0]))]) [0] rfl
  replace hD := hD.sub (ws' := [(h0, .inr (5, [.null, .int 0, .null, .null, .null, .null, .null, .null, .ref q_1, .ref q_3, .ref q_5, .ref q_7, .ref q_9, .null, .null, .int 0, .int 0, .int 0]))]) [0] (by decide) rfl
  refine lv_aload_n hx hb dX5_init_59 rfl (lv_at hl 0 rfl) ?_
  refine va_new (ci := 1) (fs := [.int 0, .int 0, .null]) (C := RX1) (T := TX1) (N := 3) hx hb hts (in_X5_init_X1) tyX1 tyX1_ok hown (hts (.classLink RX5 9 RX1) (List.mem_of_getElem? (i := 4) rfl)) (hts (.instantiable RX1 3) (List.mem_of_getElem? (i := 5) rfl)) (hts (.initialized RX1) (List.mem_of_getElem? (i := 6) rfl)) hK hP hD hS hA rfl (fun j hj => by rcases (show j = 0 ∨ j = 1 ∨ j = 2 by omega) with rfl | rfl | rfl <;> rfl) (Nat.le_of_ble_eq_true rfl) (Nat.le_of_ble_eq_true rfl) dX5_init_60 ?_
  clear hP hD hS; try clear H
  intro q_11 H hP hD hS
  replace hP : va_P (dC, dI) vwCl [(h0, .inr (5, [.null, .int 0, .null, .null, .null, .null, .null, .null, .ref q_1, .ref q_3, .ref q_5, .ref q_7, .ref q_9, .null, .null, .int 0, .int 0, .int 0])), (q_11, .inr (1, [.int 0, .int 0, .null]))] H := hP
  replace hD : va_D A [(h0, .inr (5, [.null, .int 0, .null, .null, .null, .null, .null, .null, .ref q_1, .ref q_3, .ref q_5, .ref q_7, .ref q_9, .null, .null, .int 0, .int 0, .int 0])), (q_11, .inr (1, [.int 0, .int 0, .null]))] := hD
  refine lv_dup hx hb dX5_init_63 rfl ?_
  have hPc := hP.sub (ws' := [(q_11, .inr (1, [.int 0, .int 0, .null]))]) [1] rfl
  have hDc := hD.sub (ws' := [(q_11, .inr (1, [.int 0, .int 0, .null]))]) [1] (by decide) rfl
  have hKc := hK.sub (tys' := []) [] rfl
  have hFc := va_free (wc := [(q_11, .inr (1, [.int 0, .int 0, .null]))]) hD hS hA [1] rfl
  refine va_callv (va_runIN (As := []) (rest := [.ref q_11, .ref h0]) ⟨hx, hb, hml, hown, hts⟩ (c_X1_init l dC dI q_11 H.size) ⟨va_cnB 0 hts gX5_init_X1_init_n11 rfl rfl rfl (hN.1 (RX5, 11, yX1_init, RX11) (List.mem_of_getElem? (i := 6) rfl)) (hts (.initialized RX1) (List.mem_of_getElem? (i := 6) rfl)) hd_X1_init ⟨Nat.le_of_ble_eq_true rfl, Nat.le_of_ble_eq_true rfl⟩, rfl, (hts (.instanceMethod yX1_init) (List.mem_of_getElem? (i := 30) rfl))⟩ ⟨fun a U g mk q => by obtain ⟨q0, q1, qP, qK, qD, qE0⟩ := q; exact ⟨q0, q1, qP, va_K.moved (u := U) (U := U.calling g mk a) (Vm.Alike.refl U.vm) qK, qD, w_N.same rfl qE0⟩, fun U hU hW => ⟨rfl, by rw [hU], by rw [hU]; exact hPc, va_K.moved hW.alike hKc, hDc.weaken (fun _ _ _ _ => trivial), w_N.warm hW hN⟩⟩ rfl rfl hl.1 rfl (lv_room (Nat.le_of_ble_eq_true rfl)) dX5_init_64 ⟨(Nat.le_of_ble_eq_true rfl), (Nat.le_of_ble_eq_true rfl)⟩) hS (fun q _ h => hFc q h) hFc (fun u t H1 locs1 ht hvm hw hB hz1 hk1 hS1 => ?_)
  obtain ⟨f_12, hP1, hK1, hD1⟩ := hB
  rw [ht] at hP1
  have hK1 := va_K.moved hvm.symm hK1
  have hJ := va_join (wr := [(h0, .inr (5, [.null, .int 0, .null, .null, .null, .null, .null, .null, .ref q_1, .ref q_3, .ref q_5, .ref q_7, .ref q_9, .null, .null, .int 0, .int 0, .int 0]))]) (w1 := [(q_11, .inr (1, f_12))]) hP hD [1] [0] rfl rfl (by decide) (by decide) hk1 hFc hP1 hD1
  clear hP hD hPc hDc hKc hFc hz1 hw; try clear hk1
  obtain ⟨hP, hD⟩ := hJ
  replace hK := (hK.sub (tys' := []) [] rfl).app (hK1.sub (tys' := []) [] rfl)
  clear hP1 hK1 hD1 hvm ht hS; try clear t
  try clear H
  revert hS1
  intro hS
  generalize H1 = H at hP hS ⊢; try clear H1
  replace hP : va_P (dC, dI) vwCl [(h0, .inr (5, [.null, .int 0, .null, .null, .null, .null, .null, .null, .ref q_1, .ref q_3, .ref q_5, .ref q_7, .ref q_9, .null, .null, .int 0, .int 0, .int 0])), (q_11, .inr (1, f_12))] H := hP
  replace hD : va_D A [(h0, .inr (5, [.null, .int 0, .null, .null, .null, .null, .null, .null, .ref q_1, .ref q_3, .ref q_5, .ref q_7, .ref q_9, .null, .null, .int 0, .int 0, .int 0])), (q_11, .inr (1, f_12))] := hD
  replace hK : va_K (dC, dI) vwCl [] s := hK
  refine va_putF (D := (dC, dI)) (ci := 5) (v := .ref q_11) (ty := .object "MotionSigns$Big") (C := RX5) (T := TX5) (N := 18) hx hb hts (in_X5_init_X5) tyX5 tyX5_ok nmX5 hown hK hP hD hS 0 rfl rfl 13 (by decide) (hts (.fieldLink RX5 30 "MotionSigns$Kernel" "one" "LMotionSigns$Big;") (List.mem_of_getElem? (i := 12) rfl)) (fun _ h9 => h9) rfl hin rfl (tyX5_ok 13 (by decide)) rfl rfl (Nat.le_of_ble_eq_true rfl) dX5_init_67 ?_
  clear hP hD hS; try clear H
  intro H locs hP hD hS
  replace hP : va_P (dC, dI) vwCl [(h0, .inr (5, [.null, .int 0, .null, .null, .null, .null, .null, .null, .ref q_1, .ref q_3, .ref q_5, .ref q_7, .ref q_9, .ref q_11, .null, .int 0, .int 0, .int 0])), (q_11, .inr (1, f_12))] H := hP
  replace hD : va_D A [(h0, .inr (5, [.null, .int 0, .null, .null, .null, .null, .null, .null, .ref q_1, .ref q_3, .ref q_5, .ref q_7, .ref q_9, .ref q_11, .null, .int 0, .int 0, .int 0])), (q_11, .inr (1, f_12))] := hD
  replace hP := hP.sub (ws' := [(h0, .inr (5, [.null, .int 0, .null, .null, .null, .null, .null, .null, .ref q_1, .ref q_3, .ref q_5, .ref q_7, .ref q_9, .ref q_11, .null, .int 0, .int 0, .int 0]))]) [0] rfl
  replace hD := hD.sub (ws' := [(h0, .inr (5, [.null, .int 0, .null, .null, .null, .null, .null, .null, .ref q_1, .ref q_3, .ref q_5, .ref q_7, .ref q_9, .ref q_11, .null, .int 0, .int 0, .int 0]))]) [0] (by decide) rfl
  refine lv_aload_n hx hb dX5_init_70 rfl (lv_at hl 0 rfl) ?_
  refine va_new (ci := 1) (fs := [.int 0, .int 0, .null]) (C := RX1) (T := TX1) (N := 3) hx hb hts (in_X5_init_X1) tyX1 tyX1_ok hown (hts (.classLink RX5 9 RX1) (List.mem_of_getElem? (i := 4) rfl)) (hts (.instantiable RX1 3) (List.mem_of_getElem? (i := 5) rfl)) (hts (.initialized RX1) (List.mem_of_getElem? (i := 6) rfl)) hK hP hD hS hA rfl (fun j hj => by rcases (show j = 0 ∨ j = 1 ∨ j = 2 by omega) with rfl | rfl | rfl <;> rfl) (Nat.le_of_ble_eq_true rfl) (Nat.le_of_ble_eq_true rfl) dX5_init_71 ?_
  clear hP hD hS; try clear H
  intro q_13 H hP hD hS
  replace hP : va_P (dC, dI) vwCl [(h0, .inr (5, [.null, .int 0, .null, .null, .null, .null, .null, .null, .ref q_1, .ref q_3, .ref q_5, .ref q_7, .ref q_9, .ref q_11, .null, .int 0, .int 0, .int 0])), (q_13, .inr (1, [.int 0, .int 0, .null]))] H := hP
  replace hD : va_D A [(h0, .inr (5, [.null, .int 0, .null, .null, .null, .null, .null, .null, .ref q_1, .ref q_3, .ref q_5, .ref q_7, .ref q_9, .ref q_11, .null, .int 0, .int 0, .int 0])), (q_13, .inr (1, [.int 0, .int 0, .null]))] := hD
  refine lv_dup hx hb dX5_init_74 rfl ?_
  have hPc := hP.sub (ws' := [(q_13, .inr (1, [.int 0, .int 0, .null]))]) [1] rfl
  have hDc := hD.sub (ws' := [(q_13, .inr (1, [.int 0, .int 0, .null]))]) [1] (by decide) rfl
  have hKc := hK.sub (tys' := []) [] rfl
  have hFc := va_free (wc := [(q_13, .inr (1, [.int 0, .int 0, .null]))]) hD hS hA [1] rfl
  refine va_callv (va_runIN (As := []) (rest := [.ref q_13, .ref h0]) ⟨hx, hb, hml, hown, hts⟩ (c_X1_init l dC dI q_13 H.size) ⟨va_cnB 0 hts gX5_init_X1_init_n11 rfl rfl rfl (hN.1 (RX5, 11, yX1_init, RX11) (List.mem_of_getElem? (i := 6) rfl)) (hts (.initialized RX1) (List.mem_of_getElem? (i := 6) rfl)) hd_X1_init ⟨Nat.le_of_ble_eq_true rfl, Nat.le_of_ble_eq_true rfl⟩, rfl, (hts (.instanceMethod yX1_init) (List.mem_of_getElem? (i := 30) rfl))⟩ ⟨fun a U g mk q => by obtain ⟨q0, q1, qP, qK, qD, qE0⟩ := q; exact ⟨q0, q1, qP, va_K.moved (u := U) (U := U.calling g mk a) (Vm.Alike.refl U.vm) qK, qD, w_N.same rfl qE0⟩, fun U hU hW => ⟨rfl, by rw [hU], by rw [hU]; exact hPc, va_K.moved hW.alike hKc, hDc.weaken (fun _ _ _ _ => trivial), w_N.warm hW hN⟩⟩ rfl rfl hl.1 rfl (lv_room (Nat.le_of_ble_eq_true rfl)) dX5_init_75 ⟨(Nat.le_of_ble_eq_true rfl), (Nat.le_of_ble_eq_true rfl)⟩) hS (fun q _ h => hFc q h) hFc (fun u t H1 locs1 ht hvm hw hB hz1 hk1 hS1 => ?_)
  obtain ⟨f_14, hP1, hK1, hD1⟩ := hB
  rw [ht] at hP1
  have hK1 := va_K.moved hvm.symm hK1
  have hJ := va_join (wr := [(h0, .inr (5, [.null, .int 0, .null, .null, .null, .null, .null, .null, .ref q_1, .ref q_3, .ref q_5, .ref q_7, .ref q_9, .ref q_11, .null, .int 0, .int 0, .int 0]))]) (w1 := [(q_13, .inr (1, f_14))]) hP hD [1] [0] rfl rfl (by decide) (by decide) hk1 hFc hP1 hD1
  clear hP hD hPc hDc hKc hFc hz1 hw; try clear hk1
  obtain ⟨hP, hD⟩ := hJ
  replace hK := (hK.sub (tys' := []) [] rfl).app (hK1.sub (tys' := []) [] rfl)
  clear hP1 hK1 hD1 hvm ht hS; try clear t
  try clear H
  revert hS1
  intro hS
  generalize H1 = H at hP hS ⊢; try clear H1
  replace hP : va_P (dC, dI) vwCl [(h0, .inr (5, [.null, .int 0, .null, .null, .null, .null, .null, .null, .ref q_1, .ref q_3, .ref q_5, .ref q_7, .ref q_9, .ref q_11, .null, .int 0, .int 0, .int 0])), (q_13, .inr (1, f_14))] H := hP
  replace hD : va_D A [(h0, .inr (5, [.null, .int 0, .null, .null, .null, .null, .null, .null, .ref q_1, .ref q_3, .ref q_5, .ref q_7, .ref q_9, .ref q_11, .null, .int 0, .int 0, .int 0])), (q_13, .inr (1, f_14))] := hD
  replace hK : va_K (dC, dI) vwCl [] s := hK
  refine va_putF (D := (dC, dI)) (ci := 5) (v := .ref q_13) (ty := .object "MotionSigns$Big") (C := RX5) (T := TX5) (N := 18) hx hb hts (in_X5_init_X5) tyX5 tyX5_ok nmX5 hown hK hP hD hS 0 rfl rfl 14 (by decide) (hts (.fieldLink RX5 33 "MotionSigns$Kernel" "two" "LMotionSigns$Big;") (List.mem_of_getElem? (i := 13) rfl)) (fun _ h9 => h9) rfl hin rfl (tyX5_ok 14 (by decide)) rfl rfl (Nat.le_of_ble_eq_true rfl) dX5_init_78 ?_
  clear hP hD hS; try clear H
  intro H locs hP hD hS
  replace hP : va_P (dC, dI) vwCl [(h0, .inr (5, [.null, .int 0, .null, .null, .null, .null, .null, .null, .ref q_1, .ref q_3, .ref q_5, .ref q_7, .ref q_9, .ref q_11, .ref q_13, .int 0, .int 0, .int 0])), (q_13, .inr (1, f_14))] H := hP
  replace hD : va_D A [(h0, .inr (5, [.null, .int 0, .null, .null, .null, .null, .null, .null, .ref q_1, .ref q_3, .ref q_5, .ref q_7, .ref q_9, .ref q_11, .ref q_13, .int 0, .int 0, .int 0])), (q_13, .inr (1, f_14))] := hD
  replace hP := hP.sub (ws' := [(h0, .inr (5, [.null, .int 0, .null, .null, .null, .null, .null, .null, .ref q_1, .ref q_3, .ref q_5, .ref q_7, .ref q_9, .ref q_11, .ref q_13, .int 0, .int 0, .int 0]))]) [0] rfl
  replace hD := hD.sub (ws' := [(h0, .inr (5, [.null, .int 0, .null, .null, .null, .null, .null, .null, .ref q_1, .ref q_3, .ref q_5, .ref q_7, .ref q_9, .ref q_11, .ref q_13, .int 0, .int 0, .int 0]))]) [0] (by decide) rfl
  refine lv_aload_n hx hb dX5_init_81 rfl (lv_at hl 0 rfl) ?_
  refine lv_aload_n hx hb dX5_init_82 rfl (lv_at hl 1 rfl) ?_
  refine va_putF (D := (dC, dI)) (ci := 5) (v := .ref aw) (ty := .object "MotionSigns$Works") (C := RX5) (T := TX5) (N := 18) hx hb hts (in_X5_init_X5) tyX5 tyX5_ok nmX5 hown hK hP hD hS 0 rfl rfl 0 (by decide) (hts (.fieldLink RX5 36 "MotionSigns$Kernel" "works" "LMotionSigns$Works;") (List.mem_of_getElem? (i := 14) rfl)) (fun _ h9 => h9) rfl hin rfl (tyX5_ok 0 (by decide)) rfl rfl (Nat.le_of_ble_eq_true rfl) dX5_init_83 ?_
  clear hP hD hS; try clear H
  intro H locs hP hD hS
  replace hP : va_P (dC, dI) vwCl [(h0, .inr (5, [.ref aw, .int 0, .null, .null, .null, .null, .null, .null, .ref q_1, .ref q_3, .ref q_5, .ref q_7, .ref q_9, .ref q_11, .ref q_13, .int 0, .int 0, .int 0]))] H := hP
  replace hD : va_D A [(h0, .inr (5, [.ref aw, .int 0, .null, .null, .null, .null, .null, .null, .ref q_1, .ref q_3, .ref q_5, .ref q_7, .ref q_9, .ref q_11, .ref q_13, .int 0, .int 0, .int 0]))] := hD
  refine lv_aload_n hx hb dX5_init_86 rfl (lv_at hl 0 rfl) ?_
  refine lv_iconst (v := 1) hx hb dX5_init_87 (by decide) ?_
  refine lv_iload_n hx hb dX5_init_88 rfl (lv_at hl 2 rfl) ?_
  refine lv_bipush (v := 30) hx hb dX5_init_89 (by decide) ?_
  refine va_mmin hx hb (by rw [hml]; exact hl.1.symm) hown (hts (.methodLink RX5 40 Lib.Math.min.name) (List.mem_of_getElem? (i := 15) rfl)) (hts (.static Lib.Math.min.name) (List.mem_of_getElem? (i := 16) rfl)) (hts (.initialized "java/lang/Math") (List.mem_of_getElem? (i := 17) rfl)) (hts (.code Lib.Math.min.name Lib.Math.min.code 2 (some .int)) (List.mem_of_getElem? (i := 18) rfl)) (Nat.le_of_ble_eq_true rfl) (Nat.le_of_ble_eq_true rfl) (Nat.le_of_ble_eq_true rfl) (Nat.le_of_ble_eq_true rfl) dX5_init_91 ?_
  refine lv_topi (fun v_15 ev_15 => ?_)
  have ev_15 : v_15 = 3 := ev_15.trans (by decide)
  subst ev_15
  refine va_mmax hx hb (by rw [hml]; exact hl.1.symm) hown (hts (.methodLink RX5 46 Lib.Math.max.name) (List.mem_of_getElem? (i := 19) rfl)) (hts (.static Lib.Math.max.name) (List.mem_of_getElem? (i := 20) rfl)) (hts (.initialized "java/lang/Math") (List.mem_of_getElem? (i := 17) rfl)) (hts (.code Lib.Math.max.name Lib.Math.max.code 2 (some .int)) (List.mem_of_getElem? (i := 21) rfl)) (Nat.le_of_ble_eq_true rfl) (Nat.le_of_ble_eq_true rfl) (Nat.le_of_ble_eq_true rfl) (Nat.le_of_ble_eq_true rfl) dX5_init_94 ?_
  refine lv_topi (fun v_16 ev_16 => ?_)
  have ev_16 : v_16 = 3 := ev_16.trans (by decide)
  subst ev_16
  refine va_putF (D := (dC, dI)) (ci := 5) (v := .int 3) (ty := .int) (C := RX5) (T := TX5) (N := 18) hx hb hts (in_X5_init_X5) tyX5 tyX5_ok nmX5 hown hK hP hD hS 0 rfl rfl 1 (by decide) (hts (.fieldLink RX5 49 "MotionSigns$Kernel" "most" "I") (List.mem_of_getElem? (i := 22) rfl)) (fun _ h9 => h9) rfl hin rfl (tyX5_ok 1 (by decide)) rfl rfl (Nat.le_of_ble_eq_true rfl) dX5_init_97 ?_
  clear hP hD hS; try clear H
  intro H locs hP hD hS
  replace hP : va_P (dC, dI) vwCl [(h0, .inr (5, [.ref aw, .int 3, .null, .null, .null, .null, .null, .null, .ref q_1, .ref q_3, .ref q_5, .ref q_7, .ref q_9, .ref q_11, .ref q_13, .int 0, .int 0, .int 0]))] H := hP
  replace hD : va_D A [(h0, .inr (5, [.ref aw, .int 3, .null, .null, .null, .null, .null, .null, .ref q_1, .ref q_3, .ref q_5, .ref q_7, .ref q_9, .ref q_11, .ref q_13, .int 0, .int 0, .int 0]))] := hD
  refine lv_aload_n hx hb dX5_init_100 rfl (lv_at hl 0 rfl) ?_
  refine lv_aload_n hx hb dX5_init_101 rfl (lv_at hl 0 rfl) ?_
  refine va_get (D := (dC, dI)) (ci := 5) (v := .int 3) (C := RX5) (T := TX5) (N := 18) hx hb hts (in_X5_init_X5) hown hK hP 0 rfl rfl 1 (by decide) (hts (.fieldLink RX5 49 "MotionSigns$Kernel" "most" "I") (List.mem_of_getElem? (i := 22) rfl)) (fun _ h9 => h9) rfl dX5_init_102 ?_
  refine lv_aload_n hx hb dX5_init_105 rfl (lv_at hl 0 rfl) ?_
  refine va_get (D := (dC, dI)) (ci := 5) (v := .int 3) (C := RX5) (T := TX5) (N := 18) hx hb hts (in_X5_init_X5) hown hK hP 0 rfl rfl 1 (by decide) (hts (.fieldLink RX5 49 "MotionSigns$Kernel" "most" "I") (List.mem_of_getElem? (i := 22) rfl)) (fun _ h9 => h9) rfl dX5_init_106 ?_
  refine lv_imul hx hb dX5_init_109 ?_
  refine lv_topi (fun v_17 ev_17 => ?_)
  have ev_17 : v_17 = 9 := ev_17.trans (by decide)
  subst ev_17
  refine va_newq (C := RX1) (N' := 9) hx hb hown (hts (.classLink RX5 9 RX1) (List.mem_of_getElem? (i := 4) rfl)) (hN.2.2.1 RX1 (List.mem_of_getElem? (i := 0) rfl)) hK hP hD hS hA (by decide) (by decide) (Nat.le_of_ble_eq_true rfl) (Nat.le_of_ble_eq_true rfl) (Nat.le_of_ble_eq_true rfl) dX5_init_110 ?_
  clear hP hD hS hK; try clear H
  intro q_18 k_19 H hK hP hD hS
  replace hP : va_P (dC, dI) vwCl [(h0, .inr (5, [.ref aw, .int 3, .null, .null, .null, .null, .null, .null, .ref q_1, .ref q_3, .ref q_5, .ref q_7, .ref q_9, .ref q_11, .ref q_13, .int 0, .int 0, .int 0])), (q_18, .inl (k_19, 9, .inr (.inr (.inr (.inr (fun _ => none))))))] H := hP
  replace hD : va_D A [(h0, .inr (5, [.ref aw, .int 3, .null, .null, .null, .null, .null, .null, .ref q_1, .ref q_3, .ref q_5, .ref q_7, .ref q_9, .ref q_11, .ref q_13, .int 0, .int 0, .int 0])), (q_18, .inl (k_19, 9, .inr (.inr (.inr (.inr (fun _ => none))))))] := hD
  replace hK : va_K (dC, dI) vwCl [(k_19, .object RX1)] s := hK
  refine va_putF (D := (dC, dI)) (ci := 5) (v := .ref q_18) (ty := .array (.object "MotionSigns$Big")) (C := RX5) (T := TX5) (N := 18) hx hb hts (in_X5_init_X5) tyX5 tyX5_ok nmX5 hown hK hP hD hS 0 rfl rfl 2 (by decide) (hts (.fieldLink RX5 53 "MotionSigns$Kernel" "cell" "[LMotionSigns$Big;") (List.mem_of_getElem? (i := 23) rfl)) (fun _ h9 => h9) rfl hin rfl (tyX5_ok 2 (by decide)) rfl rfl (Nat.le_of_ble_eq_true rfl) dX5_init_113 ?_
  clear hP hD hS; try clear H
  intro H locs hP hD hS
  replace hP : va_P (dC, dI) vwCl [(h0, .inr (5, [.ref aw, .int 3, .ref q_18, .null, .null, .null, .null, .null, .ref q_1, .ref q_3, .ref q_5, .ref q_7, .ref q_9, .ref q_11, .ref q_13, .int 0, .int 0, .int 0])), (q_18, .inl (k_19, 9, .inr (.inr (.inr (.inr (fun _ => none))))))] H := hP
  replace hD : va_D A [(h0, .inr (5, [.ref aw, .int 3, .ref q_18, .null, .null, .null, .null, .null, .ref q_1, .ref q_3, .ref q_5, .ref q_7, .ref q_9, .ref q_11, .ref q_13, .int 0, .int 0, .int 0])), (q_18, .inl (k_19, 9, .inr (.inr (.inr (.inr (fun _ => none))))))] := hD
  refine lv_aload_n hx hb dX5_init_116 rfl (lv_at hl 0 rfl) ?_
  refine lv_aload_n hx hb dX5_init_117 rfl (lv_at hl 0 rfl) ?_
  refine va_get (D := (dC, dI)) (ci := 5) (v := .int 3) (C := RX5) (T := TX5) (N := 18) hx hb hts (in_X5_init_X5) hown hK hP 0 rfl rfl 1 (by decide) (hts (.fieldLink RX5 49 "MotionSigns$Kernel" "most" "I") (List.mem_of_getElem? (i := 22) rfl)) (fun _ h9 => h9) rfl dX5_init_118 ?_
  refine va_newa (atype := .int) (ty := .int) (N' := 3) (a0 := (3, .inl (fun _ => 0))) hx hb (hts (.arrayClass .int) (List.mem_of_getElem? (i := 24) rfl)) rfl hK hP hD hS hA (fun _ => rfl) (by decide) (by decide) (Nat.le_of_ble_eq_true rfl) (Nat.le_of_ble_eq_true rfl) (Nat.le_of_ble_eq_true rfl) dX5_init_121 ?_
  clear hP hD hS hK; try clear H
  intro q_20 k_21 H hK hP hD hS
  replace hP : va_P (dC, dI) vwCl [(h0, .inr (5, [.ref aw, .int 3, .ref q_18, .null, .null, .null, .null, .null, .ref q_1, .ref q_3, .ref q_5, .ref q_7, .ref q_9, .ref q_11, .ref q_13, .int 0, .int 0, .int 0])), (q_18, .inl (k_19, 9, .inr (.inr (.inr (.inr (fun _ => none)))))), (q_20, .inl (k_21, 3, .inl (fun _ => 0)))] H := hP
  replace hD : va_D A [(h0, .inr (5, [.ref aw, .int 3, .ref q_18, .null, .null, .null, .null, .null, .ref q_1, .ref q_3, .ref q_5, .ref q_7, .ref q_9, .ref q_11, .ref q_13, .int 0, .int 0, .int 0])), (q_18, .inl (k_19, 9, .inr (.inr (.inr (.inr (fun _ => none)))))), (q_20, .inl (k_21, 3, .inl (fun _ => 0)))] := hD
  replace hK : va_K (dC, dI) vwCl [(k_19, .object RX1), (k_21, .int)] s := hK
  refine va_putF (D := (dC, dI)) (ci := 5) (v := .ref q_20) (ty := .array .int) (C := RX5) (T := TX5) (N := 18) hx hb hts (in_X5_init_X5) tyX5 tyX5_ok nmX5 hown hK hP hD hS 0 rfl rfl 3 (by decide) (hts (.fieldLink RX5 57 "MotionSigns$Kernel" "block" "[I") (List.mem_of_getElem? (i := 25) rfl)) (fun _ h9 => h9) rfl hin rfl (tyX5_ok 3 (by decide)) rfl rfl (Nat.le_of_ble_eq_true rfl) dX5_init_123 ?_
  clear hP hD hS; try clear H
  intro H locs hP hD hS
  replace hP : va_P (dC, dI) vwCl [(h0, .inr (5, [.ref aw, .int 3, .ref q_18, .ref q_20, .null, .null, .null, .null, .ref q_1, .ref q_3, .ref q_5, .ref q_7, .ref q_9, .ref q_11, .ref q_13, .int 0, .int 0, .int 0])), (q_18, .inl (k_19, 9, .inr (.inr (.inr (.inr (fun _ => none)))))), (q_20, .inl (k_21, 3, .inl (fun _ => 0)))] H := hP
  replace hD : va_D A [(h0, .inr (5, [.ref aw, .int 3, .ref q_18, .ref q_20, .null, .null, .null, .null, .ref q_1, .ref q_3, .ref q_5, .ref q_7, .ref q_9, .ref q_11, .ref q_13, .int 0, .int 0, .int 0])), (q_18, .inl (k_19, 9, .inr (.inr (.inr (.inr (fun _ => none)))))), (q_20, .inl (k_21, 3, .inl (fun _ => 0)))] := hD
  refine lv_aload_n hx hb dX5_init_126 rfl (lv_at hl 0 rfl) ?_
  refine lv_aload_n hx hb dX5_init_127 rfl (lv_at hl 0 rfl) ?_
  refine va_get (D := (dC, dI)) (ci := 5) (v := .int 3) (C := RX5) (T := TX5) (N := 18) hx hb hts (in_X5_init_X5) hown hK hP 0 rfl rfl 1 (by decide) (hts (.fieldLink RX5 49 "MotionSigns$Kernel" "most" "I") (List.mem_of_getElem? (i := 22) rfl)) (fun _ h9 => h9) rfl dX5_init_128 ?_
  refine va_newa (atype := .int) (ty := .int) (N' := 3) (a0 := (3, .inl (fun _ => 0))) hx hb (hts (.arrayClass .int) (List.mem_of_getElem? (i := 24) rfl)) rfl hK hP hD hS hA (fun _ => rfl) (by decide) (by decide) (Nat.le_of_ble_eq_true rfl) (Nat.le_of_ble_eq_true rfl) (Nat.le_of_ble_eq_true rfl) dX5_init_131 ?_
  clear hP hD hS hK; try clear H
  intro q_22 k_23 H hK hP hD hS
  replace hP : va_P (dC, dI) vwCl [(h0, .inr (5, [.ref aw, .int 3, .ref q_18, .ref q_20, .null, .null, .null, .null, .ref q_1, .ref q_3, .ref q_5, .ref q_7, .ref q_9, .ref q_11, .ref q_13, .int 0, .int 0, .int 0])), (q_18, .inl (k_19, 9, .inr (.inr (.inr (.inr (fun _ => none)))))), (q_20, .inl (k_21, 3, .inl (fun _ => 0))), (q_22, .inl (k_23, 3, .inl (fun _ => 0)))] H := hP
  replace hD : va_D A [(h0, .inr (5, [.ref aw, .int 3, .ref q_18, .ref q_20, .null, .null, .null, .null, .ref q_1, .ref q_3, .ref q_5, .ref q_7, .ref q_9, .ref q_11, .ref q_13, .int 0, .int 0, .int 0])), (q_18, .inl (k_19, 9, .inr (.inr (.inr (.inr (fun _ => none)))))), (q_20, .inl (k_21, 3, .inl (fun _ => 0))), (q_22, .inl (k_23, 3, .inl (fun _ => 0)))] := hD
  replace hK : va_K (dC, dI) vwCl [(k_19, .object RX1), (k_21, .int), (k_23, .int)] s := hK
  refine va_putF (D := (dC, dI)) (ci := 5) (v := .ref q_22) (ty := .array .int) (C := RX5) (T := TX5) (N := 18) hx hb hts (in_X5_init_X5) tyX5 tyX5_ok nmX5 hown hK hP hD hS 0 rfl rfl 4 (by decide) (hts (.fieldLink RX5 61 "MotionSigns$Kernel" "lead" "[I") (List.mem_of_getElem? (i := 26) rfl)) (fun _ h9 => h9) rfl hin rfl (tyX5_ok 4 (by decide)) rfl rfl (Nat.le_of_ble_eq_true rfl) dX5_init_133 ?_
  clear hP hD hS; try clear H
  intro H locs hP hD hS
  replace hP : va_P (dC, dI) vwCl [(h0, .inr (5, [.ref aw, .int 3, .ref q_18, .ref q_20, .ref q_22, .null, .null, .null, .ref q_1, .ref q_3, .ref q_5, .ref q_7, .ref q_9, .ref q_11, .ref q_13, .int 0, .int 0, .int 0])), (q_18, .inl (k_19, 9, .inr (.inr (.inr (.inr (fun _ => none)))))), (q_20, .inl (k_21, 3, .inl (fun _ => 0))), (q_22, .inl (k_23, 3, .inl (fun _ => 0)))] H := hP
  replace hD : va_D A [(h0, .inr (5, [.ref aw, .int 3, .ref q_18, .ref q_20, .ref q_22, .null, .null, .null, .ref q_1, .ref q_3, .ref q_5, .ref q_7, .ref q_9, .ref q_11, .ref q_13, .int 0, .int 0, .int 0])), (q_18, .inl (k_19, 9, .inr (.inr (.inr (.inr (fun _ => none)))))), (q_20, .inl (k_21, 3, .inl (fun _ => 0))), (q_22, .inl (k_23, 3, .inl (fun _ => 0)))] := hD
  refine lv_aload_n hx hb dX5_init_136 rfl (lv_at hl 0 rfl) ?_
  refine lv_aload_n hx hb dX5_init_137 rfl (lv_at hl 0 rfl) ?_
  refine va_get (D := (dC, dI)) (ci := 5) (v := .int 3) (C := RX5) (T := TX5) (N := 18) hx hb hts (in_X5_init_X5) hown hK hP 0 rfl rfl 1 (by decide) (hts (.fieldLink RX5 49 "MotionSigns$Kernel" "most" "I") (List.mem_of_getElem? (i := 22) rfl)) (fun _ h9 => h9) rfl dX5_init_138 ?_
  refine va_newq (C := RX1) (N' := 3) hx hb hown (hts (.classLink RX5 9 RX1) (List.mem_of_getElem? (i := 4) rfl)) (hN.2.2.1 RX1 (List.mem_of_getElem? (i := 0) rfl)) hK hP hD hS hA (by decide) (by decide) (Nat.le_of_ble_eq_true rfl) (Nat.le_of_ble_eq_true rfl) (Nat.le_of_ble_eq_true rfl) dX5_init_141 ?_
  clear hP hD hS hK; try clear H
  intro q_24 k_25 H hK hP hD hS
  replace hP : va_P (dC, dI) vwCl [(h0, .inr (5, [.ref aw, .int 3, .ref q_18, .ref q_20, .ref q_22, .null, .null, .null, .ref q_1, .ref q_3, .ref q_5, .ref q_7, .ref q_9, .ref q_11, .ref q_13, .int 0, .int 0, .int 0])), (q_18, .inl (k_19, 9, .inr (.inr (.inr (.inr (fun _ => none)))))), (q_20, .inl (k_21, 3, .inl (fun _ => 0))), (q_22, .inl (k_23, 3, .inl (fun _ => 0))), (q_24, .inl (k_25, 3, .inr (.inr (.inr (.inr (fun _ => none))))))] H := hP
  replace hD : va_D A [(h0, .inr (5, [.ref aw, .int 3, .ref q_18, .ref q_20, .ref q_22, .null, .null, .null, .ref q_1, .ref q_3, .ref q_5, .ref q_7, .ref q_9, .ref q_11, .ref q_13, .int 0, .int 0, .int 0])), (q_18, .inl (k_19, 9, .inr (.inr (.inr (.inr (fun _ => none)))))), (q_20, .inl (k_21, 3, .inl (fun _ => 0))), (q_22, .inl (k_23, 3, .inl (fun _ => 0))), (q_24, .inl (k_25, 3, .inr (.inr (.inr (.inr (fun _ => none))))))] := hD
  replace hK : va_K (dC, dI) vwCl [(k_19, .object RX1), (k_21, .int), (k_23, .int), (k_25, .object RX1)] s := hK
  refine va_putF (D := (dC, dI)) (ci := 5) (v := .ref q_24) (ty := .array (.object "MotionSigns$Big")) (C := RX5) (T := TX5) (N := 18) hx hb hts (in_X5_init_X5) tyX5 tyX5_ok nmX5 hown hK hP hD hS 0 rfl rfl 5 (by decide) (hts (.fieldLink RX5 64 "MotionSigns$Kernel" "given" "[LMotionSigns$Big;") (List.mem_of_getElem? (i := 27) rfl)) (fun _ h9 => h9) rfl hin rfl (tyX5_ok 5 (by decide)) rfl rfl (Nat.le_of_ble_eq_true rfl) dX5_init_144 ?_
  clear hP hD hS; try clear H
  intro H locs hP hD hS
  replace hP : va_P (dC, dI) vwCl [(h0, .inr (5, [.ref aw, .int 3, .ref q_18, .ref q_20, .ref q_22, .ref q_24, .null, .null, .ref q_1, .ref q_3, .ref q_5, .ref q_7, .ref q_9, .ref q_11, .ref q_13, .int 0, .int 0, .int 0])), (q_18, .inl (k_19, 9, .inr (.inr (.inr (.inr (fun _ => none)))))), (q_20, .inl (k_21, 3, .inl (fun _ => 0))), (q_22, .inl (k_23, 3, .inl (fun _ => 0))), (q_24, .inl (k_25, 3, .inr (.inr (.inr (.inr (fun _ => none))))))] H := hP
  replace hD : va_D A [(h0, .inr (5, [.ref aw, .int 3, .ref q_18, .ref q_20, .ref q_22, .ref q_24, .null, .null, .ref q_1, .ref q_3, .ref q_5, .ref q_7, .ref q_9, .ref q_11, .ref q_13, .int 0, .int 0, .int 0])), (q_18, .inl (k_19, 9, .inr (.inr (.inr (.inr (fun _ => none)))))), (q_20, .inl (k_21, 3, .inl (fun _ => 0))), (q_22, .inl (k_23, 3, .inl (fun _ => 0))), (q_24, .inl (k_25, 3, .inr (.inr (.inr (.inr (fun _ => none))))))] := hD
  refine lv_aload_n hx hb dX5_init_147 rfl (lv_at hl 0 rfl) ?_
  refine lv_aload_n hx hb dX5_init_148 rfl (lv_at hl 0 rfl) ?_
  refine va_get (D := (dC, dI)) (ci := 5) (v := .int 3) (C := RX5) (T := TX5) (N := 18) hx hb hts (in_X5_init_X5) hown hK hP 0 rfl rfl 1 (by decide) (hts (.fieldLink RX5 49 "MotionSigns$Kernel" "most" "I") (List.mem_of_getElem? (i := 22) rfl)) (fun _ h9 => h9) rfl dX5_init_149 ?_
  refine va_newa (atype := .int) (ty := .int) (N' := 3) (a0 := (3, .inl (fun _ => 0))) hx hb (hts (.arrayClass .int) (List.mem_of_getElem? (i := 24) rfl)) rfl hK hP hD hS hA (fun _ => rfl) (by decide) (by decide) (Nat.le_of_ble_eq_true rfl) (Nat.le_of_ble_eq_true rfl) (Nat.le_of_ble_eq_true rfl) dX5_init_152 ?_
  clear hP hD hS hK; try clear H
  intro q_26 k_27 H hK hP hD hS
  replace hP : va_P (dC, dI) vwCl [(h0, .inr (5, [.ref aw, .int 3, .ref q_18, .ref q_20, .ref q_22, .ref q_24, .null, .null, .ref q_1, .ref q_3, .ref q_5, .ref q_7, .ref q_9, .ref q_11, .ref q_13, .int 0, .int 0, .int 0])), (q_18, .inl (k_19, 9, .inr (.inr (.inr (.inr (fun _ => none)))))), (q_20, .inl (k_21, 3, .inl (fun _ => 0))), (q_22, .inl (k_23, 3, .inl (fun _ => 0))), (q_24, .inl (k_25, 3, .inr (.inr (.inr (.inr (fun _ => none)))))), (q_26, .inl (k_27, 3, .inl (fun _ => 0)))] H := hP
  replace hD : va_D A [(h0, .inr (5, [.ref aw, .int 3, .ref q_18, .ref q_20, .ref q_22, .ref q_24, .null, .null, .ref q_1, .ref q_3, .ref q_5, .ref q_7, .ref q_9, .ref q_11, .ref q_13, .int 0, .int 0, .int 0])), (q_18, .inl (k_19, 9, .inr (.inr (.inr (.inr (fun _ => none)))))), (q_20, .inl (k_21, 3, .inl (fun _ => 0))), (q_22, .inl (k_23, 3, .inl (fun _ => 0))), (q_24, .inl (k_25, 3, .inr (.inr (.inr (.inr (fun _ => none)))))), (q_26, .inl (k_27, 3, .inl (fun _ => 0)))] := hD
  replace hK : va_K (dC, dI) vwCl [(k_19, .object RX1), (k_21, .int), (k_23, .int), (k_25, .object RX1), (k_27, .int)] s := hK
  refine va_putF (D := (dC, dI)) (ci := 5) (v := .ref q_26) (ty := .array .int) (C := RX5) (T := TX5) (N := 18) hx hb hts (in_X5_init_X5) tyX5 tyX5_ok nmX5 hown hK hP hD hS 0 rfl rfl 6 (by decide) (hts (.fieldLink RX5 67 "MotionSigns$Kernel" "used" "[I") (List.mem_of_getElem? (i := 28) rfl)) (fun _ h9 => h9) rfl hin rfl (tyX5_ok 6 (by decide)) rfl rfl (Nat.le_of_ble_eq_true rfl) dX5_init_154 ?_
  clear hP hD hS; try clear H
  intro H locs hP hD hS
  replace hP : va_P (dC, dI) vwCl [(h0, .inr (5, [.ref aw, .int 3, .ref q_18, .ref q_20, .ref q_22, .ref q_24, .ref q_26, .null, .ref q_1, .ref q_3, .ref q_5, .ref q_7, .ref q_9, .ref q_11, .ref q_13, .int 0, .int 0, .int 0])), (q_18, .inl (k_19, 9, .inr (.inr (.inr (.inr (fun _ => none)))))), (q_20, .inl (k_21, 3, .inl (fun _ => 0))), (q_22, .inl (k_23, 3, .inl (fun _ => 0))), (q_24, .inl (k_25, 3, .inr (.inr (.inr (.inr (fun _ => none)))))), (q_26, .inl (k_27, 3, .inl (fun _ => 0)))] H := hP
  replace hD : va_D A [(h0, .inr (5, [.ref aw, .int 3, .ref q_18, .ref q_20, .ref q_22, .ref q_24, .ref q_26, .null, .ref q_1, .ref q_3, .ref q_5, .ref q_7, .ref q_9, .ref q_11, .ref q_13, .int 0, .int 0, .int 0])), (q_18, .inl (k_19, 9, .inr (.inr (.inr (.inr (fun _ => none)))))), (q_20, .inl (k_21, 3, .inl (fun _ => 0))), (q_22, .inl (k_23, 3, .inl (fun _ => 0))), (q_24, .inl (k_25, 3, .inr (.inr (.inr (.inr (fun _ => none)))))), (q_26, .inl (k_27, 3, .inl (fun _ => 0)))] := hD
  refine lv_aload_n hx hb dX5_init_157 rfl (lv_at hl 0 rfl) ?_
  refine lv_aload_n hx hb dX5_init_158 rfl (lv_at hl 0 rfl) ?_
  refine va_get (D := (dC, dI)) (ci := 5) (v := .int 3) (C := RX5) (T := TX5) (N := 18) hx hb hts (in_X5_init_X5) hown hK hP 0 rfl rfl 1 (by decide) (hts (.fieldLink RX5 49 "MotionSigns$Kernel" "most" "I") (List.mem_of_getElem? (i := 22) rfl)) (fun _ h9 => h9) rfl dX5_init_159 ?_
  refine va_newq (C := RX1) (N' := 3) hx hb hown (hts (.classLink RX5 9 RX1) (List.mem_of_getElem? (i := 4) rfl)) (hN.2.2.1 RX1 (List.mem_of_getElem? (i := 0) rfl)) hK hP hD hS hA (by decide) (by decide) (Nat.le_of_ble_eq_true rfl) (Nat.le_of_ble_eq_true rfl) (Nat.le_of_ble_eq_true rfl) dX5_init_162 ?_
  clear hP hD hS hK; try clear H
  intro q_28 k_29 H hK hP hD hS
  replace hP : va_P (dC, dI) vwCl [(h0, .inr (5, [.ref aw, .int 3, .ref q_18, .ref q_20, .ref q_22, .ref q_24, .ref q_26, .null, .ref q_1, .ref q_3, .ref q_5, .ref q_7, .ref q_9, .ref q_11, .ref q_13, .int 0, .int 0, .int 0])), (q_18, .inl (k_19, 9, .inr (.inr (.inr (.inr (fun _ => none)))))), (q_20, .inl (k_21, 3, .inl (fun _ => 0))), (q_22, .inl (k_23, 3, .inl (fun _ => 0))), (q_24, .inl (k_25, 3, .inr (.inr (.inr (.inr (fun _ => none)))))), (q_26, .inl (k_27, 3, .inl (fun _ => 0))), (q_28, .inl (k_29, 3, .inr (.inr (.inr (.inr (fun _ => none))))))] H := hP
  replace hD : va_D A [(h0, .inr (5, [.ref aw, .int 3, .ref q_18, .ref q_20, .ref q_22, .ref q_24, .ref q_26, .null, .ref q_1, .ref q_3, .ref q_5, .ref q_7, .ref q_9, .ref q_11, .ref q_13, .int 0, .int 0, .int 0])), (q_18, .inl (k_19, 9, .inr (.inr (.inr (.inr (fun _ => none)))))), (q_20, .inl (k_21, 3, .inl (fun _ => 0))), (q_22, .inl (k_23, 3, .inl (fun _ => 0))), (q_24, .inl (k_25, 3, .inr (.inr (.inr (.inr (fun _ => none)))))), (q_26, .inl (k_27, 3, .inl (fun _ => 0))), (q_28, .inl (k_29, 3, .inr (.inr (.inr (.inr (fun _ => none))))))] := hD
  replace hK : va_K (dC, dI) vwCl [(k_19, .object RX1), (k_21, .int), (k_23, .int), (k_25, .object RX1), (k_27, .int), (k_29, .object RX1)] s := hK
  refine va_putF (D := (dC, dI)) (ci := 5) (v := .ref q_28) (ty := .array (.object "MotionSigns$Big")) (C := RX5) (T := TX5) (N := 18) hx hb hts (in_X5_init_X5) tyX5 tyX5_ok nmX5 hown hK hP hD hS 0 rfl rfl 7 (by decide) (hts (.fieldLink RX5 70 "MotionSigns$Kernel" "dot" "[LMotionSigns$Big;") (List.mem_of_getElem? (i := 29) rfl)) (fun _ h9 => h9) rfl hin rfl (tyX5_ok 7 (by decide)) rfl rfl (Nat.le_of_ble_eq_true rfl) dX5_init_165 ?_
  clear hP hD hS; try clear H
  intro H locs hP hD hS
  replace hP : va_P (dC, dI) vwCl [(h0, .inr (5, [.ref aw, .int 3, .ref q_18, .ref q_20, .ref q_22, .ref q_24, .ref q_26, .ref q_28, .ref q_1, .ref q_3, .ref q_5, .ref q_7, .ref q_9, .ref q_11, .ref q_13, .int 0, .int 0, .int 0])), (q_18, .inl (k_19, 9, .inr (.inr (.inr (.inr (fun _ => none)))))), (q_20, .inl (k_21, 3, .inl (fun _ => 0))), (q_22, .inl (k_23, 3, .inl (fun _ => 0))), (q_24, .inl (k_25, 3, .inr (.inr (.inr (.inr (fun _ => none)))))), (q_26, .inl (k_27, 3, .inl (fun _ => 0))), (q_28, .inl (k_29, 3, .inr (.inr (.inr (.inr (fun _ => none))))))] H := hP
  replace hD : va_D A [(h0, .inr (5, [.ref aw, .int 3, .ref q_18, .ref q_20, .ref q_22, .ref q_24, .ref q_26, .ref q_28, .ref q_1, .ref q_3, .ref q_5, .ref q_7, .ref q_9, .ref q_11, .ref q_13, .int 0, .int 0, .int 0])), (q_18, .inl (k_19, 9, .inr (.inr (.inr (.inr (fun _ => none)))))), (q_20, .inl (k_21, 3, .inl (fun _ => 0))), (q_22, .inl (k_23, 3, .inl (fun _ => 0))), (q_24, .inl (k_25, 3, .inr (.inr (.inr (.inr (fun _ => none)))))), (q_26, .inl (k_27, 3, .inl (fun _ => 0))), (q_28, .inl (k_29, 3, .inr (.inr (.inr (.inr (fun _ => none))))))] := hD
  refine lv_iconst (v := 0) hx hb dX5_init_168 (by decide) ?_
  refine lv_istore_n (lv' := [(3, .int 0), (0, .ref h0), (1, .ref aw), (2, .int 3)]) hx hb dX5_init_169 rfl hl (by decide) rfl (fun ls hl => ?_)
  replace hP := hP.sub (ws' := [(h0, .inr (5, [.ref aw, .int 3, .ref q_18, .ref q_20, .ref q_22, .ref q_24, .ref q_26, .ref q_28, .ref q_1, .ref q_3, .ref q_5, .ref q_7, .ref q_9, .ref q_11, .ref q_13, .int 0, .int 0, .int 0])), (q_18, .inl (k_19, 9, .inr (.inr (.inr (.inr (fun _ => none)))))), (q_24, .inl (k_25, 3, .inr (.inr (.inr (.inr (fun _ => none)))))), (q_28, .inl (k_29, 3, .inr (.inr (.inr (.inr (fun _ => none))))))]) [0, 1, 4, 6] rfl
  replace hD := hD.sub (ws' := [(h0, .inr (5, [.ref aw, .int 3, .ref q_18, .ref q_20, .ref q_22, .ref q_24, .ref q_26, .ref q_28, .ref q_1, .ref q_3, .ref q_5, .ref q_7, .ref q_9, .ref q_11, .ref q_13, .int 0, .int 0, .int 0])), (q_18, .inl (k_19, 9, .inr (.inr (.inr (.inr (fun _ => none)))))), (q_24, .inl (k_25, 3, .inr (.inr (.inr (.inr (fun _ => none)))))), (q_28, .inl (k_29, 3, .inr (.inr (.inr (.inr (fun _ => none))))))]) [0, 1, 4, 6] (by decide) rfl
  have key_33 : ∀ (n_32 i_30 : Nat) (x_31 : Int32) (f_34 : Nat → Option Nat) (H : Heap) (locs : List Loc) (ls : Array Slot), 0 ≤ i_30 → i_30 ≤ 9 → 9 - i_30 < n_32 → x_31 = nI i_30 → va_P (dC, dI) vwCl [(h0, .inr (5, [.ref aw, .int 3, .ref q_18, .ref q_20, .ref q_22, .ref q_24, .ref q_26, .ref q_28, .ref q_1, .ref q_3, .ref q_5, .ref q_7, .ref q_9, .ref q_11, .ref q_13, .int 0, .int 0, .int 0])), (q_18, .inl (k_19, 9, .inr (.inr (.inr (.inr f_34))))), (q_24, .inl (k_25, 3, .inr (.inr (.inr (.inr (fun _ => none)))))), (q_28, .inl (k_29, 3, .inr (.inr (.inr (.inr (fun _ => none))))))] H → va_D A [(h0, .inr (5, [.ref aw, .int 3, .ref q_18, .ref q_20, .ref q_22, .ref q_24, .ref q_26, .ref q_28, .ref q_1, .ref q_3, .ref q_5, .ref q_7, .ref q_9, .ref q_11, .ref q_13, .int 0, .int 0, .int 0])), (q_18, .inl (k_19, 9, .inr (.inr (.inr (.inr f_34))))), (q_24, .inl (k_25, 3, .inr (.inr (.inr (.inr (fun _ => none)))))), (q_28, .inl (k_29, 3, .inr (.inr (.inr (.inr (fun _ => none))))))] → va_S A s.heap H locs → lv_has ls 4 [(3, .int x_31), (0, .ref h0), (1, .ref aw), (2, .int 3)] → W p l e ({ frames := 2, cells := 50, slots := 156, locals := 32 } : Room) s m ([.ref h0, .ref aw, .int 3] : List Value).toArray below meth c H locs (20 + 2 * i_30) (66 + 6 * i_30) Q0 (F0 m 170 ls []) := by
    intro n_32
    induction n_32 with
    | zero =>
      intro i_30 x_31 f_34 H locs ls h0 h1 h2
      exact absurd h2 (by omega)
    | succ n_32 ihkey_33 =>
      intro i_30 x_31 f_34 H locs ls hbi_30 hii_30 hni_30 ex_31 hP hD hS hl
      refine lv_iload_n hx hb dX5_init_170 rfl (lv_at hl 0 rfl) ?_
      refine lv_aload_n hx hb dX5_init_171 rfl (lv_at hl 1 rfl) ?_
      refine va_get (D := (dC, dI)) (ci := 5) (v := .int 3) (C := RX5) (T := TX5) (N := 18) hx hb hts (in_X5_init_X5) hown hK hP 0 rfl rfl 1 (by decide) (hts (.fieldLink RX5 49 "MotionSigns$Kernel" "most" "I") (List.mem_of_getElem? (i := 22) rfl)) (fun _ h9 => h9) rfl dX5_init_172 ?_
      refine lv_aload_n hx hb dX5_init_175 rfl (lv_at hl 1 rfl) ?_
      refine va_get (D := (dC, dI)) (ci := 5) (v := .int 3) (C := RX5) (T := TX5) (N := 18) hx hb hts (in_X5_init_X5) hown hK hP 0 rfl rfl 1 (by decide) (hts (.fieldLink RX5 49 "MotionSigns$Kernel" "most" "I") (List.mem_of_getElem? (i := 22) rfl)) (fun _ h9 => h9) rfl dX5_init_176 ?_
      refine lv_imul hx hb dX5_init_179 ?_
      refine lv_topi (fun v_35 ev_35 => ?_)
      have ev_35 : v_35 = 9 := ev_35.trans (by decide)
      subst ev_35
      refine lv_icmp_ge (tgt := 202) hx hb dX5_init_180 (by decide) (fun hi_30 => ?_) (fun hi_30 => ?_)
      · have hEi_30 : i_30 = 9 := by
          rcases Nat.lt_or_ge i_30 9 with q | q
          · exact absurd hi_30 (by rw [ex_31]; exact nI_ge (b := 9) q (by omega))
          · omega
        subst hEi_30
        refine W.widen (k := 38) (n := 120) (by omega) (by omega) ?_
        refine lv_iconst (v := 0) hx hb dX5_init_202 (by decide) ?_
        refine lv_istore_n (lv' := [(3, .int 0), (0, .ref h0), (1, .ref aw), (2, .int 3)]) hx hb dX5_init_203 rfl hl (by decide) rfl (fun ls hl => ?_)
        have key_39 : ∀ (n_38 i_36 : Nat) (x_37 : Int32) (f_40 : Nat → Option Nat) (f_41 : Nat → Option Nat) (H : Heap) (locs : List Loc) (ls : Array Slot), 0 ≤ i_36 → i_36 ≤ 3 → 3 - i_36 < n_38 → x_37 = nI i_36 → va_P (dC, dI) vwCl [(h0, .inr (5, [.ref aw, .int 3, .ref q_18, .ref q_20, .ref q_22, .ref q_24, .ref q_26, .ref q_28, .ref q_1, .ref q_3, .ref q_5, .ref q_7, .ref q_9, .ref q_11, .ref q_13, .int 0, .int 0, .int 0])), (q_18, .inl (k_19, 9, .inr (.inr (.inr (.inr f_34))))), (q_24, .inl (k_25, 3, .inr (.inr (.inr (.inr f_40))))), (q_28, .inl (k_29, 3, .inr (.inr (.inr (.inr f_41)))))] H → va_D A [(h0, .inr (5, [.ref aw, .int 3, .ref q_18, .ref q_20, .ref q_22, .ref q_24, .ref q_26, .ref q_28, .ref q_1, .ref q_3, .ref q_5, .ref q_7, .ref q_9, .ref q_11, .ref q_13, .int 0, .int 0, .int 0])), (q_18, .inl (k_19, 9, .inr (.inr (.inr (.inr f_34))))), (q_24, .inl (k_25, 3, .inr (.inr (.inr (.inr f_40))))), (q_28, .inl (k_29, 3, .inr (.inr (.inr (.inr f_41)))))] → va_S A s.heap H locs → lv_has ls 4 [(3, .int x_37), (0, .ref h0), (1, .ref aw), (2, .int 3)] → W p l e ({ frames := 2, cells := 50, slots := 156, locals := 32 } : Room) s m ([.ref h0, .ref aw, .int 3] : List Value).toArray below meth c H locs (38 + 4 * i_36) (120 + 12 * i_36) Q0 (F0 m 204 ls []) := by
          intro n_38
          induction n_38 with
          | zero =>
            intro i_36 x_37 f_40 f_41 H locs ls h0 h1 h2
            exact absurd h2 (by omega)
          | succ n_38 ihkey_39 =>
            intro i_36 x_37 f_40 f_41 H locs ls hbi_36 hii_36 hni_36 ex_37 hP hD hS hl
            refine lv_iload_n hx hb dX5_init_204 rfl (lv_at hl 0 rfl) ?_
            refine lv_aload_n hx hb dX5_init_205 rfl (lv_at hl 1 rfl) ?_
            refine va_get (D := (dC, dI)) (ci := 5) (v := .int 3) (C := RX5) (T := TX5) (N := 18) hx hb hts (in_X5_init_X5) hown hK hP 0 rfl rfl 1 (by decide) (hts (.fieldLink RX5 49 "MotionSigns$Kernel" "most" "I") (List.mem_of_getElem? (i := 22) rfl)) (fun _ h9 => h9) rfl dX5_init_206 ?_
            refine lv_icmp_ge (tgt := 244) hx hb dX5_init_209 (by decide) (fun hi_36 => ?_) (fun hi_36 => ?_)
            · have hEi_36 : i_36 = 3 := by
                rcases Nat.lt_or_ge i_36 3 with q | q
                · exact absurd hi_36 (by rw [ex_37]; exact nI_ge (b := 3) q (by omega))
                · omega
              subst hEi_36
              refine W.widen (k := 50) (n := 156) (by omega) (by omega) ?_
              have hP9 := hP.sub (ws' := [(h0, .inr (5, [.ref aw, .int 3, .ref q_18, .ref q_20, .ref q_22, .ref q_24, .ref q_26, .ref q_28, .ref q_1, .ref q_3, .ref q_5, .ref q_7, .ref q_9, .ref q_11, .ref q_13, .int 0, .int 0, .int 0]))]) [0] rfl
              have hD9 := hD.sub (ws' := [(h0, .inr (5, [.ref aw, .int 3, .ref q_18, .ref q_20, .ref q_22, .ref q_24, .ref q_26, .ref q_28, .ref q_1, .ref q_3, .ref q_5, .ref q_7, .ref q_9, .ref q_11, .ref q_13, .int 0, .int 0, .int 0]))]) [0] (by decide) rfl
              have hK9 := hK.sub (tys' := []) [] rfl
              rw [← hAe] at hD9
              refine W.widen (k := 50) (n := 156) (Nat.le_of_ble_eq_true rfl) (Nat.le_of_ble_eq_true rfl) ?_
              subst hQ0
              subst hAe
              exact W.vret hx hb hr (fun t ht hW => ⟨⟨(), rfl, trivial, [.ref aw, .int 3, .ref q_18, .ref q_20, .ref q_22, .ref q_24, .ref q_26, .ref q_28, .ref q_1, .ref q_3, .ref q_5, .ref q_7, .ref q_9, .ref q_11, .ref q_13, .int 0, .int 0, .int 0], by rw [ht]; exact hP9, va_K.moved hW.alike hK9, hD9⟩, hS.F ht⟩) hS.2.2 dX5_init_244
            · have hlti_36 : i_36 < 3 := by
                rcases Nat.lt_or_ge i_36 3 with q | q
                · exact q
                · exact absurd (by rw [ex_37]; exact nI_le q (by omega)) hi_36
              refine lv_aload_n hx hb dX5_init_212 rfl (lv_at hl 1 rfl) ?_
              refine va_get (D := (dC, dI)) (ci := 5) (v := .ref q_24) (C := RX5) (T := TX5) (N := 18) hx hb hts (in_X5_init_X5) hown hK hP 0 rfl rfl 5 (by decide) (hts (.fieldLink RX5 64 "MotionSigns$Kernel" "given" "[LMotionSigns$Big;") (List.mem_of_getElem? (i := 27) rfl)) (fun _ h9 => h9) rfl dX5_init_213 ?_
              refine lv_iload_n hx hb dX5_init_216 rfl (lv_at hl 0 rfl) ?_
              refine va_new (ci := 1) (fs := [.int 0, .int 0, .null]) (C := RX1) (T := TX1) (N := 3) hx hb hts (in_X5_init_X1) tyX1 tyX1_ok hown (hts (.classLink RX5 9 RX1) (List.mem_of_getElem? (i := 4) rfl)) (hts (.instantiable RX1 3) (List.mem_of_getElem? (i := 5) rfl)) (hts (.initialized RX1) (List.mem_of_getElem? (i := 6) rfl)) hK hP hD hS hA rfl (fun j hj => by rcases (show j = 0 ∨ j = 1 ∨ j = 2 by omega) with rfl | rfl | rfl <;> rfl) (by show _ ≤ (50 : Nat); omega) (by show _ ≤ (156 : Nat); omega) dX5_init_217 ?_
              clear hP hD hS; try clear H
              intro q_42 H hP hD hS
              replace hP : va_P (dC, dI) vwCl [(h0, .inr (5, [.ref aw, .int 3, .ref q_18, .ref q_20, .ref q_22, .ref q_24, .ref q_26, .ref q_28, .ref q_1, .ref q_3, .ref q_5, .ref q_7, .ref q_9, .ref q_11, .ref q_13, .int 0, .int 0, .int 0])), (q_18, .inl (k_19, 9, .inr (.inr (.inr (.inr f_34))))), (q_24, .inl (k_25, 3, .inr (.inr (.inr (.inr f_40))))), (q_28, .inl (k_29, 3, .inr (.inr (.inr (.inr f_41))))), (q_42, .inr (1, [.int 0, .int 0, .null]))] H := hP
              replace hD : va_D A [(h0, .inr (5, [.ref aw, .int 3, .ref q_18, .ref q_20, .ref q_22, .ref q_24, .ref q_26, .ref q_28, .ref q_1, .ref q_3, .ref q_5, .ref q_7, .ref q_9, .ref q_11, .ref q_13, .int 0, .int 0, .int 0])), (q_18, .inl (k_19, 9, .inr (.inr (.inr (.inr f_34))))), (q_24, .inl (k_25, 3, .inr (.inr (.inr (.inr f_40))))), (q_28, .inl (k_29, 3, .inr (.inr (.inr (.inr f_41))))), (q_42, .inr (1, [.int 0, .int 0, .null]))] := hD
              refine lv_dup hx hb dX5_init_220 rfl ?_
              have hPc := hP.sub (ws' := [(q_42, .inr (1, [.int 0, .int 0, .null]))]) [4] rfl
              have hDc := hD.sub (ws' := [(q_42, .inr (1, [.int 0, .int 0, .null]))]) [4] (by decide) rfl
              have hKc := hK.sub (tys' := []) [] rfl
              have hFc := va_free (wc := [(q_42, .inr (1, [.int 0, .int 0, .null]))]) hD hS hA [4] rfl
              refine va_callv (va_runIN (As := []) (rest := [.ref q_42, .int x_37, .ref q_24]) ⟨hx, hb, hml, hown, hts⟩ (c_X1_init l dC dI q_42 H.size) ⟨va_cnB 0 hts gX5_init_X1_init_n11 rfl rfl rfl (hN.1 (RX5, 11, yX1_init, RX11) (List.mem_of_getElem? (i := 6) rfl)) (hts (.initialized RX1) (List.mem_of_getElem? (i := 6) rfl)) hd_X1_init ⟨Nat.le_of_ble_eq_true rfl, Nat.le_of_ble_eq_true rfl⟩, rfl, (hts (.instanceMethod yX1_init) (List.mem_of_getElem? (i := 30) rfl))⟩ ⟨fun a U g mk q => by obtain ⟨q0, q1, qP, qK, qD, qE0⟩ := q; exact ⟨q0, q1, qP, va_K.moved (u := U) (U := U.calling g mk a) (Vm.Alike.refl U.vm) qK, qD, w_N.same rfl qE0⟩, fun U hU hW => ⟨rfl, by rw [hU], by rw [hU]; exact hPc, va_K.moved hW.alike hKc, hDc.weaken (fun _ _ _ _ => trivial), w_N.warm hW hN⟩⟩ rfl rfl hl.1 rfl (lv_room (Nat.le_of_ble_eq_true rfl)) dX5_init_221 ⟨(by show _ ≤ (50 : Nat); omega), (by show _ ≤ (156 : Nat); omega)⟩) hS (fun q _ h => hFc q h) hFc (fun u t H1 locs1 ht hvm hw hB hz1 hk1 hS1 => ?_)
              obtain ⟨f_43, hP1, hK1, hD1⟩ := hB
              rw [ht] at hP1
              have hK1 := va_K.moved hvm.symm hK1
              have hJ := va_join (wr := [(h0, .inr (5, [.ref aw, .int 3, .ref q_18, .ref q_20, .ref q_22, .ref q_24, .ref q_26, .ref q_28, .ref q_1, .ref q_3, .ref q_5, .ref q_7, .ref q_9, .ref q_11, .ref q_13, .int 0, .int 0, .int 0])), (q_18, .inl (k_19, 9, .inr (.inr (.inr (.inr f_34))))), (q_24, .inl (k_25, 3, .inr (.inr (.inr (.inr f_40))))), (q_28, .inl (k_29, 3, .inr (.inr (.inr (.inr f_41)))))]) (w1 := [(q_42, .inr (1, f_43))]) hP hD [4] [0, 1, 2, 3] rfl rfl (by decide) (by decide) hk1 hFc hP1 hD1
              clear hP hD hPc hDc hKc hFc hz1 hw; try clear hk1
              obtain ⟨hP, hD⟩ := hJ
              replace hK := (hK.sub (tys' := [(k_19, .object RX1), (k_21, .int), (k_23, .int), (k_25, .object RX1), (k_27, .int), (k_29, .object RX1)]) [0, 1, 2, 3, 4, 5] rfl).app (hK1.sub (tys' := []) [] rfl)
              clear hP1 hK1 hD1 hvm ht hS; try clear t
              try clear H
              revert hS1
              intro hS
              generalize H1 = H at hP hS ⊢; try clear H1
              replace hP : va_P (dC, dI) vwCl [(h0, .inr (5, [.ref aw, .int 3, .ref q_18, .ref q_20, .ref q_22, .ref q_24, .ref q_26, .ref q_28, .ref q_1, .ref q_3, .ref q_5, .ref q_7, .ref q_9, .ref q_11, .ref q_13, .int 0, .int 0, .int 0])), (q_18, .inl (k_19, 9, .inr (.inr (.inr (.inr f_34))))), (q_24, .inl (k_25, 3, .inr (.inr (.inr (.inr f_40))))), (q_28, .inl (k_29, 3, .inr (.inr (.inr (.inr f_41))))), (q_42, .inr (1, f_43))] H := hP
              replace hD : va_D A [(h0, .inr (5, [.ref aw, .int 3, .ref q_18, .ref q_20, .ref q_22, .ref q_24, .ref q_26, .ref q_28, .ref q_1, .ref q_3, .ref q_5, .ref q_7, .ref q_9, .ref q_11, .ref q_13, .int 0, .int 0, .int 0])), (q_18, .inl (k_19, 9, .inr (.inr (.inr (.inr f_34))))), (q_24, .inl (k_25, 3, .inr (.inr (.inr (.inr f_40))))), (q_28, .inl (k_29, 3, .inr (.inr (.inr (.inr f_41))))), (q_42, .inr (1, f_43))] := hD
              replace hK : va_K (dC, dI) vwCl [(k_19, .object RX1), (k_21, .int), (k_23, .int), (k_25, .object RX1), (k_27, .int), (k_29, .object RX1)] s := hK
              refine va_astq hx hb hK hP hD hS 2 3 4 1 rfl rfl rfl rfl (by rw [ex_37]; exact vp_in_nI (by omega) (by omega)) dX5_init_224 ?_
              clear hP hD hS; try clear H
              intro H locs hP hD hS
              replace hP : va_P (dC, dI) vwCl [(h0, .inr (5, [.ref aw, .int 3, .ref q_18, .ref q_20, .ref q_22, .ref q_24, .ref q_26, .ref q_28, .ref q_1, .ref q_3, .ref q_5, .ref q_7, .ref q_9, .ref q_11, .ref q_13, .int 0, .int 0, .int 0])), (q_18, .inl (k_19, 9, .inr (.inr (.inr (.inr f_34))))), (q_24, .inl (k_25, 3, .inr (.inr (.inr (.inr (va_up (f_40) (x_37 : Int32).toNatClampNeg (some q_42))))))), (q_28, .inl (k_29, 3, .inr (.inr (.inr (.inr f_41))))), (q_42, .inr (1, f_43))] H := hP
              replace hD : va_D A [(h0, .inr (5, [.ref aw, .int 3, .ref q_18, .ref q_20, .ref q_22, .ref q_24, .ref q_26, .ref q_28, .ref q_1, .ref q_3, .ref q_5, .ref q_7, .ref q_9, .ref q_11, .ref q_13, .int 0, .int 0, .int 0])), (q_18, .inl (k_19, 9, .inr (.inr (.inr (.inr f_34))))), (q_24, .inl (k_25, 3, .inr (.inr (.inr (.inr (va_up (f_40) (x_37 : Int32).toNatClampNeg (some q_42))))))), (q_28, .inl (k_29, 3, .inr (.inr (.inr (.inr f_41))))), (q_42, .inr (1, f_43))] := hD
              refine lv_aload_n hx hb dX5_init_225 rfl (lv_at hl 1 rfl) ?_
              refine va_get (D := (dC, dI)) (ci := 5) (v := .ref q_28) (C := RX5) (T := TX5) (N := 18) hx hb hts (in_X5_init_X5) hown hK hP 0 rfl rfl 7 (by decide) (hts (.fieldLink RX5 70 "MotionSigns$Kernel" "dot" "[LMotionSigns$Big;") (List.mem_of_getElem? (i := 29) rfl)) (fun _ h9 => h9) rfl dX5_init_226 ?_
              refine lv_iload_n hx hb dX5_init_229 rfl (lv_at hl 0 rfl) ?_
              refine va_new (ci := 1) (fs := [.int 0, .int 0, .null]) (C := RX1) (T := TX1) (N := 3) hx hb hts (in_X5_init_X1) tyX1 tyX1_ok hown (hts (.classLink RX5 9 RX1) (List.mem_of_getElem? (i := 4) rfl)) (hts (.instantiable RX1 3) (List.mem_of_getElem? (i := 5) rfl)) (hts (.initialized RX1) (List.mem_of_getElem? (i := 6) rfl)) hK hP hD hS hA rfl (fun j hj => by rcases (show j = 0 ∨ j = 1 ∨ j = 2 by omega) with rfl | rfl | rfl <;> rfl) (by show _ ≤ (50 : Nat); omega) (by show _ ≤ (156 : Nat); omega) dX5_init_230 ?_
              clear hP hD hS; try clear H
              intro q_44 H hP hD hS
              replace hP : va_P (dC, dI) vwCl [(h0, .inr (5, [.ref aw, .int 3, .ref q_18, .ref q_20, .ref q_22, .ref q_24, .ref q_26, .ref q_28, .ref q_1, .ref q_3, .ref q_5, .ref q_7, .ref q_9, .ref q_11, .ref q_13, .int 0, .int 0, .int 0])), (q_18, .inl (k_19, 9, .inr (.inr (.inr (.inr f_34))))), (q_24, .inl (k_25, 3, .inr (.inr (.inr (.inr (va_up (f_40) (x_37 : Int32).toNatClampNeg (some q_42))))))), (q_28, .inl (k_29, 3, .inr (.inr (.inr (.inr f_41))))), (q_42, .inr (1, f_43)), (q_44, .inr (1, [.int 0, .int 0, .null]))] H := hP
              replace hD : va_D A [(h0, .inr (5, [.ref aw, .int 3, .ref q_18, .ref q_20, .ref q_22, .ref q_24, .ref q_26, .ref q_28, .ref q_1, .ref q_3, .ref q_5, .ref q_7, .ref q_9, .ref q_11, .ref q_13, .int 0, .int 0, .int 0])), (q_18, .inl (k_19, 9, .inr (.inr (.inr (.inr f_34))))), (q_24, .inl (k_25, 3, .inr (.inr (.inr (.inr (va_up (f_40) (x_37 : Int32).toNatClampNeg (some q_42))))))), (q_28, .inl (k_29, 3, .inr (.inr (.inr (.inr f_41))))), (q_42, .inr (1, f_43)), (q_44, .inr (1, [.int 0, .int 0, .null]))] := hD
              refine lv_dup hx hb dX5_init_233 rfl ?_
              have hPc := hP.sub (ws' := [(q_44, .inr (1, [.int 0, .int 0, .null]))]) [5] rfl
              have hDc := hD.sub (ws' := [(q_44, .inr (1, [.int 0, .int 0, .null]))]) [5] (by decide) rfl
              have hKc := hK.sub (tys' := []) [] rfl
              have hFc := va_free (wc := [(q_44, .inr (1, [.int 0, .int 0, .null]))]) hD hS hA [5] rfl
              refine va_callv (va_runIN (As := []) (rest := [.ref q_44, .int x_37, .ref q_28]) ⟨hx, hb, hml, hown, hts⟩ (c_X1_init l dC dI q_44 H.size) ⟨va_cnB 0 hts gX5_init_X1_init_n11 rfl rfl rfl (hN.1 (RX5, 11, yX1_init, RX11) (List.mem_of_getElem? (i := 6) rfl)) (hts (.initialized RX1) (List.mem_of_getElem? (i := 6) rfl)) hd_X1_init ⟨Nat.le_of_ble_eq_true rfl, Nat.le_of_ble_eq_true rfl⟩, rfl, (hts (.instanceMethod yX1_init) (List.mem_of_getElem? (i := 30) rfl))⟩ ⟨fun a U g mk q => by obtain ⟨q0, q1, qP, qK, qD, qE0⟩ := q; exact ⟨q0, q1, qP, va_K.moved (u := U) (U := U.calling g mk a) (Vm.Alike.refl U.vm) qK, qD, w_N.same rfl qE0⟩, fun U hU hW => ⟨rfl, by rw [hU], by rw [hU]; exact hPc, va_K.moved hW.alike hKc, hDc.weaken (fun _ _ _ _ => trivial), w_N.warm hW hN⟩⟩ rfl rfl hl.1 rfl (lv_room (Nat.le_of_ble_eq_true rfl)) dX5_init_234 ⟨(by show _ ≤ (50 : Nat); omega), (by show _ ≤ (156 : Nat); omega)⟩) hS (fun q _ h => hFc q h) hFc (fun u t H1 locs1 ht hvm hw hB hz1 hk1 hS1 => ?_)
              obtain ⟨f_45, hP1, hK1, hD1⟩ := hB
              rw [ht] at hP1
              have hK1 := va_K.moved hvm.symm hK1
              have hJ := va_join (wr := [(h0, .inr (5, [.ref aw, .int 3, .ref q_18, .ref q_20, .ref q_22, .ref q_24, .ref q_26, .ref q_28, .ref q_1, .ref q_3, .ref q_5, .ref q_7, .ref q_9, .ref q_11, .ref q_13, .int 0, .int 0, .int 0])), (q_18, .inl (k_19, 9, .inr (.inr (.inr (.inr f_34))))), (q_24, .inl (k_25, 3, .inr (.inr (.inr (.inr (va_up (f_40) (x_37 : Int32).toNatClampNeg (some q_42))))))), (q_28, .inl (k_29, 3, .inr (.inr (.inr (.inr f_41))))), (q_42, .inr (1, f_43))]) (w1 := [(q_44, .inr (1, f_45))]) hP hD [5] [0, 1, 2, 3, 4] rfl rfl (by decide) (by decide) hk1 hFc hP1 hD1
              clear hP hD hPc hDc hKc hFc hz1 hw; try clear hk1
              obtain ⟨hP, hD⟩ := hJ
              replace hK := (hK.sub (tys' := [(k_19, .object RX1), (k_21, .int), (k_23, .int), (k_25, .object RX1), (k_27, .int), (k_29, .object RX1)]) [0, 1, 2, 3, 4, 5] rfl).app (hK1.sub (tys' := []) [] rfl)
              clear hP1 hK1 hD1 hvm ht hS; try clear t
              try clear H
              revert hS1
              intro hS
              generalize H1 = H at hP hS ⊢; try clear H1
              replace hP : va_P (dC, dI) vwCl [(h0, .inr (5, [.ref aw, .int 3, .ref q_18, .ref q_20, .ref q_22, .ref q_24, .ref q_26, .ref q_28, .ref q_1, .ref q_3, .ref q_5, .ref q_7, .ref q_9, .ref q_11, .ref q_13, .int 0, .int 0, .int 0])), (q_18, .inl (k_19, 9, .inr (.inr (.inr (.inr f_34))))), (q_24, .inl (k_25, 3, .inr (.inr (.inr (.inr (va_up (f_40) (x_37 : Int32).toNatClampNeg (some q_42))))))), (q_28, .inl (k_29, 3, .inr (.inr (.inr (.inr f_41))))), (q_42, .inr (1, f_43)), (q_44, .inr (1, f_45))] H := hP
              replace hD : va_D A [(h0, .inr (5, [.ref aw, .int 3, .ref q_18, .ref q_20, .ref q_22, .ref q_24, .ref q_26, .ref q_28, .ref q_1, .ref q_3, .ref q_5, .ref q_7, .ref q_9, .ref q_11, .ref q_13, .int 0, .int 0, .int 0])), (q_18, .inl (k_19, 9, .inr (.inr (.inr (.inr f_34))))), (q_24, .inl (k_25, 3, .inr (.inr (.inr (.inr (va_up (f_40) (x_37 : Int32).toNatClampNeg (some q_42))))))), (q_28, .inl (k_29, 3, .inr (.inr (.inr (.inr f_41))))), (q_42, .inr (1, f_43)), (q_44, .inr (1, f_45))] := hD
              replace hK : va_K (dC, dI) vwCl [(k_19, .object RX1), (k_21, .int), (k_23, .int), (k_25, .object RX1), (k_27, .int), (k_29, .object RX1)] s := hK
              refine va_astq hx hb hK hP hD hS 3 5 5 1 rfl rfl rfl rfl (by rw [ex_37]; exact vp_in_nI (by omega) (by omega)) dX5_init_237 ?_
              clear hP hD hS; try clear H
              intro H locs hP hD hS
              replace hP : va_P (dC, dI) vwCl [(h0, .inr (5, [.ref aw, .int 3, .ref q_18, .ref q_20, .ref q_22, .ref q_24, .ref q_26, .ref q_28, .ref q_1, .ref q_3, .ref q_5, .ref q_7, .ref q_9, .ref q_11, .ref q_13, .int 0, .int 0, .int 0])), (q_18, .inl (k_19, 9, .inr (.inr (.inr (.inr f_34))))), (q_24, .inl (k_25, 3, .inr (.inr (.inr (.inr (va_up (f_40) (x_37 : Int32).toNatClampNeg (some q_42))))))), (q_28, .inl (k_29, 3, .inr (.inr (.inr (.inr (va_up (f_41) (x_37 : Int32).toNatClampNeg (some q_44))))))), (q_42, .inr (1, f_43)), (q_44, .inr (1, f_45))] H := hP
              replace hD : va_D A [(h0, .inr (5, [.ref aw, .int 3, .ref q_18, .ref q_20, .ref q_22, .ref q_24, .ref q_26, .ref q_28, .ref q_1, .ref q_3, .ref q_5, .ref q_7, .ref q_9, .ref q_11, .ref q_13, .int 0, .int 0, .int 0])), (q_18, .inl (k_19, 9, .inr (.inr (.inr (.inr f_34))))), (q_24, .inl (k_25, 3, .inr (.inr (.inr (.inr (va_up (f_40) (x_37 : Int32).toNatClampNeg (some q_42))))))), (q_28, .inl (k_29, 3, .inr (.inr (.inr (.inr (va_up (f_41) (x_37 : Int32).toNatClampNeg (some q_44))))))), (q_42, .inr (1, f_43)), (q_44, .inr (1, f_45))] := hD
              obtain ⟨v_46, ev_46⟩ : ∃ y : Int32, y = x_37 + 1 := ⟨_, rfl⟩
              refine lv_iinc (v := v_46) (lv' := [(3, .int v_46), (0, .ref h0), (1, .ref aw), (2, .int 3)]) hx hb dX5_init_238 hl (k := 0) rfl (by rw [ev_46]; rfl) (by decide) rfl (fun ls hl => ?_)
              refine lv_goto (tgt := 204) hx hb dX5_init_241 (by decide) ?_
              replace hP := hP.sub (ws' := [(h0, .inr (5, [.ref aw, .int 3, .ref q_18, .ref q_20, .ref q_22, .ref q_24, .ref q_26, .ref q_28, .ref q_1, .ref q_3, .ref q_5, .ref q_7, .ref q_9, .ref q_11, .ref q_13, .int 0, .int 0, .int 0])), (q_18, .inl (k_19, 9, .inr (.inr (.inr (.inr f_34))))), (q_24, .inl (k_25, 3, .inr (.inr (.inr (.inr (va_up (f_40) (x_37 : Int32).toNatClampNeg (some q_42))))))), (q_28, .inl (k_29, 3, .inr (.inr (.inr (.inr (va_up (f_41) (x_37 : Int32).toNatClampNeg (some q_44)))))))]) [0, 1, 2, 3] rfl
              replace hD := hD.sub (ws' := [(h0, .inr (5, [.ref aw, .int 3, .ref q_18, .ref q_20, .ref q_22, .ref q_24, .ref q_26, .ref q_28, .ref q_1, .ref q_3, .ref q_5, .ref q_7, .ref q_9, .ref q_11, .ref q_13, .int 0, .int 0, .int 0])), (q_18, .inl (k_19, 9, .inr (.inr (.inr (.inr f_34))))), (q_24, .inl (k_25, 3, .inr (.inr (.inr (.inr (va_up (f_40) (x_37 : Int32).toNatClampNeg (some q_42))))))), (q_28, .inl (k_29, 3, .inr (.inr (.inr (.inr (va_up (f_41) (x_37 : Int32).toNatClampNeg (some q_44)))))))]) [0, 1, 2, 3] (by decide) rfl
              refine W.widen (k := 38 + 4 * (i_36 + 1)) (n := 120 + 12 * (i_36 + 1)) (by omega) (by omega) ?_
              exact ihkey_39 (i_36 + 1) _ _ _ H locs ls (by omega) (by omega) (by omega) (by rw [ev_46, ex_37]; exact nI_1 i_36) (hP.sub [0, 1, 2, 3] rfl) (hD.sub [0, 1, 2, 3] (by decide) rfl) hS (lv_sub hl [0, 1, 2, 3] rfl)
        refine W.widen (k := 38 + 4 * 0) (n := 120 + 12 * 0) (by omega) (by omega) ?_
        exact key_39 (3 + 1) 0 _ _ _ H locs ls (by omega) (by omega) (by omega) (by first | rfl | exact nI_0.symm | decide) hP hD hS hl
      · have hlti_30 : i_30 < 9 := by
          rcases Nat.lt_or_ge i_30 9 with q | q
          · exact q
          · exact absurd (by rw [ex_31]; exact nI_le q (by omega)) hi_30
        refine lv_aload_n hx hb dX5_init_183 rfl (lv_at hl 1 rfl) ?_
        refine va_get (D := (dC, dI)) (ci := 5) (v := .ref q_18) (C := RX5) (T := TX5) (N := 18) hx hb hts (in_X5_init_X5) hown hK hP 0 rfl rfl 2 (by decide) (hts (.fieldLink RX5 53 "MotionSigns$Kernel" "cell" "[LMotionSigns$Big;") (List.mem_of_getElem? (i := 23) rfl)) (fun _ h9 => h9) rfl dX5_init_184 ?_
        refine lv_iload_n hx hb dX5_init_187 rfl (lv_at hl 0 rfl) ?_
        refine va_new (ci := 1) (fs := [.int 0, .int 0, .null]) (C := RX1) (T := TX1) (N := 3) hx hb hts (in_X5_init_X1) tyX1 tyX1_ok hown (hts (.classLink RX5 9 RX1) (List.mem_of_getElem? (i := 4) rfl)) (hts (.instantiable RX1 3) (List.mem_of_getElem? (i := 5) rfl)) (hts (.initialized RX1) (List.mem_of_getElem? (i := 6) rfl)) hK hP hD hS hA rfl (fun j hj => by rcases (show j = 0 ∨ j = 1 ∨ j = 2 by omega) with rfl | rfl | rfl <;> rfl) (by show _ ≤ (50 : Nat); omega) (by show _ ≤ (156 : Nat); omega) dX5_init_188 ?_
        clear hP hD hS; try clear H
        intro q_47 H hP hD hS
        replace hP : va_P (dC, dI) vwCl [(h0, .inr (5, [.ref aw, .int 3, .ref q_18, .ref q_20, .ref q_22, .ref q_24, .ref q_26, .ref q_28, .ref q_1, .ref q_3, .ref q_5, .ref q_7, .ref q_9, .ref q_11, .ref q_13, .int 0, .int 0, .int 0])), (q_18, .inl (k_19, 9, .inr (.inr (.inr (.inr f_34))))), (q_24, .inl (k_25, 3, .inr (.inr (.inr (.inr (fun _ => none)))))), (q_28, .inl (k_29, 3, .inr (.inr (.inr (.inr (fun _ => none)))))), (q_47, .inr (1, [.int 0, .int 0, .null]))] H := hP
        replace hD : va_D A [(h0, .inr (5, [.ref aw, .int 3, .ref q_18, .ref q_20, .ref q_22, .ref q_24, .ref q_26, .ref q_28, .ref q_1, .ref q_3, .ref q_5, .ref q_7, .ref q_9, .ref q_11, .ref q_13, .int 0, .int 0, .int 0])), (q_18, .inl (k_19, 9, .inr (.inr (.inr (.inr f_34))))), (q_24, .inl (k_25, 3, .inr (.inr (.inr (.inr (fun _ => none)))))), (q_28, .inl (k_29, 3, .inr (.inr (.inr (.inr (fun _ => none)))))), (q_47, .inr (1, [.int 0, .int 0, .null]))] := hD
        refine lv_dup hx hb dX5_init_191 rfl ?_
        have hPc := hP.sub (ws' := [(q_47, .inr (1, [.int 0, .int 0, .null]))]) [4] rfl
        have hDc := hD.sub (ws' := [(q_47, .inr (1, [.int 0, .int 0, .null]))]) [4] (by decide) rfl
        have hKc := hK.sub (tys' := []) [] rfl
        have hFc := va_free (wc := [(q_47, .inr (1, [.int 0, .int 0, .null]))]) hD hS hA [4] rfl
        refine va_callv (va_runIN (As := []) (rest := [.ref q_47, .int x_31, .ref q_18]) ⟨hx, hb, hml, hown, hts⟩ (c_X1_init l dC dI q_47 H.size) ⟨va_cnB 0 hts gX5_init_X1_init_n11 rfl rfl rfl (hN.1 (RX5, 11, yX1_init, RX11) (List.mem_of_getElem? (i := 6) rfl)) (hts (.initialized RX1) (List.mem_of_getElem? (i := 6) rfl)) hd_X1_init ⟨Nat.le_of_ble_eq_true rfl, Nat.le_of_ble_eq_true rfl⟩, rfl, (hts (.instanceMethod yX1_init) (List.mem_of_getElem? (i := 30) rfl))⟩ ⟨fun a U g mk q => by obtain ⟨q0, q1, qP, qK, qD, qE0⟩ := q; exact ⟨q0, q1, qP, va_K.moved (u := U) (U := U.calling g mk a) (Vm.Alike.refl U.vm) qK, qD, w_N.same rfl qE0⟩, fun U hU hW => ⟨rfl, by rw [hU], by rw [hU]; exact hPc, va_K.moved hW.alike hKc, hDc.weaken (fun _ _ _ _ => trivial), w_N.warm hW hN⟩⟩ rfl rfl hl.1 rfl (lv_room (Nat.le_of_ble_eq_true rfl)) dX5_init_192 ⟨(by show _ ≤ (50 : Nat); omega), (by show _ ≤ (156 : Nat); omega)⟩) hS (fun q _ h => hFc q h) hFc (fun u t H1 locs1 ht hvm hw hB hz1 hk1 hS1 => ?_)
        obtain ⟨f_48, hP1, hK1, hD1⟩ := hB
        rw [ht] at hP1
        have hK1 := va_K.moved hvm.symm hK1
        have hJ := va_join (wr := [(h0, .inr (5, [.ref aw, .int 3, .ref q_18, .ref q_20, .ref q_22, .ref q_24, .ref q_26, .ref q_28, .ref q_1, .ref q_3, .ref q_5, .ref q_7, .ref q_9, .ref q_11, .ref q_13, .int 0, .int 0, .int 0])), (q_18, .inl (k_19, 9, .inr (.inr (.inr (.inr f_34))))), (q_24, .inl (k_25, 3, .inr (.inr (.inr (.inr (fun _ => none)))))), (q_28, .inl (k_29, 3, .inr (.inr (.inr (.inr (fun _ => none))))))]) (w1 := [(q_47, .inr (1, f_48))]) hP hD [4] [0, 1, 2, 3] rfl rfl (by decide) (by decide) hk1 hFc hP1 hD1
        clear hP hD hPc hDc hKc hFc hz1 hw; try clear hk1
        obtain ⟨hP, hD⟩ := hJ
        replace hK := (hK.sub (tys' := [(k_19, .object RX1), (k_21, .int), (k_23, .int), (k_25, .object RX1), (k_27, .int), (k_29, .object RX1)]) [0, 1, 2, 3, 4, 5] rfl).app (hK1.sub (tys' := []) [] rfl)
        clear hP1 hK1 hD1 hvm ht hS; try clear t
        try clear H
        revert hS1
        intro hS
        generalize H1 = H at hP hS ⊢; try clear H1
        replace hP : va_P (dC, dI) vwCl [(h0, .inr (5, [.ref aw, .int 3, .ref q_18, .ref q_20, .ref q_22, .ref q_24, .ref q_26, .ref q_28, .ref q_1, .ref q_3, .ref q_5, .ref q_7, .ref q_9, .ref q_11, .ref q_13, .int 0, .int 0, .int 0])), (q_18, .inl (k_19, 9, .inr (.inr (.inr (.inr f_34))))), (q_24, .inl (k_25, 3, .inr (.inr (.inr (.inr (fun _ => none)))))), (q_28, .inl (k_29, 3, .inr (.inr (.inr (.inr (fun _ => none)))))), (q_47, .inr (1, f_48))] H := hP
        replace hD : va_D A [(h0, .inr (5, [.ref aw, .int 3, .ref q_18, .ref q_20, .ref q_22, .ref q_24, .ref q_26, .ref q_28, .ref q_1, .ref q_3, .ref q_5, .ref q_7, .ref q_9, .ref q_11, .ref q_13, .int 0, .int 0, .int 0])), (q_18, .inl (k_19, 9, .inr (.inr (.inr (.inr f_34))))), (q_24, .inl (k_25, 3, .inr (.inr (.inr (.inr (fun _ => none)))))), (q_28, .inl (k_29, 3, .inr (.inr (.inr (.inr (fun _ => none)))))), (q_47, .inr (1, f_48))] := hD
        replace hK : va_K (dC, dI) vwCl [(k_19, .object RX1), (k_21, .int), (k_23, .int), (k_25, .object RX1), (k_27, .int), (k_29, .object RX1)] s := hK
        refine va_astq hx hb hK hP hD hS 1 0 4 1 rfl rfl rfl rfl (by rw [ex_31]; exact vp_in_nI (by omega) (by omega)) dX5_init_195 ?_
        clear hP hD hS; try clear H
        intro H locs hP hD hS
        replace hP : va_P (dC, dI) vwCl [(h0, .inr (5, [.ref aw, .int 3, .ref q_18, .ref q_20, .ref q_22, .ref q_24, .ref q_26, .ref q_28, .ref q_1, .ref q_3, .ref q_5, .ref q_7, .ref q_9, .ref q_11, .ref q_13, .int 0, .int 0, .int 0])), (q_18, .inl (k_19, 9, .inr (.inr (.inr (.inr (va_up (f_34) (x_31 : Int32).toNatClampNeg (some q_47))))))), (q_24, .inl (k_25, 3, .inr (.inr (.inr (.inr (fun _ => none)))))), (q_28, .inl (k_29, 3, .inr (.inr (.inr (.inr (fun _ => none)))))), (q_47, .inr (1, f_48))] H := hP
        replace hD : va_D A [(h0, .inr (5, [.ref aw, .int 3, .ref q_18, .ref q_20, .ref q_22, .ref q_24, .ref q_26, .ref q_28, .ref q_1, .ref q_3, .ref q_5, .ref q_7, .ref q_9, .ref q_11, .ref q_13, .int 0, .int 0, .int 0])), (q_18, .inl (k_19, 9, .inr (.inr (.inr (.inr (va_up (f_34) (x_31 : Int32).toNatClampNeg (some q_47))))))), (q_24, .inl (k_25, 3, .inr (.inr (.inr (.inr (fun _ => none)))))), (q_28, .inl (k_29, 3, .inr (.inr (.inr (.inr (fun _ => none)))))), (q_47, .inr (1, f_48))] := hD
        obtain ⟨v_49, ev_49⟩ : ∃ y : Int32, y = x_31 + 1 := ⟨_, rfl⟩
        refine lv_iinc (v := v_49) (lv' := [(3, .int v_49), (0, .ref h0), (1, .ref aw), (2, .int 3)]) hx hb dX5_init_196 hl (k := 0) rfl (by rw [ev_49]; rfl) (by decide) rfl (fun ls hl => ?_)
        refine lv_goto (tgt := 170) hx hb dX5_init_199 (by decide) ?_
        replace hP := hP.sub (ws' := [(h0, .inr (5, [.ref aw, .int 3, .ref q_18, .ref q_20, .ref q_22, .ref q_24, .ref q_26, .ref q_28, .ref q_1, .ref q_3, .ref q_5, .ref q_7, .ref q_9, .ref q_11, .ref q_13, .int 0, .int 0, .int 0])), (q_18, .inl (k_19, 9, .inr (.inr (.inr (.inr (va_up (f_34) (x_31 : Int32).toNatClampNeg (some q_47))))))), (q_24, .inl (k_25, 3, .inr (.inr (.inr (.inr (fun _ => none)))))), (q_28, .inl (k_29, 3, .inr (.inr (.inr (.inr (fun _ => none))))))]) [0, 1, 2, 3] rfl
        replace hD := hD.sub (ws' := [(h0, .inr (5, [.ref aw, .int 3, .ref q_18, .ref q_20, .ref q_22, .ref q_24, .ref q_26, .ref q_28, .ref q_1, .ref q_3, .ref q_5, .ref q_7, .ref q_9, .ref q_11, .ref q_13, .int 0, .int 0, .int 0])), (q_18, .inl (k_19, 9, .inr (.inr (.inr (.inr (va_up (f_34) (x_31 : Int32).toNatClampNeg (some q_47))))))), (q_24, .inl (k_25, 3, .inr (.inr (.inr (.inr (fun _ => none)))))), (q_28, .inl (k_29, 3, .inr (.inr (.inr (.inr (fun _ => none))))))]) [0, 1, 2, 3] (by decide) rfl
        refine W.widen (k := 20 + 2 * (i_30 + 1)) (n := 66 + 6 * (i_30 + 1)) (by omega) (by omega) ?_
        exact ihkey_33 (i_30 + 1) _ _ H locs ls (by omega) (by omega) (by omega) (by rw [ev_49, ex_31]; exact nI_1 i_30) (hP.sub [0, 1, 2, 3] rfl) (hD.sub [0, 1, 2, 3] (by decide) rfl) hS (lv_sub hl [0, 1, 2, 3] rfl)
  refine W.widen (k := 20 + 2 * 0) (n := 66 + 6 * 0) (by omega) (by omega) ?_
  exact key_33 (9 + 1) 0 _ _ H locs ls (by omega) (by omega) (by omega) (by first | rfl | exact nI_0.symm | decide) hP hD hS hl
set_option maxHeartbeats 4000000 in
set_option maxRecDepth 100000 in
/-- Kernel(works, 10) -/
theorem c_X5_init_10 (l : Launch) (dC : Nat → ClassId) (dI : Nat → Nat → Nat) (h0 : Nat) (aw : Nat) (sz : Nat) : Met l yX5_init wsX5_init ({ frames := 2, cells := 260, slots := 912, locals := 32 }) (va_Pc [.ref h0, .ref aw, .int 10] (fun U => U.heap.size = sz ∧ va_P (dC, dI) vwCl [(h0, .inr (5, [.null, .int 0, .null, .null, .null, .null, .null, .null, .null, .null, .null, .null, .null, .null, .null, .int 0, .int 0, .int 0]))] U.heap ∧ va_K (dC, dI) vwCl [] U ∧ va_D (fun _ => True) [(h0, .inr (5, [.null, .int 0, .null, .null, .null, .null, .null, .null, .null, .null, .null, .null, .null, .null, .null, .int 0, .int 0, .int 0]))] ∧ w_N U)) (va_Qv (fun _ : Unit => True) (fun _ t => ∃ (fs : List Value), va_P (dC, dI) vwCl [(h0, .inr (5, fs))] t.heap ∧ va_K (dC, dI) vwCl [] t ∧ va_D (va_A [(h0, .inr (5, [.null, .int 0, .null, .null, .null, .null, .null, .null, .null, .null, .null, .null, .null, .null, .null, .int 0, .int 0, .int 0]))] sz) [(h0, .inr (5, fs))]) (va_A [(h0, .inr (5, [.null, .int 0, .null, .null, .null, .null, .null, .null, .null, .null, .null, .null, .null, .null, .null, .int 0, .int 0, .int 0]))] sz)) 260 912 (va_A [(h0, .inr (5, [.null, .int 0, .null, .null, .null, .null, .null, .null, .null, .null, .null, .null, .null, .null, .null, .int 0, .int 0, .int 0]))] sz) := by
  refine Met.ofW (cc := cX5_init) (maxL := 4) (ret := none) (by decide) rfl ?_
  intro p e s m args below meth c s₁ B hml hv
  obtain ⟨rfl, hsz, hP, hK, hD0, hN⟩ := hv
  have hx := B.exec
  have hb := B.bytes
  have hr := B.returns
  have hts := atoms_spec (ws := wsX5_init) B.pre
  have hown : s.vm.findClass RX5 = some m.cls := findClass_of_methodNamed B.named
  have hlocks := B.notSynchronized
  have hin : meth.name = "<init>" := (name_of_methodNamed B.named B.method).1
  subst hsz
  have hD := hD0.self (sz := s.heap.size)
  generalize hAe : va_A [(h0, .inr (5, [.null, .int 0, .null, .null, .null, .null, .null, .null, .null, .null, .null, .null, .null, .null, .null, .int 0, .int 0, .int 0]))] s.heap.size = A at hD ⊢
  have hA : ∀ q : Nat, s.heap.size ≤ q → A q := fun q h => by rw [← hAe]; exact Or.inr h
  have hS : va_S A s.heap s.heap [] := va_S.rf
  have hP : va_P (dC, dI) vwCl [(h0, .inr (5, [.null, .int 0, .null, .null, .null, .null, .null, .null, .null, .null, .null, .null, .null, .null, .null, .int 0, .int 0, .int 0]))] s.heap := hP
  have hl := lv_entry ([.ref h0, .ref aw, .int 10]) (n := 4) (Nat.le_of_ble_eq_true rfl)
  rw [lg_entry_eq]
  generalize (lg_sl ([.ref h0, .ref aw, .int 10]) ++ List.replicate (4 - (lg_sl ([.ref h0, .ref aw, .int 10])).length) Slot.unset).toArray = ls at hl ⊢
  have hl : lv_has ls 4 [(0, .ref h0), (1, .ref aw), (2, .int 10)] := hl
  refine gen_W (fun Q0 hQ0 => ?_)
  refine lv_aload_n hx hb dX5_init_0 rfl (lv_at hl 0 rfl) ?_
  refine W.objInit hx hb hown (hts (.methodLink RX5 3 objectInit) (List.mem_of_getElem? (i := 1) rfl)) (hts (.instanceMethod objectInit) (List.mem_of_getElem? (i := 2) rfl)) (hts _ (List.mem_of_getElem? (i := 3) rfl)) rfl (by rw [hml]; exact hl.1) rfl dX5_init_1 (Nat.le_of_ble_eq_true rfl) (Nat.le_of_ble_eq_true rfl) ?_
  refine W.eq (g2 := F0 m 4 ls []) rfl ?_
  refine lv_aload_n hx hb dX5_init_4 rfl (lv_at hl 0 rfl) ?_
  refine va_new (ci := 1) (fs := [.int 0, .int 0, .null]) (C := RX1) (T := TX1) (N := 3) hx hb hts (in_X5_init_X1) tyX1 tyX1_ok hown (hts (.classLink RX5 9 RX1) (List.mem_of_getElem? (i := 4) rfl)) (hts (.instantiable RX1 3) (List.mem_of_getElem? (i := 5) rfl)) (hts (.initialized RX1) (List.mem_of_getElem? (i := 6) rfl)) hK hP hD hS hA rfl (fun j hj => by rcases (show j = 0 ∨ j = 1 ∨ j = 2 by omega) with rfl | rfl | rfl <;> rfl) (Nat.le_of_ble_eq_true rfl) (Nat.le_of_ble_eq_true rfl) dX5_init_5 ?_
  clear hP hD hS; try clear H
  intro q_1 H hP hD hS
  replace hP : va_P (dC, dI) vwCl [(h0, .inr (5, [.null, .int 0, .null, .null, .null, .null, .null, .null, .null, .null, .null, .null, .null, .null, .null, .int 0, .int 0, .int 0])), (q_1, .inr (1, [.int 0, .int 0, .null]))] H := hP
  replace hD : va_D A [(h0, .inr (5, [.null, .int 0, .null, .null, .null, .null, .null, .null, .null, .null, .null, .null, .null, .null, .null, .int 0, .int 0, .int 0])), (q_1, .inr (1, [.int 0, .int 0, .null]))] := hD
  refine lv_dup hx hb dX5_init_8 rfl ?_
  have hPc := hP.sub (ws' := [(q_1, .inr (1, [.int 0, .int 0, .null]))]) [1] rfl
  have hDc := hD.sub (ws' := [(q_1, .inr (1, [.int 0, .int 0, .null]))]) [1] (by decide) rfl
  have hKc := hK.sub (tys' := []) [] rfl
  have hFc := va_free (wc := [(q_1, .inr (1, [.int 0, .int 0, .null]))]) hD hS hA [1] rfl
  refine va_callv (va_runIN (As := []) (rest := [.ref q_1, .ref h0]) ⟨hx, hb, hml, hown, hts⟩ (c_X1_init l dC dI q_1 H.size) ⟨va_cnB 0 hts gX5_init_X1_init_n11 rfl rfl rfl (hN.1 (RX5, 11, yX1_init, RX11) (List.mem_of_getElem? (i := 6) rfl)) (hts (.initialized RX1) (List.mem_of_getElem? (i := 6) rfl)) hd_X1_init ⟨Nat.le_of_ble_eq_true rfl, Nat.le_of_ble_eq_true rfl⟩, rfl, (hts (.instanceMethod yX1_init) (List.mem_of_getElem? (i := 30) rfl))⟩ ⟨fun a U g mk q => by obtain ⟨q0, q1, qP, qK, qD, qE0⟩ := q; exact ⟨q0, q1, qP, va_K.moved (u := U) (U := U.calling g mk a) (Vm.Alike.refl U.vm) qK, qD, w_N.same rfl qE0⟩, fun U hU hW => ⟨rfl, by rw [hU], by rw [hU]; exact hPc, va_K.moved hW.alike hKc, hDc.weaken (fun _ _ _ _ => trivial), w_N.warm hW hN⟩⟩ rfl rfl hl.1 rfl (lv_room (Nat.le_of_ble_eq_true rfl)) dX5_init_9 ⟨(Nat.le_of_ble_eq_true rfl), (Nat.le_of_ble_eq_true rfl)⟩) hS (fun q _ h => hFc q h) hFc (fun u t H1 locs1 ht hvm hw hB hz1 hk1 hS1 => ?_)
  obtain ⟨f_2, hP1, hK1, hD1⟩ := hB
  rw [ht] at hP1
  have hK1 := va_K.moved hvm.symm hK1
  have hJ := va_join (wr := [(h0, .inr (5, [.null, .int 0, .null, .null, .null, .null, .null, .null, .null, .null, .null, .null, .null, .null, .null, .int 0, .int 0, .int 0]))]) (w1 := [(q_1, .inr (1, f_2))]) hP hD [1] [0] rfl rfl (by decide) (by decide) hk1 hFc hP1 hD1
  clear hP hD hPc hDc hKc hFc hz1 hw; try clear hk1
  obtain ⟨hP, hD⟩ := hJ
  replace hK := (hK.sub (tys' := []) [] rfl).app (hK1.sub (tys' := []) [] rfl)
  clear hP1 hK1 hD1 hvm ht hS; try clear t
  try clear H
  revert hS1
  intro hS
  generalize H1 = H at hP hS ⊢; try clear H1
  replace hP : va_P (dC, dI) vwCl [(h0, .inr (5, [.null, .int 0, .null, .null, .null, .null, .null, .null, .null, .null, .null, .null, .null, .null, .null, .int 0, .int 0, .int 0])), (q_1, .inr (1, f_2))] H := hP
  replace hD : va_D A [(h0, .inr (5, [.null, .int 0, .null, .null, .null, .null, .null, .null, .null, .null, .null, .null, .null, .null, .null, .int 0, .int 0, .int 0])), (q_1, .inr (1, f_2))] := hD
  replace hK : va_K (dC, dI) vwCl [] s := hK
  refine va_putF (D := (dC, dI)) (ci := 5) (v := .ref q_1) (ty := .object "MotionSigns$Big") (C := RX5) (T := TX5) (N := 18) hx hb hts (in_X5_init_X5) tyX5 tyX5_ok nmX5 hown hK hP hD hS 0 rfl rfl 8 (by decide) (hts (.fieldLink RX5 12 "MotionSigns$Kernel" "nought" "LMotionSigns$Big;") (List.mem_of_getElem? (i := 7) rfl)) (fun _ h9 => h9) rfl hin rfl (tyX5_ok 8 (by decide)) rfl rfl (Nat.le_of_ble_eq_true rfl) dX5_init_12 ?_
  clear hP hD hS; try clear H
  intro H locs hP hD hS
  replace hP : va_P (dC, dI) vwCl [(h0, .inr (5, [.null, .int 0, .null, .null, .null, .null, .null, .null, .ref q_1, .null, .null, .null, .null, .null, .null, .int 0, .int 0, .int 0])), (q_1, .inr (1, f_2))] H := hP
  replace hD : va_D A [(h0, .inr (5, [.null, .int 0, .null, .null, .null, .null, .null, .null, .ref q_1, .null, .null, .null, .null, .null, .null, .int 0, .int 0, .int 0])), (q_1, .inr (1, f_2))] := hD
  replace hP := hP.sub (ws' := [(h0, .inr (5, [.null, .int 0, .null, .null, .null, .null, .null, .null, .ref q_1, .null, .null, .null, .null, .null, .null, .int 0, .int 0, .int 0]))]) [0] rfl
  replace hD := hD.sub (ws' := [(h0, .inr (5, [.null, .int 0, .null, .null, .null, .null, .null, .null, .ref q_1, .null, .null, .null, .null, .null, .null, .int 0, .int 0, .int 0]))]) [0] (by decide) rfl
  refine lv_aload_n hx hb dX5_init_15 rfl (lv_at hl 0 rfl) ?_
  refine va_new (ci := 1) (fs := [.int 0, .int 0, .null]) (C := RX1) (T := TX1) (N := 3) hx hb hts (in_X5_init_X1) tyX1 tyX1_ok hown (hts (.classLink RX5 9 RX1) (List.mem_of_getElem? (i := 4) rfl)) (hts (.instantiable RX1 3) (List.mem_of_getElem? (i := 5) rfl)) (hts (.initialized RX1) (List.mem_of_getElem? (i := 6) rfl)) hK hP hD hS hA rfl (fun j hj => by rcases (show j = 0 ∨ j = 1 ∨ j = 2 by omega) with rfl | rfl | rfl <;> rfl) (Nat.le_of_ble_eq_true rfl) (Nat.le_of_ble_eq_true rfl) dX5_init_16 ?_
  clear hP hD hS; try clear H
  intro q_3 H hP hD hS
  replace hP : va_P (dC, dI) vwCl [(h0, .inr (5, [.null, .int 0, .null, .null, .null, .null, .null, .null, .ref q_1, .null, .null, .null, .null, .null, .null, .int 0, .int 0, .int 0])), (q_3, .inr (1, [.int 0, .int 0, .null]))] H := hP
  replace hD : va_D A [(h0, .inr (5, [.null, .int 0, .null, .null, .null, .null, .null, .null, .ref q_1, .null, .null, .null, .null, .null, .null, .int 0, .int 0, .int 0])), (q_3, .inr (1, [.int 0, .int 0, .null]))] := hD
  refine lv_dup hx hb dX5_init_19 rfl ?_
  have hPc := hP.sub (ws' := [(q_3, .inr (1, [.int 0, .int 0, .null]))]) [1] rfl
  have hDc := hD.sub (ws' := [(q_3, .inr (1, [.int 0, .int 0, .null]))]) [1] (by decide) rfl
  have hKc := hK.sub (tys' := []) [] rfl
  have hFc := va_free (wc := [(q_3, .inr (1, [.int 0, .int 0, .null]))]) hD hS hA [1] rfl
  refine va_callv (va_runIN (As := []) (rest := [.ref q_3, .ref h0]) ⟨hx, hb, hml, hown, hts⟩ (c_X1_init l dC dI q_3 H.size) ⟨va_cnB 0 hts gX5_init_X1_init_n11 rfl rfl rfl (hN.1 (RX5, 11, yX1_init, RX11) (List.mem_of_getElem? (i := 6) rfl)) (hts (.initialized RX1) (List.mem_of_getElem? (i := 6) rfl)) hd_X1_init ⟨Nat.le_of_ble_eq_true rfl, Nat.le_of_ble_eq_true rfl⟩, rfl, (hts (.instanceMethod yX1_init) (List.mem_of_getElem? (i := 30) rfl))⟩ ⟨fun a U g mk q => by obtain ⟨q0, q1, qP, qK, qD, qE0⟩ := q; exact ⟨q0, q1, qP, va_K.moved (u := U) (U := U.calling g mk a) (Vm.Alike.refl U.vm) qK, qD, w_N.same rfl qE0⟩, fun U hU hW => ⟨rfl, by rw [hU], by rw [hU]; exact hPc, va_K.moved hW.alike hKc, hDc.weaken (fun _ _ _ _ => trivial), w_N.warm hW hN⟩⟩ rfl rfl hl.1 rfl (lv_room (Nat.le_of_ble_eq_true rfl)) dX5_init_20 ⟨(Nat.le_of_ble_eq_true rfl), (Nat.le_of_ble_eq_true rfl)⟩) hS (fun q _ h => hFc q h) hFc (fun u t H1 locs1 ht hvm hw hB hz1 hk1 hS1 => ?_)
  obtain ⟨f_4, hP1, hK1, hD1⟩ := hB
  rw [ht] at hP1
  have hK1 := va_K.moved hvm.symm hK1
  have hJ := va_join (wr := [(h0, .inr (5, [.null, .int 0, .null, .null, .null, .null, .null, .null, .ref q_1, .null, .null, .null, .null, .null, .null, .int 0, .int 0, .int 0]))]) (w1 := [(q_3, .inr (1, f_4))]) hP hD [1] [0] rfl rfl (by decide) (by decide) hk1 hFc hP1 hD1
  clear hP hD hPc hDc hKc hFc hz1 hw; try clear hk1
  obtain ⟨hP, hD⟩ := hJ
  replace hK := (hK.sub (tys' := []) [] rfl).app (hK1.sub (tys' := []) [] rfl)
  clear hP1 hK1 hD1 hvm ht hS; try clear t
  try clear H
  revert hS1
  intro hS
  generalize H1 = H at hP hS ⊢; try clear H1
  replace hP : va_P (dC, dI) vwCl [(h0, .inr (5, [.null, .int 0, .null, .null, .null, .null, .null, .null, .ref q_1, .null, .null, .null, .null, .null, .null, .int 0, .int 0, .int 0])), (q_3, .inr (1, f_4))] H := hP
  replace hD : va_D A [(h0, .inr (5, [.null, .int 0, .null, .null, .null, .null, .null, .null, .ref q_1, .null, .null, .null, .null, .null, .null, .int 0, .int 0, .int 0])), (q_3, .inr (1, f_4))] := hD
  replace hK : va_K (dC, dI) vwCl [] s := hK
  refine va_putF (D := (dC, dI)) (ci := 5) (v := .ref q_3) (ty := .object "MotionSigns$Big") (C := RX5) (T := TX5) (N := 18) hx hb hts (in_X5_init_X5) tyX5 tyX5_ok nmX5 hown hK hP hD hS 0 rfl rfl 9 (by decide) (hts (.fieldLink RX5 18 "MotionSigns$Kernel" "mine" "LMotionSigns$Big;") (List.mem_of_getElem? (i := 8) rfl)) (fun _ h9 => h9) rfl hin rfl (tyX5_ok 9 (by decide)) rfl rfl (Nat.le_of_ble_eq_true rfl) dX5_init_23 ?_
  clear hP hD hS; try clear H
  intro H locs hP hD hS
  replace hP : va_P (dC, dI) vwCl [(h0, .inr (5, [.null, .int 0, .null, .null, .null, .null, .null, .null, .ref q_1, .ref q_3, .null, .null, .null, .null, .null, .int 0, .int 0, .int 0])), (q_3, .inr (1, f_4))] H := hP
  replace hD : va_D A [(h0, .inr (5, [.null, .int 0, .null, .null, .null, .null, .null, .null, .ref q_1, .ref q_3, .null, .null, .null, .null, .null, .int 0, .int 0, .int 0])), (q_3, .inr (1, f_4))] := hD
  replace hP := hP.sub (ws' := [(h0, .inr (5, [.null, .int 0, .null, .null, .null, .null, .null, .null, .ref q_1, .ref q_3, .null, .null, .null, .null, .null, .int 0, .int 0, .int 0]))]) [0] rfl
  replace hD := hD.sub (ws' := [(h0, .inr (5, [.null, .int 0, .null, .null, .null, .null, .null, .null, .ref q_1, .ref q_3, .null, .null, .null, .null, .null, .int 0, .int 0, .int 0]))]) [0] (by decide) rfl
  refine lv_aload_n hx hb dX5_init_26 rfl (lv_at hl 0 rfl) ?_
  refine va_new (ci := 1) (fs := [.int 0, .int 0, .null]) (C := RX1) (T := TX1) (N := 3) hx hb hts (in_X5_init_X1) tyX1 tyX1_ok hown (hts (.classLink RX5 9 RX1) (List.mem_of_getElem? (i := 4) rfl)) (hts (.instantiable RX1 3) (List.mem_of_getElem? (i := 5) rfl)) (hts (.initialized RX1) (List.mem_of_getElem? (i := 6) rfl)) hK hP hD hS hA rfl (fun j hj => by rcases (show j = 0 ∨ j = 1 ∨ j = 2 by omega) with rfl | rfl | rfl <;> rfl) (Nat.le_of_ble_eq_true rfl) (Nat.le_of_ble_eq_true rfl) dX5_init_27 ?_
  clear hP hD hS; try clear H
  intro q_5 H hP hD hS
  replace hP : va_P (dC, dI) vwCl [(h0, .inr (5, [.null, .int 0, .null, .null, .null, .null, .null, .null, .ref q_1, .ref q_3, .null, .null, .null, .null, .null, .int 0, .int 0, .int 0])), (q_5, .inr (1, [.int 0, .int 0, .null]))] H := hP
  replace hD : va_D A [(h0, .inr (5, [.null, .int 0, .null, .null, .null, .null, .null, .null, .ref q_1, .ref q_3, .null, .null, .null, .null, .null, .int 0, .int 0, .int 0])), (q_5, .inr (1, [.int 0, .int 0, .null]))] := hD
  refine lv_dup hx hb dX5_init_30 rfl ?_
  have hPc := hP.sub (ws' := [(q_5, .inr (1, [.int 0, .int 0, .null]))]) [1] rfl
  have hDc := hD.sub (ws' := [(q_5, .inr (1, [.int 0, .int 0, .null]))]) [1] (by decide) rfl
  have hKc := hK.sub (tys' := []) [] rfl
  have hFc := va_free (wc := [(q_5, .inr (1, [.int 0, .int 0, .null]))]) hD hS hA [1] rfl
  refine va_callv (va_runIN (As := []) (rest := [.ref q_5, .ref h0]) ⟨hx, hb, hml, hown, hts⟩ (c_X1_init l dC dI q_5 H.size) ⟨va_cnB 0 hts gX5_init_X1_init_n11 rfl rfl rfl (hN.1 (RX5, 11, yX1_init, RX11) (List.mem_of_getElem? (i := 6) rfl)) (hts (.initialized RX1) (List.mem_of_getElem? (i := 6) rfl)) hd_X1_init ⟨Nat.le_of_ble_eq_true rfl, Nat.le_of_ble_eq_true rfl⟩, rfl, (hts (.instanceMethod yX1_init) (List.mem_of_getElem? (i := 30) rfl))⟩ ⟨fun a U g mk q => by obtain ⟨q0, q1, qP, qK, qD, qE0⟩ := q; exact ⟨q0, q1, qP, va_K.moved (u := U) (U := U.calling g mk a) (Vm.Alike.refl U.vm) qK, qD, w_N.same rfl qE0⟩, fun U hU hW => ⟨rfl, by rw [hU], by rw [hU]; exact hPc, va_K.moved hW.alike hKc, hDc.weaken (fun _ _ _ _ => trivial), w_N.warm hW hN⟩⟩ rfl rfl hl.1 rfl (lv_room (Nat.le_of_ble_eq_true rfl)) dX5_init_31 ⟨(Nat.le_of_ble_eq_true rfl), (Nat.le_of_ble_eq_true rfl)⟩) hS (fun q _ h => hFc q h) hFc (fun u t H1 locs1 ht hvm hw hB hz1 hk1 hS1 => ?_)
  obtain ⟨f_6, hP1, hK1, hD1⟩ := hB
  rw [ht] at hP1
  have hK1 := va_K.moved hvm.symm hK1
  have hJ := va_join (wr := [(h0, .inr (5, [.null, .int 0, .null, .null, .null, .null, .null, .null, .ref q_1, .ref q_3, .null, .null, .null, .null, .null, .int 0, .int 0, .int 0]))]) (w1 := [(q_5, .inr (1, f_6))]) hP hD [1] [0] rfl rfl (by decide) (by decide) hk1 hFc hP1 hD1
  clear hP hD hPc hDc hKc hFc hz1 hw; try clear hk1
  obtain ⟨hP, hD⟩ := hJ
  replace hK := (hK.sub (tys' := []) [] rfl).app (hK1.sub (tys' := []) [] rfl)
  clear hP1 hK1 hD1 hvm ht hS; try clear t
  try clear H
  revert hS1
  intro hS
  generalize H1 = H at hP hS ⊢; try clear H1
  replace hP : va_P (dC, dI) vwCl [(h0, .inr (5, [.null, .int 0, .null, .null, .null, .null, .null, .null, .ref q_1, .ref q_3, .null, .null, .null, .null, .null, .int 0, .int 0, .int 0])), (q_5, .inr (1, f_6))] H := hP
  replace hD : va_D A [(h0, .inr (5, [.null, .int 0, .null, .null, .null, .null, .null, .null, .ref q_1, .ref q_3, .null, .null, .null, .null, .null, .int 0, .int 0, .int 0])), (q_5, .inr (1, f_6))] := hD
  replace hK : va_K (dC, dI) vwCl [] s := hK
  refine va_putF (D := (dC, dI)) (ci := 5) (v := .ref q_5) (ty := .object "MotionSigns$Big") (C := RX5) (T := TX5) (N := 18) hx hb hts (in_X5_init_X5) tyX5 tyX5_ok nmX5 hown hK hP hD hS 0 rfl rfl 10 (by decide) (hts (.fieldLink RX5 21 "MotionSigns$Kernel" "theirs" "LMotionSigns$Big;") (List.mem_of_getElem? (i := 9) rfl)) (fun _ h9 => h9) rfl hin rfl (tyX5_ok 10 (by decide)) rfl rfl (Nat.le_of_ble_eq_true rfl) dX5_init_34 ?_
  clear hP hD hS; try clear H
  intro H locs hP hD hS
  replace hP : va_P (dC, dI) vwCl [(h0, .inr (5, [.null, .int 0, .null, .null, .null, .null, .null, .null, .ref q_1, .ref q_3, .ref q_5, .null, .null, .null, .null, .int 0, .int 0, .int 0])), (q_5, .inr (1, f_6))] H := hP
  replace hD : va_D A [(h0, .inr (5, [.null, .int 0, .null, .null, .null, .null, .null, .null, .ref q_1, .ref q_3, .ref q_5, .null, .null, .null, .null, .int 0, .int 0, .int 0])), (q_5, .inr (1, f_6))] := hD
  replace hP := hP.sub (ws' := [(h0, .inr (5, [.null, .int 0, .null, .null, .null, .null, .null, .null, .ref q_1, .ref q_3, .ref q_5, .null, .null, .null, .null, .int 0, .int 0, .int 0]))]) [0] rfl
  replace hD := hD.sub (ws' := [(h0, .inr (5, [.null, .int 0, .null, .null, .null, .null, .null, .null, .ref q_1, .ref q_3, .ref q_5, .null, .null, .null, .null, .int 0, .int 0, .int 0]))]) [0] (by decide) rfl
  refine lv_aload_n hx hb dX5_init_37 rfl (lv_at hl 0 rfl) ?_
  refine va_new (ci := 1) (fs := [.int 0, .int 0, .null]) (C := RX1) (T := TX1) (N := 3) hx hb hts (in_X5_init_X1) tyX1 tyX1_ok hown (hts (.classLink RX5 9 RX1) (List.mem_of_getElem? (i := 4) rfl)) (hts (.instantiable RX1 3) (List.mem_of_getElem? (i := 5) rfl)) (hts (.initialized RX1) (List.mem_of_getElem? (i := 6) rfl)) hK hP hD hS hA rfl (fun j hj => by rcases (show j = 0 ∨ j = 1 ∨ j = 2 by omega) with rfl | rfl | rfl <;> rfl) (Nat.le_of_ble_eq_true rfl) (Nat.le_of_ble_eq_true rfl) dX5_init_38 ?_
  clear hP hD hS; try clear H
  intro q_7 H hP hD hS
  replace hP : va_P (dC, dI) vwCl [(h0, .inr (5, [.null, .int 0, .null, .null, .null, .null, .null, .null, .ref q_1, .ref q_3, .ref q_5, .null, .null, .null, .null, .int 0, .int 0, .int 0])), (q_7, .inr (1, [.int 0, .int 0, .null]))] H := hP
  replace hD : va_D A [(h0, .inr (5, [.null, .int 0, .null, .null, .null, .null, .null, .null, .ref q_1, .ref q_3, .ref q_5, .null, .null, .null, .null, .int 0, .int 0, .int 0])), (q_7, .inr (1, [.int 0, .int 0, .null]))] := hD
  refine lv_dup hx hb dX5_init_41 rfl ?_
  have hPc := hP.sub (ws' := [(q_7, .inr (1, [.int 0, .int 0, .null]))]) [1] rfl
  have hDc := hD.sub (ws' := [(q_7, .inr (1, [.int 0, .int 0, .null]))]) [1] (by decide) rfl
  have hKc := hK.sub (tys' := []) [] rfl
  have hFc := va_free (wc := [(q_7, .inr (1, [.int 0, .int 0, .null]))]) hD hS hA [1] rfl
  refine va_callv (va_runIN (As := []) (rest := [.ref q_7, .ref h0]) ⟨hx, hb, hml, hown, hts⟩ (c_X1_init l dC dI q_7 H.size) ⟨va_cnB 0 hts gX5_init_X1_init_n11 rfl rfl rfl (hN.1 (RX5, 11, yX1_init, RX11) (List.mem_of_getElem? (i := 6) rfl)) (hts (.initialized RX1) (List.mem_of_getElem? (i := 6) rfl)) hd_X1_init ⟨Nat.le_of_ble_eq_true rfl, Nat.le_of_ble_eq_true rfl⟩, rfl, (hts (.instanceMethod yX1_init) (List.mem_of_getElem? (i := 30) rfl))⟩ ⟨fun a U g mk q => by obtain ⟨q0, q1, qP, qK, qD, qE0⟩ := q; exact ⟨q0, q1, qP, va_K.moved (u := U) (U := U.calling g mk a) (Vm.Alike.refl U.vm) qK, qD, w_N.same rfl qE0⟩, fun U hU hW => ⟨rfl, by rw [hU], by rw [hU]; exact hPc, va_K.moved hW.alike hKc, hDc.weaken (fun _ _ _ _ => trivial), w_N.warm hW hN⟩⟩ rfl rfl hl.1 rfl (lv_room (Nat.le_of_ble_eq_true rfl)) dX5_init_42 ⟨(Nat.le_of_ble_eq_true rfl), (Nat.le_of_ble_eq_true rfl)⟩) hS (fun q _ h => hFc q h) hFc (fun u t H1 locs1 ht hvm hw hB hz1 hk1 hS1 => ?_)
  obtain ⟨f_8, hP1, hK1, hD1⟩ := hB
  rw [ht] at hP1
  have hK1 := va_K.moved hvm.symm hK1
  have hJ := va_join (wr := [(h0, .inr (5, [.null, .int 0, .null, .null, .null, .null, .null, .null, .ref q_1, .ref q_3, .ref q_5, .null, .null, .null, .null, .int 0, .int 0, .int 0]))]) (w1 := [(q_7, .inr (1, f_8))]) hP hD [1] [0] rfl rfl (by decide) (by decide) hk1 hFc hP1 hD1
  clear hP hD hPc hDc hKc hFc hz1 hw; try clear hk1
  obtain ⟨hP, hD⟩ := hJ
  replace hK := (hK.sub (tys' := []) [] rfl).app (hK1.sub (tys' := []) [] rfl)
  clear hP1 hK1 hD1 hvm ht hS; try clear t
  try clear H
  revert hS1
  intro hS
  generalize H1 = H at hP hS ⊢; try clear H1
  replace hP : va_P (dC, dI) vwCl [(h0, .inr (5, [.null, .int 0, .null, .null, .null, .null, .null, .null, .ref q_1, .ref q_3, .ref q_5, .null, .null, .null, .null, .int 0, .int 0, .int 0])), (q_7, .inr (1, f_8))] H := hP
  replace hD : va_D A [(h0, .inr (5, [.null, .int 0, .null, .null, .null, .null, .null, .null, .ref q_1, .ref q_3, .ref q_5, .null, .null, .null, .null, .int 0, .int 0, .int 0])), (q_7, .inr (1, f_8))] := hD
  replace hK : va_K (dC, dI) vwCl [] s := hK
  refine va_putF (D := (dC, dI)) (ci := 5) (v := .ref q_7) (ty := .object "MotionSigns$Big") (C := RX5) (T := TX5) (N := 18) hx hb hts (in_X5_init_X5) tyX5 tyX5_ok nmX5 hown hK hP hD hS 0 rfl rfl 11 (by decide) (hts (.fieldLink RX5 24 "MotionSigns$Kernel" "common" "LMotionSigns$Big;") (List.mem_of_getElem? (i := 10) rfl)) (fun _ h9 => h9) rfl hin rfl (tyX5_ok 11 (by decide)) rfl rfl (Nat.le_of_ble_eq_true rfl) dX5_init_45 ?_
  clear hP hD hS; try clear H
  intro H locs hP hD hS
  replace hP : va_P (dC, dI) vwCl [(h0, .inr (5, [.null, .int 0, .null, .null, .null, .null, .null, .null, .ref q_1, .ref q_3, .ref q_5, .ref q_7, .null, .null, .null, .int 0, .int 0, .int 0])), (q_7, .inr (1, f_8))] H := hP
  replace hD : va_D A [(h0, .inr (5, [.null, .int 0, .null, .null, .null, .null, .null, .null, .ref q_1, .ref q_3, .ref q_5, .ref q_7, .null, .null, .null, .int 0, .int 0, .int 0])), (q_7, .inr (1, f_8))] := hD
  replace hP := hP.sub (ws' := [(h0, .inr (5, [.null, .int 0, .null, .null, .null, .null, .null, .null, .ref q_1, .ref q_3, .ref q_5, .ref q_7, .null, .null, .null, .int 0, .int 0, .int 0]))]) [0] rfl
  replace hD := hD.sub (ws' := [(h0, .inr (5, [.null, .int 0, .null, .null, .null, .null, .null, .null, .ref q_1, .ref q_3, .ref q_5, .ref q_7, .null, .null, .null, .int 0, .int 0, .int 0]))]) [0] (by decide) rfl
  refine lv_aload_n hx hb dX5_init_48 rfl (lv_at hl 0 rfl) ?_
  refine va_new (ci := 1) (fs := [.int 0, .int 0, .null]) (C := RX1) (T := TX1) (N := 3) hx hb hts (in_X5_init_X1) tyX1 tyX1_ok hown (hts (.classLink RX5 9 RX1) (List.mem_of_getElem? (i := 4) rfl)) (hts (.instantiable RX1 3) (List.mem_of_getElem? (i := 5) rfl)) (hts (.initialized RX1) (List.mem_of_getElem? (i := 6) rfl)) hK hP hD hS hA rfl (fun j hj => by rcases (show j = 0 ∨ j = 1 ∨ j = 2 by omega) with rfl | rfl | rfl <;> rfl) (Nat.le_of_ble_eq_true rfl) (Nat.le_of_ble_eq_true rfl) dX5_init_49 ?_
  clear hP hD hS; try clear H
  intro q_9 H hP hD hS
  replace hP : va_P (dC, dI) vwCl [(h0, .inr (5, [.null, .int 0, .null, .null, .null, .null, .null, .null, .ref q_1, .ref q_3, .ref q_5, .ref q_7, .null, .null, .null, .int 0, .int 0, .int 0])), (q_9, .inr (1, [.int 0, .int 0, .null]))] H := hP
  replace hD : va_D A [(h0, .inr (5, [.null, .int 0, .null, .null, .null, .null, .null, .null, .ref q_1, .ref q_3, .ref q_5, .ref q_7, .null, .null, .null, .int 0, .int 0, .int 0])), (q_9, .inr (1, [.int 0, .int 0, .null]))] := hD
  refine lv_dup hx hb dX5_init_52 rfl ?_
  have hPc := hP.sub (ws' := [(q_9, .inr (1, [.int 0, .int 0, .null]))]) [1] rfl
  have hDc := hD.sub (ws' := [(q_9, .inr (1, [.int 0, .int 0, .null]))]) [1] (by decide) rfl
  have hKc := hK.sub (tys' := []) [] rfl
  have hFc := va_free (wc := [(q_9, .inr (1, [.int 0, .int 0, .null]))]) hD hS hA [1] rfl
  refine va_callv (va_runIN (As := []) (rest := [.ref q_9, .ref h0]) ⟨hx, hb, hml, hown, hts⟩ (c_X1_init l dC dI q_9 H.size) ⟨va_cnB 0 hts gX5_init_X1_init_n11 rfl rfl rfl (hN.1 (RX5, 11, yX1_init, RX11) (List.mem_of_getElem? (i := 6) rfl)) (hts (.initialized RX1) (List.mem_of_getElem? (i := 6) rfl)) hd_X1_init ⟨Nat.le_of_ble_eq_true rfl, Nat.le_of_ble_eq_true rfl⟩, rfl, (hts (.instanceMethod yX1_init) (List.mem_of_getElem? (i := 30) rfl))⟩ ⟨fun a U g mk q => by obtain ⟨q0, q1, qP, qK, qD, qE0⟩ := q; exact ⟨q0, q1, qP, va_K.moved (u := U) (U := U.calling g mk a) (Vm.Alike.refl U.vm) qK, qD, w_N.same rfl qE0⟩, fun U hU hW => ⟨rfl, by rw [hU], by rw [hU]; exact hPc, va_K.moved hW.alike hKc, hDc.weaken (fun _ _ _ _ => trivial), w_N.warm hW hN⟩⟩ rfl rfl hl.1 rfl (lv_room (Nat.le_of_ble_eq_true rfl)) dX5_init_53 ⟨(Nat.le_of_ble_eq_true rfl), (Nat.le_of_ble_eq_true rfl)⟩) hS (fun q _ h => hFc q h) hFc (fun u t H1 locs1 ht hvm hw hB hz1 hk1 hS1 => ?_)
  obtain ⟨f_10, hP1, hK1, hD1⟩ := hB
  rw [ht] at hP1
  have hK1 := va_K.moved hvm.symm hK1
  have hJ := va_join (wr := [(h0, .inr (5, [.null, .int 0, .null, .null, .null, .null, .null, .null, .ref q_1, .ref q_3, .ref q_5, .ref q_7, .null, .null, .null, .int 0, .int 0, .int 0]))]) (w1 := [(q_9, .inr (1, f_10))]) hP hD [1] [0] rfl rfl (by decide) (by decide) hk1 hFc hP1 hD1
  clear hP hD hPc hDc hKc hFc hz1 hw; try clear hk1
  obtain ⟨hP, hD⟩ := hJ
  replace hK := (hK.sub (tys' := []) [] rfl).app (hK1.sub (tys' := []) [] rfl)
  clear hP1 hK1 hD1 hvm ht hS; try clear t
  try clear H
  revert hS1
  intro hS
  generalize H1 = H at hP hS ⊢; try clear H1
  replace hP : va_P (dC, dI) vwCl [(h0, .inr (5, [.null, .int 0, .null, .null, .null, .null, .null, .null, .ref q_1, .ref q_3, .ref q_5, .ref q_7, .null, .null, .null, .int 0, .int 0, .int 0])), (q_9, .inr (1, f_10))] H := hP
  replace hD : va_D A [(h0, .inr (5, [.null, .int 0, .null, .null, .null, .null, .null, .null, .ref q_1, .ref q_3, .ref q_5, .ref q_7, .null, .null, .null, .int 0, .int 0, .int 0])), (q_9, .inr (1, f_10))] := hD
  replace hK : va_K (dC, dI) vwCl [] s := hK
  refine va_putF (D := (dC, dI)) (ci := 5) (v := .ref q_9) (ty := .object "MotionSigns$Big") (C := RX5) (T := TX5) (N := 18) hx hb hts (in_X5_init_X5) tyX5 tyX5_ok nmX5 hown hK hP hD hS 0 rfl rfl 12 (by decide) (hts (.fieldLink RX5 27 "MotionSigns$Kernel" "rest" "LMotionSigns$Big;") (List.mem_of_getElem? (i := 11) rfl)) (fun _ h9 => h9) rfl hin rfl (tyX5_ok 12 (by decide)) rfl rfl (Nat.le_of_ble_eq_true rfl) dX5_init_56 ?_
  clear hP hD hS; try clear H
  intro H locs hP hD hS
  replace hP : va_P (dC, dI) vwCl [(h0, .inr (5, [.null, .int 0, .null, .null, .null, .null, .null, .null, .ref q_1, .ref q_3, .ref q_5, .ref q_7, .ref q_9, .null, .null, .int 0, .int 0, .int 0])), (q_9, .inr (1, f_10))] H := hP
  replace hD : va_D A [(h0, .inr (5, [.null, .int 0, .null, .null, .null, .null, .null, .null, .ref q_1, .ref q_3, .ref q_5, .ref q_7, .ref q_9, .null, .null, .int 0, .int 0, .int 0])), (q_9, .inr (1, f_10))] := hD
  replace hP := hP.sub (ws' := [(h0, .inr (5, [.null, .int 0, .null, .null, .null, .null, .null, .null, .ref q_1, .ref q_3, .ref q_5, .ref q_7, .ref q_9, .null, .null, .int 0, .int 0, .int 0]))]) [0] rfl
  replace hD := hD.sub (ws' := [(h0, .inr (5, [.null, .int 0, .null, .null, .null, .null, .null, .null, .ref q_1, .ref q_3, .ref q_5, .ref q_7, .ref q_9, .null, .null, .int 0, .int 0, .int 0]))]) [0] (by decide) rfl
  refine lv_aload_n hx hb dX5_init_59 rfl (lv_at hl 0 rfl) ?_
  refine va_new (ci := 1) (fs := [.int 0, .int 0, .null]) (C := RX1) (T := TX1) (N := 3) hx hb hts (in_X5_init_X1) tyX1 tyX1_ok hown (hts (.classLink RX5 9 RX1) (List.mem_of_getElem? (i := 4) rfl)) (hts (.instantiable RX1 3) (List.mem_of_getElem? (i := 5) rfl)) (hts (.initialized RX1) (List.mem_of_getElem? (i := 6) rfl)) hK hP hD hS hA rfl (fun j hj => by rcases (show j = 0 ∨ j = 1 ∨ j = 2 by omega) with rfl | rfl | rfl <;> rfl) (Nat.le_of_ble_eq_true rfl) (Nat.le_of_ble_eq_true rfl) dX5_init_60 ?_
  clear hP hD hS; try clear H
  intro q_11 H hP hD hS
  replace hP : va_P (dC, dI) vwCl [(h0, .inr (5, [.null, .int 0, .null, .null, .null, .null, .null, .null, .ref q_1, .ref q_3, .ref q_5, .ref q_7, .ref q_9, .null, .null, .int 0, .int 0, .int 0])), (q_11, .inr (1, [.int 0, .int 0, .null]))] H := hP
  replace hD : va_D A [(h0, .inr (5, [.null, .int 0, .null, .null, .null, .null, .null, .null, .ref q_1, .ref q_3, .ref q_5, .ref q_7, .ref q_9, .null, .null, .int 0, .int 0, .int 0])), (q_11, .inr (1, [.int 0, .int 0, .null]))] := hD
  refine lv_dup hx hb dX5_init_63 rfl ?_
  have hPc := hP.sub (ws' := [(q_11, .inr (1, [.int 0, .int 0, .null]))]) [1] rfl
  have hDc := hD.sub (ws' := [(q_11, .inr (1, [.int 0, .int 0, .null]))]) [1] (by decide) rfl
  have hKc := hK.sub (tys' := []) [] rfl
  have hFc := va_free (wc := [(q_11, .inr (1, [.int 0, .int 0, .null]))]) hD hS hA [1] rfl
  refine va_callv (va_runIN (As := []) (rest := [.ref q_11, .ref h0]) ⟨hx, hb, hml, hown, hts⟩ (c_X1_init l dC dI q_11 H.size) ⟨va_cnB 0 hts gX5_init_X1_init_n11 rfl rfl rfl (hN.1 (RX5, 11, yX1_init, RX11) (List.mem_of_getElem? (i := 6) rfl)) (hts (.initialized RX1) (List.mem_of_getElem? (i := 6) rfl)) hd_X1_init ⟨Nat.le_of_ble_eq_true rfl, Nat.le_of_ble_eq_true rfl⟩, rfl, (hts (.instanceMethod yX1_init) (List.mem_of_getElem? (i := 30) rfl))⟩ ⟨fun a U g mk q => by obtain ⟨q0, q1, qP, qK, qD, qE0⟩ := q; exact ⟨q0, q1, qP, va_K.moved (u := U) (U := U.calling g mk a) (Vm.Alike.refl U.vm) qK, qD, w_N.same rfl qE0⟩, fun U hU hW => ⟨rfl, by rw [hU], by rw [hU]; exact hPc, va_K.moved hW.alike hKc, hDc.weaken (fun _ _ _ _ => trivial), w_N.warm hW hN⟩⟩ rfl rfl hl.1 rfl (lv_room (Nat.le_of_ble_eq_true rfl)) dX5_init_64 ⟨(Nat.le_of_ble_eq_true rfl), (Nat.le_of_ble_eq_true rfl)⟩) hS (fun q _ h => hFc q h) hFc (fun u t H1 locs1 ht hvm hw hB hz1 hk1 hS1 => ?_)
  obtain ⟨f_12, hP1, hK1, hD1⟩ := hB
  rw [ht] at hP1
  have hK1 := va_K.moved hvm.symm hK1
  have hJ := va_join (wr := [(h0, .inr (5, [.null, .int 0, .null, .null, .null, .null, .null, .null, .ref q_1, .ref q_3, .ref q_5, .ref q_7, .ref q_9, .null, .null, .int 0, .int 0, .int 0]))]) (w1 := [(q_11, .inr (1, f_12))]) hP hD [1] [0] rfl rfl (by decide) (by decide) hk1 hFc hP1 hD1
  clear hP hD hPc hDc hKc hFc hz1 hw; try clear hk1
  obtain ⟨hP, hD⟩ := hJ
  replace hK := (hK.sub (tys' := []) [] rfl).app (hK1.sub (tys' := []) [] rfl)
  clear hP1 hK1 hD1 hvm ht hS; try clear t
  try clear H
  revert hS1
  intro hS
  generalize H1 = H at hP hS ⊢; try clear H1
  replace hP : va_P (dC, dI) vwCl [(h0, .inr (5, [.null, .int 0, .null, .null, .null, .null, .null, .null, .ref q_1, .ref q_3, .ref q_5, .ref q_7, .ref q_9, .null, .null, .int 0, .int 0, .int 0])), (q_11, .inr (1, f_12))] H := hP
  replace hD : va_D A [(h0, .inr (5, [.null, .int 0, .null, .null, .null, .null, .null, .null, .ref q_1, .ref q_3, .ref q_5, .ref q_7, .ref q_9, .null, .null, .int 0, .int 0, .int 0])), (q_11, .inr (1, f_12))] := hD
  replace hK : va_K (dC, dI) vwCl [] s := hK
  refine va_putF (D := (dC, dI)) (ci := 5) (v := .ref q_11) (ty := .object "MotionSigns$Big") (C := RX5) (T := TX5) (N := 18) hx hb hts (in_X5_init_X5) tyX5 tyX5_ok nmX5 hown hK hP hD hS 0 rfl rfl 13 (by decide) (hts (.fieldLink RX5 30 "MotionSigns$Kernel" "one" "LMotionSigns$Big;") (List.mem_of_getElem? (i := 12) rfl)) (fun _ h9 => h9) rfl hin rfl (tyX5_ok 13 (by decide)) rfl rfl (Nat.le_of_ble_eq_true rfl) dX5_init_67 ?_
  clear hP hD hS; try clear H
  intro H locs hP hD hS
  replace hP : va_P (dC, dI) vwCl [(h0, .inr (5, [.null, .int 0, .null, .null, .null, .null, .null, .null, .ref q_1, .ref q_3, .ref q_5, .ref q_7, .ref q_9, .ref q_11, .null, .int 0, .int 0, .int 0])), (q_11, .inr (1, f_12))] H := hP
  replace hD : va_D A [(h0, .inr (5, [.null, .int 0, .null, .null, .null, .null, .null, .null, .ref q_1, .ref q_3, .ref q_5, .ref q_7, .ref q_9, .ref q_11, .null, .int 0, .int 0, .int 0])), (q_11, .inr (1, f_12))] := hD
  replace hP := hP.sub (ws' := [(h0, .inr (5, [.null, .int 0, .null, .null, .null, .null, .null, .null, .ref q_1, .ref q_3, .ref q_5, .ref q_7, .ref q_9, .ref q_11, .null, .int 0, .int 0, .int 0]))]) [0] rfl
  replace hD := hD.sub (ws' := [(h0, .inr (5, [.null, .int 0, .null, .null, .null, .null, .null, .null, .ref q_1, .ref q_3, .ref q_5, .ref q_7, .ref q_9, .ref q_11, .null, .int 0, .int 0, .int 0]))]) [0] (by decide) rfl
  refine lv_aload_n hx hb dX5_init_70 rfl (lv_at hl 0 rfl) ?_
  refine va_new (ci := 1) (fs := [.int 0, .int 0, .null]) (C := RX1) (T := TX1) (N := 3) hx hb hts (in_X5_init_X1) tyX1 tyX1_ok hown (hts (.classLink RX5 9 RX1) (List.mem_of_getElem? (i := 4) rfl)) (hts (.instantiable RX1 3) (List.mem_of_getElem? (i := 5) rfl)) (hts (.initialized RX1) (List.mem_of_getElem? (i := 6) rfl)) hK hP hD hS hA rfl (fun j hj => by rcases (show j = 0 ∨ j = 1 ∨ j = 2 by omega) with rfl | rfl | rfl <;> rfl) (Nat.le_of_ble_eq_true rfl) (Nat.le_of_ble_eq_true rfl) dX5_init_71 ?_
  clear hP hD hS; try clear H
  intro q_13 H hP hD hS
  replace hP : va_P (dC, dI) vwCl [(h0, .inr (5, [.null, .int 0, .null, .null, .null, .null, .null, .null, .ref q_1, .ref q_3, .ref q_5, .ref q_7, .ref q_9, .ref q_11, .null, .int 0, .int 0, .int 0])), (q_13, .inr (1, [.int 0, .int 0, .null]))] H := hP
  replace hD : va_D A [(h0, .inr (5, [.null, .int 0, .null, .null, .null, .null, .null, .null, .ref q_1, .ref q_3, .ref q_5, .ref q_7, .ref q_9, .ref q_11, .null, .int 0, .int 0, .int 0])), (q_13, .inr (1, [.int 0, .int 0, .null]))] := hD
  refine lv_dup hx hb dX5_init_74 rfl ?_
  have hPc := hP.sub (ws' := [(q_13, .inr (1, [.int 0, .int 0, .null]))]) [1] rfl
  have hDc := hD.sub (ws' := [(q_13, .inr (1, [.int 0, .int 0, .null]))]) [1] (by decide) rfl
  have hKc := hK.sub (tys' := []) [] rfl
  have hFc := va_free (wc := [(q_13, .inr (1, [.int 0, .int 0, .null]))]) hD hS hA [1] rfl
  refine va_callv (va_runIN (As := []) (rest := [.ref q_13, .ref h0]) ⟨hx, hb, hml, hown, hts⟩ (c_X1_init l dC dI q_13 H.size) ⟨va_cnB 0 hts gX5_init_X1_init_n11 rfl rfl rfl (hN.1 (RX5, 11, yX1_init, RX11) (List.mem_of_getElem? (i := 6) rfl)) (hts (.initialized RX1) (List.mem_of_getElem? (i := 6) rfl)) hd_X1_init ⟨Nat.le_of_ble_eq_true rfl, Nat.le_of_ble_eq_true rfl⟩, rfl, (hts (.instanceMethod yX1_init) (List.mem_of_getElem? (i := 30) rfl))⟩ ⟨fun a U g mk q => by obtain ⟨q0, q1, qP, qK, qD, qE0⟩ := q; exact ⟨q0, q1, qP, va_K.moved (u := U) (U := U.calling g mk a) (Vm.Alike.refl U.vm) qK, qD, w_N.same rfl qE0⟩, fun U hU hW => ⟨rfl, by rw [hU], by rw [hU]; exact hPc, va_K.moved hW.alike hKc, hDc.weaken (fun _ _ _ _ => trivial), w_N.warm hW hN⟩⟩ rfl rfl hl.1 rfl (lv_room (Nat.le_of_ble_eq_true rfl)) dX5_init_75 ⟨(Nat.le_of_ble_eq_true rfl), (Nat.le_of_ble_eq_true rfl)⟩) hS (fun q _ h => hFc q h) hFc (fun u t H1 locs1 ht hvm hw hB hz1 hk1 hS1 => ?_)
  obtain ⟨f_14, hP1, hK1, hD1⟩ := hB
  rw [ht] at hP1
  have hK1 := va_K.moved hvm.symm hK1
  have hJ := va_join (wr := [(h0, .inr (5, [.null, .int 0, .null, .null, .null, .null, .null, .null, .ref q_1, .ref q_3, .ref q_5, .ref q_7, .ref q_9, .ref q_11, .null, .int 0, .int 0, .int 0]))]) (w1 := [(q_13, .inr (1, f_14))]) hP hD [1] [0] rfl rfl (by decide) (by decide) hk1 hFc hP1 hD1
  clear hP hD hPc hDc hKc hFc hz1 hw; try clear hk1
  obtain ⟨hP, hD⟩ := hJ
  replace hK := (hK.sub (tys' := []) [] rfl).app (hK1.sub (tys' := []) [] rfl)
  clear hP1 hK1 hD1 hvm ht hS; try clear t
  try clear H
  revert hS1
  intro hS
  generalize H1 = H at hP hS ⊢; try clear H1
  replace hP : va_P (dC, dI) vwCl [(h0, .inr (5, [.null, .int 0, .null, .null, .null, .null, .null, .null, .ref q_1, .ref q_3, .ref q_5, .ref q_7, .ref q_9, .ref q_11, .null, .int 0, .int 0, .int 0])), (q_13, .inr (1, f_14))] H := hP
  replace hD : va_D A [(h0, .inr (5, [.null, .int 0, .null, .null, .null, .null, .null, .null, .ref q_1, .ref q_3, .ref q_5, .ref q_7, .ref q_9, .ref q_11, .null, .int 0, .int 0, .int 0])), (q_13, .inr (1, f_14))] := hD
  replace hK : va_K (dC, dI) vwCl [] s := hK
  refine va_putF (D := (dC, dI)) (ci := 5) (v := .ref q_13) (ty := .object "MotionSigns$Big") (C := RX5) (T := TX5) (N := 18) hx hb hts (in_X5_init_X5) tyX5 tyX5_ok nmX5 hown hK hP hD hS 0 rfl rfl 14 (by decide) (hts (.fieldLink RX5 33 "MotionSigns$Kernel" "two" "LMotionSigns$Big;") (List.mem_of_getElem? (i := 13) rfl)) (fun _ h9 => h9) rfl hin rfl (tyX5_ok 14 (by decide)) rfl rfl (Nat.le_of_ble_eq_true rfl) dX5_init_78 ?_
  clear hP hD hS; try clear H
  intro H locs hP hD hS
  replace hP : va_P (dC, dI) vwCl [(h0, .inr (5, [.null, .int 0, .null, .null, .null, .null, .null, .null, .ref q_1, .ref q_3, .ref q_5, .ref q_7, .ref q_9, .ref q_11, .ref q_13, .int 0, .int 0, .int 0])), (q_13, .inr (1, f_14))] H := hP
  replace hD : va_D A [(h0, .inr (5, [.null, .int 0, .null, .null, .null, .null, .null, .null, .ref q_1, .ref q_3, .ref q_5, .ref q_7, .ref q_9, .ref q_11, .ref q_13, .int 0, .int 0, .int 0])), (q_13, .inr (1, f_14))] := hD
  replace hP := hP.sub (ws' := [(h0, .inr (5, [.null, .int 0, .null, .null, .null, .null, .null, .null, .ref q_1, .ref q_3, .ref q_5, .ref q_7, .ref q_9, .ref q_11, .ref q_13, .int 0, .int 0, .int 0]))]) [0] rfl
  replace hD := hD.sub (ws' := [(h0, .inr (5, [.null, .int 0, .null, .null, .null, .null, .null, .null, .ref q_1, .ref q_3, .ref q_5, .ref q_7, .ref q_9, .ref q_11, .ref q_13, .int 0, .int 0, .int 0]))]) [0] (by decide) rfl
  refine lv_aload_n hx hb dX5_init_81 rfl (lv_at hl 0 rfl) ?_
  refine lv_aload_n hx hb dX5_init_82 rfl (lv_at hl 1 rfl) ?_
  refine va_putF (D := (dC, dI)) (ci := 5) (v := .ref aw) (ty := .object "MotionSigns$Works") (C := RX5) (T := TX5) (N := 18) hx hb hts (in_X5_init_X5) tyX5 tyX5_ok nmX5 hown hK hP hD hS 0 rfl rfl 0 (by decide) (hts (.fieldLink RX5 36 "MotionSigns$Kernel" "works" "LMotionSigns$Works;") (List.mem_of_getElem? (i := 14) rfl)) (fun _ h9 => h9) rfl hin rfl (tyX5_ok 0 (by decide)) rfl rfl (Nat.le_of_ble_eq_true rfl) dX5_init_83 ?_
  clear hP hD hS; try clear H
  intro H locs hP hD hS
  replace hP : va_P (dC, dI) vwCl [(h0, .inr (5, [.ref aw, .int 0, .null, .null, .null, .null, .null, .null, .ref q_1, .ref q_3, .ref q_5, .ref q_7, .ref q_9, .ref q_11, .ref q_13, .int 0, .int 0, .int 0]))] H := hP
  replace hD : va_D A [(h0, .inr (5, [.ref aw, .int 0, .null, .null, .null, .null, .null, .null, .ref q_1, .ref q_3, .ref q_5, .ref q_7, .ref q_9, .ref q_11, .ref q_13, .int 0, .int 0, .int 0]))] := hD
  refine lv_aload_n hx hb dX5_init_86 rfl (lv_at hl 0 rfl) ?_
  refine lv_iconst (v := 1) hx hb dX5_init_87 (by decide) ?_
  refine lv_iload_n hx hb dX5_init_88 rfl (lv_at hl 2 rfl) ?_
  refine lv_bipush (v := 30) hx hb dX5_init_89 (by decide) ?_
  refine va_mmin hx hb (by rw [hml]; exact hl.1.symm) hown (hts (.methodLink RX5 40 Lib.Math.min.name) (List.mem_of_getElem? (i := 15) rfl)) (hts (.static Lib.Math.min.name) (List.mem_of_getElem? (i := 16) rfl)) (hts (.initialized "java/lang/Math") (List.mem_of_getElem? (i := 17) rfl)) (hts (.code Lib.Math.min.name Lib.Math.min.code 2 (some .int)) (List.mem_of_getElem? (i := 18) rfl)) (Nat.le_of_ble_eq_true rfl) (Nat.le_of_ble_eq_true rfl) (Nat.le_of_ble_eq_true rfl) (Nat.le_of_ble_eq_true rfl) dX5_init_91 ?_
  refine lv_topi (fun v_15 ev_15 => ?_)
  have ev_15 : v_15 = 10 := ev_15.trans (by decide)
  subst ev_15
  refine va_mmax hx hb (by rw [hml]; exact hl.1.symm) hown (hts (.methodLink RX5 46 Lib.Math.max.name) (List.mem_of_getElem? (i := 19) rfl)) (hts (.static Lib.Math.max.name) (List.mem_of_getElem? (i := 20) rfl)) (hts (.initialized "java/lang/Math") (List.mem_of_getElem? (i := 17) rfl)) (hts (.code Lib.Math.max.name Lib.Math.max.code 2 (some .int)) (List.mem_of_getElem? (i := 21) rfl)) (Nat.le_of_ble_eq_true rfl) (Nat.le_of_ble_eq_true rfl) (Nat.le_of_ble_eq_true rfl) (Nat.le_of_ble_eq_true rfl) dX5_init_94 ?_
  refine lv_topi (fun v_16 ev_16 => ?_)
  have ev_16 : v_16 = 10 := ev_16.trans (by decide)
  subst ev_16
  refine va_putF (D := (dC, dI)) (ci := 5) (v := .int 10) (ty := .int) (C := RX5) (T := TX5) (N := 18) hx hb hts (in_X5_init_X5) tyX5 tyX5_ok nmX5 hown hK hP hD hS 0 rfl rfl 1 (by decide) (hts (.fieldLink RX5 49 "MotionSigns$Kernel" "most" "I") (List.mem_of_getElem? (i := 22) rfl)) (fun _ h9 => h9) rfl hin rfl (tyX5_ok 1 (by decide)) rfl rfl (Nat.le_of_ble_eq_true rfl) dX5_init_97 ?_
  clear hP hD hS; try clear H
  intro H locs hP hD hS
  replace hP : va_P (dC, dI) vwCl [(h0, .inr (5, [.ref aw, .int 10, .null, .null, .null, .null, .null, .null, .ref q_1, .ref q_3, .ref q_5, .ref q_7, .ref q_9, .ref q_11, .ref q_13, .int 0, .int 0, .int 0]))] H := hP
  replace hD : va_D A [(h0, .inr (5, [.ref aw, .int 10, .null, .null, .null, .null, .null, .null, .ref q_1, .ref q_3, .ref q_5, .ref q_7, .ref q_9, .ref q_11, .ref q_13, .int 0, .int 0, .int 0]))] := hD
  refine lv_aload_n hx hb dX5_init_100 rfl (lv_at hl 0 rfl) ?_
  refine lv_aload_n hx hb dX5_init_101 rfl (lv_at hl 0 rfl) ?_
  refine va_get (D := (dC, dI)) (ci := 5) (v := .int 10) (C := RX5) (T := TX5) (N := 18) hx hb hts (in_X5_init_X5) hown hK hP 0 rfl rfl 1 (by decide) (hts (.fieldLink RX5 49 "MotionSigns$Kernel" "most" "I") (List.mem_of_getElem? (i := 22) rfl)) (fun _ h9 => h9) rfl dX5_init_102 ?_
  refine lv_aload_n hx hb dX5_init_105 rfl (lv_at hl 0 rfl) ?_
  refine va_get (D := (dC, dI)) (ci := 5) (v := .int 10) (C := RX5) (T := TX5) (N := 18) hx hb hts (in_X5_init_X5) hown hK hP 0 rfl rfl 1 (by decide) (hts (.fieldLink RX5 49 "MotionSigns$Kernel" "most" "I") (List.mem_of_getElem? (i := 22) rfl)) (fun _ h9 => h9) rfl dX5_init_106 ?_
  refine lv_imul hx hb dX5_init_109 ?_
  refine lv_topi (fun v_17 ev_17 => ?_)
  have ev_17 : v_17 = 100 := ev_17.trans (by decide)
  subst ev_17
  refine va_newq (C := RX1) (N' := 100) hx hb hown (hts (.classLink RX5 9 RX1) (List.mem_of_getElem? (i := 4) rfl)) (hN.2.2.1 RX1 (List.mem_of_getElem? (i := 0) rfl)) hK hP hD hS hA (by decide) (by decide) (Nat.le_of_ble_eq_true rfl) (Nat.le_of_ble_eq_true rfl) (Nat.le_of_ble_eq_true rfl) dX5_init_110 ?_
  clear hP hD hS hK; try clear H
  intro q_18 k_19 H hK hP hD hS
  replace hP : va_P (dC, dI) vwCl [(h0, .inr (5, [.ref aw, .int 10, .null, .null, .null, .null, .null, .null, .ref q_1, .ref q_3, .ref q_5, .ref q_7, .ref q_9, .ref q_11, .ref q_13, .int 0, .int 0, .int 0])), (q_18, .inl (k_19, 100, .inr (.inr (.inr (.inr (fun _ => none))))))] H := hP
  replace hD : va_D A [(h0, .inr (5, [.ref aw, .int 10, .null, .null, .null, .null, .null, .null, .ref q_1, .ref q_3, .ref q_5, .ref q_7, .ref q_9, .ref q_11, .ref q_13, .int 0, .int 0, .int 0])), (q_18, .inl (k_19, 100, .inr (.inr (.inr (.inr (fun _ => none))))))] := hD
  replace hK : va_K (dC, dI) vwCl [(k_19, .object RX1)] s := hK
  refine va_putF (D := (dC, dI)) (ci := 5) (v := .ref q_18) (ty := .array (.object "MotionSigns$Big")) (C := RX5) (T := TX5) (N := 18) hx hb hts (in_X5_init_X5) tyX5 tyX5_ok nmX5 hown hK hP hD hS 0 rfl rfl 2 (by decide) (hts (.fieldLink RX5 53 "MotionSigns$Kernel" "cell" "[LMotionSigns$Big;") (List.mem_of_getElem? (i := 23) rfl)) (fun _ h9 => h9) rfl hin rfl (tyX5_ok 2 (by decide)) rfl rfl (Nat.le_of_ble_eq_true rfl) dX5_init_113 ?_
  clear hP hD hS; try clear H
  intro H locs hP hD hS
  replace hP : va_P (dC, dI) vwCl [(h0, .inr (5, [.ref aw, .int 10, .ref q_18, .null, .null, .null, .null, .null, .ref q_1, .ref q_3, .ref q_5, .ref q_7, .ref q_9, .ref q_11, .ref q_13, .int 0, .int 0, .int 0])), (q_18, .inl (k_19, 100, .inr (.inr (.inr (.inr (fun _ => none))))))] H := hP
  replace hD : va_D A [(h0, .inr (5, [.ref aw, .int 10, .ref q_18, .null, .null, .null, .null, .null, .ref q_1, .ref q_3, .ref q_5, .ref q_7, .ref q_9, .ref q_11, .ref q_13, .int 0, .int 0, .int 0])), (q_18, .inl (k_19, 100, .inr (.inr (.inr (.inr (fun _ => none))))))] := hD
  refine lv_aload_n hx hb dX5_init_116 rfl (lv_at hl 0 rfl) ?_
  refine lv_aload_n hx hb dX5_init_117 rfl (lv_at hl 0 rfl) ?_
  refine va_get (D := (dC, dI)) (ci := 5) (v := .int 10) (C := RX5) (T := TX5) (N := 18) hx hb hts (in_X5_init_X5) hown hK hP 0 rfl rfl 1 (by decide) (hts (.fieldLink RX5 49 "MotionSigns$Kernel" "most" "I") (List.mem_of_getElem? (i := 22) rfl)) (fun _ h9 => h9) rfl dX5_init_118 ?_
  refine va_newa (atype := .int) (ty := .int) (N' := 10) (a0 := (10, .inl (fun _ => 0))) hx hb (hts (.arrayClass .int) (List.mem_of_getElem? (i := 24) rfl)) rfl hK hP hD hS hA (fun _ => rfl) (by decide) (by decide) (Nat.le_of_ble_eq_true rfl) (Nat.le_of_ble_eq_true rfl) (Nat.le_of_ble_eq_true rfl) dX5_init_121 ?_
  clear hP hD hS hK; try clear H
  intro q_20 k_21 H hK hP hD hS
  replace hP : va_P (dC, dI) vwCl [(h0, .inr (5, [.ref aw, .int 10, .ref q_18, .null, .null, .null, .null, .null, .ref q_1, .ref q_3, .ref q_5, .ref q_7, .ref q_9, .ref q_11, .ref q_13, .int 0, .int 0, .int 0])), (q_18, .inl (k_19, 100, .inr (.inr (.inr (.inr (fun _ => none)))))), (q_20, .inl (k_21, 10, .inl (fun _ => 0)))] H := hP
  replace hD : va_D A [(h0, .inr (5, [.ref aw, .int 10, .ref q_18, .null, .null, .null, .null, .null, .ref q_1, .ref q_3, .ref q_5, .ref q_7, .ref q_9, .ref q_11, .ref q_13, .int 0, .int 0, .int 0])), (q_18, .inl (k_19, 100, .inr (.inr (.inr (.inr (fun _ => none)))))), (q_20, .inl (k_21, 10, .inl (fun _ => 0)))] := hD
  replace hK : va_K (dC, dI) vwCl [(k_19, .object RX1), (k_21, .int)] s := hK
  refine va_putF (D := (dC, dI)) (ci := 5) (v := .ref q_20) (ty := .array .int) (C := RX5) (T := TX5) (N := 18) hx hb hts (in_X5_init_X5) tyX5 tyX5_ok nmX5 hown hK hP hD hS 0 rfl rfl 3 (by decide) (hts (.fieldLink RX5 57 "MotionSigns$Kernel" "block" "[I") (List.mem_of_getElem? (i := 25) rfl)) (fun _ h9 => h9) rfl hin rfl (tyX5_ok 3 (by decide)) rfl rfl (Nat.le_of_ble_eq_true rfl) dX5_init_123 ?_
  clear hP hD hS; try clear H
  intro H locs hP hD hS
  replace hP : va_P (dC, dI) vwCl [(h0, .inr (5, [.ref aw, .int 10, .ref q_18, .ref q_20, .null, .null, .null, .null, .ref q_1, .ref q_3, .ref q_5, .ref q_7, .ref q_9, .ref q_11, .ref q_13, .int 0, .int 0, .int 0])), (q_18, .inl (k_19, 100, .inr (.inr (.inr (.inr (fun _ => none)))))), (q_20, .inl (k_21, 10, .inl (fun _ => 0)))] H := hP
  replace hD : va_D A [(h0, .inr (5, [.ref aw, .int 10, .ref q_18, .ref q_20, .null, .null, .null, .null, .ref q_1, .ref q_3, .ref q_5, .ref q_7, .ref q_9, .ref q_11, .ref q_13, .int 0, .int 0, .int 0])), (q_18, .inl (k_19, 100, .inr (.inr (.inr (.inr (fun _ => none)))))), (q_20, .inl (k_21, 10, .inl (fun _ => 0)))] := hD
  refine lv_aload_n hx hb dX5_init_126 rfl (lv_at hl 0 rfl) ?_
  refine lv_aload_n hx hb dX5_init_127 rfl (lv_at hl 0 rfl) ?_
  refine va_get (D := (dC, dI)) (ci := 5) (v := .int 10) (C := RX5) (T := TX5) (N := 18) hx hb hts (in_X5_init_X5) hown hK hP 0 rfl rfl 1 (by decide) (hts (.fieldLink RX5 49 "MotionSigns$Kernel" "most" "I") (List.mem_of_getElem? (i := 22) rfl)) (fun _ h9 => h9) rfl dX5_init_128 ?_
  refine va_newa (atype := .int) (ty := .int) (N' := 10) (a0 := (10, .inl (fun _ => 0))) hx hb (hts (.arrayClass .int) (List.mem_of_getElem? (i := 24) rfl)) rfl hK hP hD hS hA (fun _ => rfl) (by decide) (by decide) (Nat.le_of_ble_eq_true rfl) (Nat.le_of_ble_eq_true rfl) (Nat.le_of_ble_eq_true rfl) dX5_init_131 ?_
  clear hP hD hS hK; try clear H
  intro q_22 k_23 H hK hP hD hS
  replace hP : va_P (dC, dI) vwCl [(h0, .inr (5, [.ref aw, .int 10, .ref q_18, .ref q_20, .null, .null, .null, .null, .ref q_1, .ref q_3, .ref q_5, .ref q_7, .ref q_9, .ref q_11, .ref q_13, .int 0, .int 0, .int 0])), (q_18, .inl (k_19, 100, .inr (.inr (.inr (.inr (fun _ => none)))))), (q_20, .inl (k_21, 10, .inl (fun _ => 0))), (q_22, .inl (k_23, 10, .inl (fun _ => 0)))] H := hP
  replace hD : va_D A [(h0, .inr (5, [.ref aw, .int 10, .ref q_18, .ref q_20, .null, .null, .null, .null, .ref q_1, .ref q_3, .ref q_5, .ref q_7, .ref q_9, .ref q_11, .ref q_13, .int 0, .int 0, .int 0])), (q_18, .inl (k_19, 100, .inr (.inr (.inr (.inr (fun _ => none)))))), (q_20, .inl (k_21, 10, .inl (fun _ => 0))), (q_22, .inl (k_23, 10, .inl (fun _ => 0)))] := hD
  replace hK : va_K (dC, dI) vwCl [(k_19, .object RX1), (k_21, .int), (k_23, .int)] s := hK
  refine va_putF (D := (dC, dI)) (ci := 5) (v := .ref q_22) (ty := .array .int) (C := RX5) (T := TX5) (N := 18) hx hb hts (in_X5_init_X5) tyX5 tyX5_ok nmX5 hown hK hP hD hS 0 rfl rfl 4 (by decide) (hts (.fieldLink RX5 61 "MotionSigns$Kernel" "lead" "[I") (List.mem_of_getElem? (i := 26) rfl)) (fun _ h9 => h9) rfl hin rfl (tyX5_ok 4 (by decide)) rfl rfl (Nat.le_of_ble_eq_true rfl) dX5_init_133 ?_
  clear hP hD hS; try clear H
  intro H locs hP hD hS
  replace hP : va_P (dC, dI) vwCl [(h0, .inr (5, [.ref aw, .int 10, .ref q_18, .ref q_20, .ref q_22, .null, .null, .null, .ref q_1, .ref q_3, .ref q_5, .ref q_7, .ref q_9, .ref q_11, .ref q_13, .int 0, .int 0, .int 0])), (q_18, .inl (k_19, 100, .inr (.inr (.inr (.inr (fun _ => none)))))), (q_20, .inl (k_21, 10, .inl (fun _ => 0))), (q_22, .inl (k_23, 10, .inl (fun _ => 0)))] H := hP
  replace hD : va_D A [(h0, .inr (5, [.ref aw, .int 10, .ref q_18, .ref q_20, .ref q_22, .null, .null, .null, .ref q_1, .ref q_3, .ref q_5, .ref q_7, .ref q_9, .ref q_11, .ref q_13, .int 0, .int 0, .int 0])), (q_18, .inl (k_19, 100, .inr (.inr (.inr (.inr (fun _ => none)))))), (q_20, .inl (k_21, 10, .inl (fun _ => 0))), (q_22, .inl (k_23, 10, .inl (fun _ => 0)))] := hD
  refine lv_aload_n hx hb dX5_init_136 rfl (lv_at hl 0 rfl) ?_
  refine lv_aload_n hx hb dX5_init_137 rfl (lv_at hl 0 rfl) ?_
  refine va_get (D := (dC, dI)) (ci := 5) (v := .int 10) (C := RX5) (T := TX5) (N := 18) hx hb hts (in_X5_init_X5) hown hK hP 0 rfl rfl 1 (by decide) (hts (.fieldLink RX5 49 "MotionSigns$Kernel" "most" "I") (List.mem_of_getElem? (i := 22) rfl)) (fun _ h9 => h9) rfl dX5_init_138 ?_
  refine va_newq (C := RX1) (N' := 10) hx hb hown (hts (.classLink RX5 9 RX1) (List.mem_of_getElem? (i := 4) rfl)) (hN.2.2.1 RX1 (List.mem_of_getElem? (i := 0) rfl)) hK hP hD hS hA (by decide) (by decide) (Nat.le_of_ble_eq_true rfl) (Nat.le_of_ble_eq_true rfl) (Nat.le_of_ble_eq_true rfl) dX5_init_141 ?_
  clear hP hD hS hK; try clear H
  intro q_24 k_25 H hK hP hD hS
  replace hP : va_P (dC, dI) vwCl [(h0, .inr (5, [.ref aw, .int 10, .ref q_18, .ref q_20, .ref q_22, .null, .null, .null, .ref q_1, .ref q_3, .ref q_5, .ref q_7, .ref q_9, .ref q_11, .ref q_13, .int 0, .int 0, .int 0])), (q_18, .inl (k_19, 100, .inr (.inr (.inr (.inr (fun _ => none)))))), (q_20, .inl (k_21, 10, .inl (fun _ => 0))), (q_22, .inl (k_23, 10, .inl (fun _ => 0))), (q_24, .inl (k_25, 10, .inr (.inr (.inr (.inr (fun _ => none))))))] H := hP
  replace hD : va_D A [(h0, .inr (5, [.ref aw, .int 10, .ref q_18, .ref q_20, .ref q_22, .null, .null, .null, .ref q_1, .ref q_3, .ref q_5, .ref q_7, .ref q_9, .ref q_11, .ref q_13, .int 0, .int 0, .int 0])), (q_18, .inl (k_19, 100, .inr (.inr (.inr (.inr (fun _ => none)))))), (q_20, .inl (k_21, 10, .inl (fun _ => 0))), (q_22, .inl (k_23, 10, .inl (fun _ => 0))), (q_24, .inl (k_25, 10, .inr (.inr (.inr (.inr (fun _ => none))))))] := hD
  replace hK : va_K (dC, dI) vwCl [(k_19, .object RX1), (k_21, .int), (k_23, .int), (k_25, .object RX1)] s := hK
  refine va_putF (D := (dC, dI)) (ci := 5) (v := .ref q_24) (ty := .array (.object "MotionSigns$Big")) (C := RX5) (T := TX5) (N := 18) hx hb hts (in_X5_init_X5) tyX5 tyX5_ok nmX5 hown hK hP hD hS 0 rfl rfl 5 (by decide) (hts (.fieldLink RX5 64 "MotionSigns$Kernel" "given" "[LMotionSigns$Big;") (List.mem_of_getElem? (i := 27) rfl)) (fun _ h9 => h9) rfl hin rfl (tyX5_ok 5 (by decide)) rfl rfl (Nat.le_of_ble_eq_true rfl) dX5_init_144 ?_
  clear hP hD hS; try clear H
  intro H locs hP hD hS
  replace hP : va_P (dC, dI) vwCl [(h0, .inr (5, [.ref aw, .int 10, .ref q_18, .ref q_20, .ref q_22, .ref q_24, .null, .null, .ref q_1, .ref q_3, .ref q_5, .ref q_7, .ref q_9, .ref q_11, .ref q_13, .int 0, .int 0, .int 0])), (q_18, .inl (k_19, 100, .inr (.inr (.inr (.inr (fun _ => none)))))), (q_20, .inl (k_21, 10, .inl (fun _ => 0))), (q_22, .inl (k_23, 10, .inl (fun _ => 0))), (q_24, .inl (k_25, 10, .inr (.inr (.inr (.inr (fun _ => none))))))] H := hP
  replace hD : va_D A [(h0, .inr (5, [.ref aw, .int 10, .ref q_18, .ref q_20, .ref q_22, .ref q_24, .null, .null, .ref q_1, .ref q_3, .ref q_5, .ref q_7, .ref q_9, .ref q_11, .ref q_13, .int 0, .int 0, .int 0])), (q_18, .inl (k_19, 100, .inr (.inr (.inr (.inr (fun _ => none)))))), (q_20, .inl (k_21, 10, .inl (fun _ => 0))), (q_22, .inl (k_23, 10, .inl (fun _ => 0))), (q_24, .inl (k_25, 10, .inr (.inr (.inr (.inr (fun _ => none))))))] := hD
  refine lv_aload_n hx hb dX5_init_147 rfl (lv_at hl 0 rfl) ?_
  refine lv_aload_n hx hb dX5_init_148 rfl (lv_at hl 0 rfl) ?_
  refine va_get (D := (dC, dI)) (ci := 5) (v := .int 10) (C := RX5) (T := TX5) (N := 18) hx hb hts (in_X5_init_X5) hown hK hP 0 rfl rfl 1 (by decide) (hts (.fieldLink RX5 49 "MotionSigns$Kernel" "most" "I") (List.mem_of_getElem? (i := 22) rfl)) (fun _ h9 => h9) rfl dX5_init_149 ?_
  refine va_newa (atype := .int) (ty := .int) (N' := 10) (a0 := (10, .inl (fun _ => 0))) hx hb (hts (.arrayClass .int) (List.mem_of_getElem? (i := 24) rfl)) rfl hK hP hD hS hA (fun _ => rfl) (by decide) (by decide) (Nat.le_of_ble_eq_true rfl) (Nat.le_of_ble_eq_true rfl) (Nat.le_of_ble_eq_true rfl) dX5_init_152 ?_
  clear hP hD hS hK; try clear H
  intro q_26 k_27 H hK hP hD hS
  replace hP : va_P (dC, dI) vwCl [(h0, .inr (5, [.ref aw, .int 10, .ref q_18, .ref q_20, .ref q_22, .ref q_24, .null, .null, .ref q_1, .ref q_3, .ref q_5, .ref q_7, .ref q_9, .ref q_11, .ref q_13, .int 0, .int 0, .int 0])), (q_18, .inl (k_19, 100, .inr (.inr (.inr (.inr (fun _ => none)))))), (q_20, .inl (k_21, 10, .inl (fun _ => 0))), (q_22, .inl (k_23, 10, .inl (fun _ => 0))), (q_24, .inl (k_25, 10, .inr (.inr (.inr (.inr (fun _ => none)))))), (q_26, .inl (k_27, 10, .inl (fun _ => 0)))] H := hP
  replace hD : va_D A [(h0, .inr (5, [.ref aw, .int 10, .ref q_18, .ref q_20, .ref q_22, .ref q_24, .null, .null, .ref q_1, .ref q_3, .ref q_5, .ref q_7, .ref q_9, .ref q_11, .ref q_13, .int 0, .int 0, .int 0])), (q_18, .inl (k_19, 100, .inr (.inr (.inr (.inr (fun _ => none)))))), (q_20, .inl (k_21, 10, .inl (fun _ => 0))), (q_22, .inl (k_23, 10, .inl (fun _ => 0))), (q_24, .inl (k_25, 10, .inr (.inr (.inr (.inr (fun _ => none)))))), (q_26, .inl (k_27, 10, .inl (fun _ => 0)))] := hD
  replace hK : va_K (dC, dI) vwCl [(k_19, .object RX1), (k_21, .int), (k_23, .int), (k_25, .object RX1), (k_27, .int)] s := hK
  refine va_putF (D := (dC, dI)) (ci := 5) (v := .ref q_26) (ty := .array .int) (C := RX5) (T := TX5) (N := 18) hx hb hts (in_X5_init_X5) tyX5 tyX5_ok nmX5 hown hK hP hD hS 0 rfl rfl 6 (by decide) (hts (.fieldLink RX5 67 "MotionSigns$Kernel" "used" "[I") (List.mem_of_getElem? (i := 28) rfl)) (fun _ h9 => h9) rfl hin rfl (tyX5_ok 6 (by decide)) rfl rfl (Nat.le_of_ble_eq_true rfl) dX5_init_154 ?_
  clear hP hD hS; try clear H
  intro H locs hP hD hS
  replace hP : va_P (dC, dI) vwCl [(h0, .inr (5, [.ref aw, .int 10, .ref q_18, .ref q_20, .ref q_22, .ref q_24, .ref q_26, .null, .ref q_1, .ref q_3, .ref q_5, .ref q_7, .ref q_9, .ref q_11, .ref q_13, .int 0, .int 0, .int 0])), (q_18, .inl (k_19, 100, .inr (.inr (.inr (.inr (fun _ => none)))))), (q_20, .inl (k_21, 10, .inl (fun _ => 0))), (q_22, .inl (k_23, 10, .inl (fun _ => 0))), (q_24, .inl (k_25, 10, .inr (.inr (.inr (.inr (fun _ => none)))))), (q_26, .inl (k_27, 10, .inl (fun _ => 0)))] H := hP
  replace hD : va_D A [(h0, .inr (5, [.ref aw, .int 10, .ref q_18, .ref q_20, .ref q_22, .ref q_24, .ref q_26, .null, .ref q_1, .ref q_3, .ref q_5, .ref q_7, .ref q_9, .ref q_11, .ref q_13, .int 0, .int 0, .int 0])), (q_18, .inl (k_19, 100, .inr (.inr (.inr (.inr (fun _ => none)))))), (q_20, .inl (k_21, 10, .inl (fun _ => 0))), (q_22, .inl (k_23, 10, .inl (fun _ => 0))), (q_24, .inl (k_25, 10, .inr (.inr (.inr (.inr (fun _ => none)))))), (q_26, .inl (k_27, 10, .inl (fun _ => 0)))] := hD
  refine lv_aload_n hx hb dX5_init_157 rfl (lv_at hl 0 rfl) ?_
  refine lv_aload_n hx hb dX5_init_158 rfl (lv_at hl 0 rfl) ?_
  refine va_get (D := (dC, dI)) (ci := 5) (v := .int 10) (C := RX5) (T := TX5) (N := 18) hx hb hts (in_X5_init_X5) hown hK hP 0 rfl rfl 1 (by decide) (hts (.fieldLink RX5 49 "MotionSigns$Kernel" "most" "I") (List.mem_of_getElem? (i := 22) rfl)) (fun _ h9 => h9) rfl dX5_init_159 ?_
  refine va_newq (C := RX1) (N' := 10) hx hb hown (hts (.classLink RX5 9 RX1) (List.mem_of_getElem? (i := 4) rfl)) (hN.2.2.1 RX1 (List.mem_of_getElem? (i := 0) rfl)) hK hP hD hS hA (by decide) (by decide) (Nat.le_of_ble_eq_true rfl) (Nat.le_of_ble_eq_true rfl) (Nat.le_of_ble_eq_true rfl) dX5_init_162 ?_
  clear hP hD hS hK; try clear H
  intro q_28 k_29 H hK hP hD hS
  replace hP : va_P (dC, dI) vwCl [(h0, .inr (5, [.ref aw, .int 10, .ref q_18, .ref q_20, .ref q_22, .ref q_24, .ref q_26, .null, .ref q_1, .ref q_3, .ref q_5, .ref q_7, .ref q_9, .ref q_11, .ref q_13, .int 0, .int 0, .int 0])), (q_18, .inl (k_19, 100, .inr (.inr (.inr (.inr (fun _ => none)))))), (q_20, .inl (k_21, 10, .inl (fun _ => 0))), (q_22, .inl (k_23, 10, .inl (fun _ => 0))), (q_24, .inl (k_25, 10, .inr (.inr (.inr (.inr (fun _ => none)))))), (q_26, .inl (k_27, 10, .inl (fun _ => 0))), (q_28, .inl (k_29, 10, .inr (.inr (.inr (.inr (fun _ => none))))))] H := hP
  replace hD : va_D A [(h0, .inr (5, [.ref aw, .int 10, .ref q_18, .ref q_20, .ref q_22, .ref q_24, .ref q_26, .null, .ref q_1, .ref q_3, .ref q_5, .ref q_7, .ref q_9, .ref q_11, .ref q_13, .int 0, .int 0, .int 0])), (q_18, .inl (k_19, 100, .inr (.inr (.inr (.inr (fun _ => none)))))), (q_20, .inl (k_21, 10, .inl (fun _ => 0))), (q_22, .inl (k_23, 10, .inl (fun _ => 0))), (q_24, .inl (k_25, 10, .inr (.inr (.inr (.inr (fun _ => none)))))), (q_26, .inl (k_27, 10, .inl (fun _ => 0))), (q_28, .inl (k_29, 10, .inr (.inr (.inr (.inr (fun _ => none))))))] := hD
  replace hK : va_K (dC, dI) vwCl [(k_19, .object RX1), (k_21, .int), (k_23, .int), (k_25, .object RX1), (k_27, .int), (k_29, .object RX1)] s := hK
  refine va_putF (D := (dC, dI)) (ci := 5) (v := .ref q_28) (ty := .array (.object "MotionSigns$Big")) (C := RX5) (T := TX5) (N := 18) hx hb hts (in_X5_init_X5) tyX5 tyX5_ok nmX5 hown hK hP hD hS 0 rfl rfl 7 (by decide) (hts (.fieldLink RX5 70 "MotionSigns$Kernel" "dot" "[LMotionSigns$Big;") (List.mem_of_getElem? (i := 29) rfl)) (fun _ h9 => h9) rfl hin rfl (tyX5_ok 7 (by decide)) rfl rfl (Nat.le_of_ble_eq_true rfl) dX5_init_165 ?_
  clear hP hD hS; try clear H
  intro H locs hP hD hS
  replace hP : va_P (dC, dI) vwCl [(h0, .inr (5, [.ref aw, .int 10, .ref q_18, .ref q_20, .ref q_22, .ref q_24, .ref q_26, .ref q_28, .ref q_1, .ref q_3, .ref q_5, .ref q_7, .ref q_9, .ref q_11, .ref q_13, .int 0, .int 0, .int 0])), (q_18, .inl (k_19, 100, .inr (.inr (.inr (.inr (fun _ => none)))))), (q_20, .inl (k_21, 10, .inl (fun _ => 0))), (q_22, .inl (k_23, 10, .inl (fun _ => 0))), (q_24, .inl (k_25, 10, .inr (.inr (.inr (.inr (fun _ => none)))))), (q_26, .inl (k_27, 10, .inl (fun _ => 0))), (q_28, .inl (k_29, 10, .inr (.inr (.inr (.inr (fun _ => none))))))] H := hP
  replace hD : va_D A [(h0, .inr (5, [.ref aw, .int 10, .ref q_18, .ref q_20, .ref q_22, .ref q_24, .ref q_26, .ref q_28, .ref q_1, .ref q_3, .ref q_5, .ref q_7, .ref q_9, .ref q_11, .ref q_13, .int 0, .int 0, .int 0])), (q_18, .inl (k_19, 100, .inr (.inr (.inr (.inr (fun _ => none)))))), (q_20, .inl (k_21, 10, .inl (fun _ => 0))), (q_22, .inl (k_23, 10, .inl (fun _ => 0))), (q_24, .inl (k_25, 10, .inr (.inr (.inr (.inr (fun _ => none)))))), (q_26, .inl (k_27, 10, .inl (fun _ => 0))), (q_28, .inl (k_29, 10, .inr (.inr (.inr (.inr (fun _ => none))))))] := hD
  refine lv_iconst (v := 0) hx hb dX5_init_168 (by decide) ?_
  refine lv_istore_n (lv' := [(3, .int 0), (0, .ref h0), (1, .ref aw), (2, .int 10)]) hx hb dX5_init_169 rfl hl (by decide) rfl (fun ls hl => ?_)
  replace hP := hP.sub (ws' := [(h0, .inr (5, [.ref aw, .int 10, .ref q_18, .ref q_20, .ref q_22, .ref q_24, .ref q_26, .ref q_28, .ref q_1, .ref q_3, .ref q_5, .ref q_7, .ref q_9, .ref q_11, .ref q_13, .int 0, .int 0, .int 0])), (q_18, .inl (k_19, 100, .inr (.inr (.inr (.inr (fun _ => none)))))), (q_24, .inl (k_25, 10, .inr (.inr (.inr (.inr (fun _ => none)))))), (q_28, .inl (k_29, 10, .inr (.inr (.inr (.inr (fun _ => none))))))]) [0, 1, 4, 6] rfl
  replace hD := hD.sub (ws' := [(h0, .inr (5, [.ref aw, .int 10, .ref q_18, .ref q_20, .ref q_22, .ref q_24, .ref q_26, .ref q_28, .ref q_1, .ref q_3, .ref q_5, .ref q_7, .ref q_9, .ref q_11, .ref q_13, .int 0, .int 0, .int 0])), (q_18, .inl (k_19, 100, .inr (.inr (.inr (.inr (fun _ => none)))))), (q_24, .inl (k_25, 10, .inr (.inr (.inr (.inr (fun _ => none)))))), (q_28, .inl (k_29, 10, .inr (.inr (.inr (.inr (fun _ => none))))))]) [0, 1, 4, 6] (by decide) rfl
  have key_33 : ∀ (n_32 i_30 : Nat) (x_31 : Int32) (f_34 : Nat → Option Nat) (H : Heap) (locs : List Loc) (ls : Array Slot), 0 ≤ i_30 → i_30 ≤ 100 → 100 - i_30 < n_32 → x_31 = nI i_30 → va_P (dC, dI) vwCl [(h0, .inr (5, [.ref aw, .int 10, .ref q_18, .ref q_20, .ref q_22, .ref q_24, .ref q_26, .ref q_28, .ref q_1, .ref q_3, .ref q_5, .ref q_7, .ref q_9, .ref q_11, .ref q_13, .int 0, .int 0, .int 0])), (q_18, .inl (k_19, 100, .inr (.inr (.inr (.inr f_34))))), (q_24, .inl (k_25, 10, .inr (.inr (.inr (.inr (fun _ => none)))))), (q_28, .inl (k_29, 10, .inr (.inr (.inr (.inr (fun _ => none))))))] H → va_D A [(h0, .inr (5, [.ref aw, .int 10, .ref q_18, .ref q_20, .ref q_22, .ref q_24, .ref q_26, .ref q_28, .ref q_1, .ref q_3, .ref q_5, .ref q_7, .ref q_9, .ref q_11, .ref q_13, .int 0, .int 0, .int 0])), (q_18, .inl (k_19, 100, .inr (.inr (.inr (.inr f_34))))), (q_24, .inl (k_25, 10, .inr (.inr (.inr (.inr (fun _ => none)))))), (q_28, .inl (k_29, 10, .inr (.inr (.inr (.inr (fun _ => none))))))] → va_S A s.heap H locs → lv_has ls 4 [(3, .int x_31), (0, .ref h0), (1, .ref aw), (2, .int 10)] → W p l e ({ frames := 2, cells := 260, slots := 912, locals := 32 } : Room) s m ([.ref h0, .ref aw, .int 10] : List Value).toArray below meth c H locs (20 + 2 * i_30) (192 + 6 * i_30) Q0 (F0 m 170 ls []) := by
    intro n_32
    induction n_32 with
    | zero =>
      intro i_30 x_31 f_34 H locs ls h0 h1 h2
      exact absurd h2 (by omega)
    | succ n_32 ihkey_33 =>
      intro i_30 x_31 f_34 H locs ls hbi_30 hii_30 hni_30 ex_31 hP hD hS hl
      refine lv_iload_n hx hb dX5_init_170 rfl (lv_at hl 0 rfl) ?_
      refine lv_aload_n hx hb dX5_init_171 rfl (lv_at hl 1 rfl) ?_
      refine va_get (D := (dC, dI)) (ci := 5) (v := .int 10) (C := RX5) (T := TX5) (N := 18) hx hb hts (in_X5_init_X5) hown hK hP 0 rfl rfl 1 (by decide) (hts (.fieldLink RX5 49 "MotionSigns$Kernel" "most" "I") (List.mem_of_getElem? (i := 22) rfl)) (fun _ h9 => h9) rfl dX5_init_172 ?_
      refine lv_aload_n hx hb dX5_init_175 rfl (lv_at hl 1 rfl) ?_
      refine va_get (D := (dC, dI)) (ci := 5) (v := .int 10) (C := RX5) (T := TX5) (N := 18) hx hb hts (in_X5_init_X5) hown hK hP 0 rfl rfl 1 (by decide) (hts (.fieldLink RX5 49 "MotionSigns$Kernel" "most" "I") (List.mem_of_getElem? (i := 22) rfl)) (fun _ h9 => h9) rfl dX5_init_176 ?_
      refine lv_imul hx hb dX5_init_179 ?_
      refine lv_topi (fun v_35 ev_35 => ?_)
      have ev_35 : v_35 = 100 := ev_35.trans (by decide)
      subst ev_35
      refine lv_icmp_ge (tgt := 202) hx hb dX5_init_180 (by decide) (fun hi_30 => ?_) (fun hi_30 => ?_)
      · have hEi_30 : i_30 = 100 := by
          rcases Nat.lt_or_ge i_30 100 with q | q
          · exact absurd hi_30 (by rw [ex_31]; exact nI_ge (b := 100) q (by omega))
          · omega
        subst hEi_30
        refine W.widen (k := 220) (n := 792) (by omega) (by omega) ?_
        refine lv_iconst (v := 0) hx hb dX5_init_202 (by decide) ?_
        refine lv_istore_n (lv' := [(3, .int 0), (0, .ref h0), (1, .ref aw), (2, .int 10)]) hx hb dX5_init_203 rfl hl (by decide) rfl (fun ls hl => ?_)
        have key_39 : ∀ (n_38 i_36 : Nat) (x_37 : Int32) (f_40 : Nat → Option Nat) (f_41 : Nat → Option Nat) (H : Heap) (locs : List Loc) (ls : Array Slot), 0 ≤ i_36 → i_36 ≤ 10 → 10 - i_36 < n_38 → x_37 = nI i_36 → va_P (dC, dI) vwCl [(h0, .inr (5, [.ref aw, .int 10, .ref q_18, .ref q_20, .ref q_22, .ref q_24, .ref q_26, .ref q_28, .ref q_1, .ref q_3, .ref q_5, .ref q_7, .ref q_9, .ref q_11, .ref q_13, .int 0, .int 0, .int 0])), (q_18, .inl (k_19, 100, .inr (.inr (.inr (.inr f_34))))), (q_24, .inl (k_25, 10, .inr (.inr (.inr (.inr f_40))))), (q_28, .inl (k_29, 10, .inr (.inr (.inr (.inr f_41)))))] H → va_D A [(h0, .inr (5, [.ref aw, .int 10, .ref q_18, .ref q_20, .ref q_22, .ref q_24, .ref q_26, .ref q_28, .ref q_1, .ref q_3, .ref q_5, .ref q_7, .ref q_9, .ref q_11, .ref q_13, .int 0, .int 0, .int 0])), (q_18, .inl (k_19, 100, .inr (.inr (.inr (.inr f_34))))), (q_24, .inl (k_25, 10, .inr (.inr (.inr (.inr f_40))))), (q_28, .inl (k_29, 10, .inr (.inr (.inr (.inr f_41)))))] → va_S A s.heap H locs → lv_has ls 4 [(3, .int x_37), (0, .ref h0), (1, .ref aw), (2, .int 10)] → W p l e ({ frames := 2, cells := 260, slots := 912, locals := 32 } : Room) s m ([.ref h0, .ref aw, .int 10] : List Value).toArray below meth c H locs (220 + 4 * i_36) (792 + 12 * i_36) Q0 (F0 m 204 ls []) := by
          intro n_38
          induction n_38 with
          | zero =>
            intro i_36 x_37 f_40 f_41 H locs ls h0 h1 h2
            exact absurd h2 (by omega)
          | succ n_38 ihkey_39 =>
            intro i_36 x_37 f_40 f_41 H locs ls hbi_36 hii_36 hni_36 ex_37 hP hD hS hl
            refine lv_iload_n hx hb dX5_init_204 rfl (lv_at hl 0 rfl) ?_
            refine lv_aload_n hx hb dX5_init_205 rfl (lv_at hl 1 rfl) ?_
            refine va_get (D := (dC, dI)) (ci := 5) (v := .int 10) (C := RX5) (T := TX5) (N := 18) hx hb hts (in_X5_init_X5) hown hK hP 0 rfl rfl 1 (by decide) (hts (.fieldLink RX5 49 "MotionSigns$Kernel" "most" "I") (List.mem_of_getElem? (i := 22) rfl)) (fun _ h9 => h9) rfl dX5_init_206 ?_
            refine lv_icmp_ge (tgt := 244) hx hb dX5_init_209 (by decide) (fun hi_36 => ?_) (fun hi_36 => ?_)
            · have hEi_36 : i_36 = 10 := by
                rcases Nat.lt_or_ge i_36 10 with q | q
                · exact absurd hi_36 (by rw [ex_37]; exact nI_ge (b := 10) q (by omega))
                · omega
              subst hEi_36
              refine W.widen (k := 260) (n := 912) (by omega) (by omega) ?_
              have hP9 := hP.sub (ws' := [(h0, .inr (5, [.ref aw, .int 10, .ref q_18, .ref q_20, .ref q_22, .ref q_24, .ref q_26, .ref q_28, .ref q_1, .ref q_3, .ref q_5, .ref q_7, .ref q_9, .ref q_11, .ref q_13, .int 0, .int 0, .int 0]))]) [0] rfl
              have hD9 := hD.sub (ws' := [(h0, .inr (5, [.ref aw, .int 10, .ref q_18, .ref q_20, .ref q_22, .ref q_24, .ref q_26, .ref q_28, .ref q_1, .ref q_3, .ref q_5, .ref q_7, .ref q_9, .ref q_11, .ref q_13, .int 0, .int 0, .int 0]))]) [0] (by decide) rfl
              have hK9 := hK.sub (tys' := []) [] rfl
              rw [← hAe] at hD9
              refine W.widen (k := 260) (n := 912) (Nat.le_of_ble_eq_true rfl) (Nat.le_of_ble_eq_true rfl) ?_
              subst hQ0
              subst hAe
              exact W.vret hx hb hr (fun t ht hW => ⟨⟨(), rfl, trivial, [.ref aw, .int 10, .ref q_18, .ref q_20, .ref q_22, .ref q_24, .ref q_26, .ref q_28, .ref q_1, .ref q_3, .ref q_5, .ref q_7, .ref q_9, .ref q_11, .ref q_13, .int 0, .int 0, .int 0], by rw [ht]; exact hP9, va_K.moved hW.alike hK9, hD9⟩, hS.F ht⟩) hS.2.2 dX5_init_244
            · have hlti_36 : i_36 < 10 := by
                rcases Nat.lt_or_ge i_36 10 with q | q
                · exact q
                · exact absurd (by rw [ex_37]; exact nI_le q (by omega)) hi_36
              refine lv_aload_n hx hb dX5_init_212 rfl (lv_at hl 1 rfl) ?_
              refine va_get (D := (dC, dI)) (ci := 5) (v := .ref q_24) (C := RX5) (T := TX5) (N := 18) hx hb hts (in_X5_init_X5) hown hK hP 0 rfl rfl 5 (by decide) (hts (.fieldLink RX5 64 "MotionSigns$Kernel" "given" "[LMotionSigns$Big;") (List.mem_of_getElem? (i := 27) rfl)) (fun _ h9 => h9) rfl dX5_init_213 ?_
              refine lv_iload_n hx hb dX5_init_216 rfl (lv_at hl 0 rfl) ?_
              refine va_new (ci := 1) (fs := [.int 0, .int 0, .null]) (C := RX1) (T := TX1) (N := 3) hx hb hts (in_X5_init_X1) tyX1 tyX1_ok hown (hts (.classLink RX5 9 RX1) (List.mem_of_getElem? (i := 4) rfl)) (hts (.instantiable RX1 3) (List.mem_of_getElem? (i := 5) rfl)) (hts (.initialized RX1) (List.mem_of_getElem? (i := 6) rfl)) hK hP hD hS hA rfl (fun j hj => by rcases (show j = 0 ∨ j = 1 ∨ j = 2 by omega) with rfl | rfl | rfl <;> rfl) (by show _ ≤ (260 : Nat); omega) (by show _ ≤ (912 : Nat); omega) dX5_init_217 ?_
              clear hP hD hS; try clear H
              intro q_42 H hP hD hS
              replace hP : va_P (dC, dI) vwCl [(h0, .inr (5, [.ref aw, .int 10, .ref q_18, .ref q_20, .ref q_22, .ref q_24, .ref q_26, .ref q_28, .ref q_1, .ref q_3, .ref q_5, .ref q_7, .ref q_9, .ref q_11, .ref q_13, .int 0, .int 0, .int 0])), (q_18, .inl (k_19, 100, .inr (.inr (.inr (.inr f_34))))), (q_24, .inl (k_25, 10, .inr (.inr (.inr (.inr f_40))))), (q_28, .inl (k_29, 10, .inr (.inr (.inr (.inr f_41))))), (q_42, .inr (1, [.int 0, .int 0, .null]))] H := hP
              replace hD : va_D A [(h0, .inr (5, [.ref aw, .int 10, .ref q_18, .ref q_20, .ref q_22, .ref q_24, .ref q_26, .ref q_28, .ref q_1, .ref q_3, .ref q_5, .ref q_7, .ref q_9, .ref q_11, .ref q_13, .int 0, .int 0, .int 0])), (q_18, .inl (k_19, 100, .inr (.inr (.inr (.inr f_34))))), (q_24, .inl (k_25, 10, .inr (.inr (.inr (.inr f_40))))), (q_28, .inl (k_29, 10, .inr (.inr (.inr (.inr f_41))))), (q_42, .inr (1, [.int 0, .int 0, .null]))] := hD
              refine lv_dup hx hb dX5_init_220 rfl ?_
              have hPc := hP.sub (ws' := [(q_42, .inr (1, [.int 0, .int 0, .null]))]) [4] rfl
              have hDc := hD.sub (ws' := [(q_42, .inr (1, [.int 0, .int 0, .null]))]) [4] (by decide) rfl
              have hKc := hK.sub (tys' := []) [] rfl
              have hFc := va_free (wc := [(q_42, .inr (1, [.int 0, .int 0, .null]))]) hD hS hA [4] rfl
              refine va_callv (va_runIN (As := []) (rest := [.ref q_42, .int x_37, .ref q_24]) ⟨hx, hb, hml, hown, hts⟩ (c_X1_init l dC dI q_42 H.size) ⟨va_cnB 0 hts gX5_init_X1_init_n11 rfl rfl rfl (hN.1 (RX5, 11, yX1_init, RX11) (List.mem_of_getElem? (i := 6) rfl)) (hts (.initialized RX1) (List.mem_of_getElem? (i := 6) rfl)) hd_X1_init ⟨Nat.le_of_ble_eq_true rfl, Nat.le_of_ble_eq_true rfl⟩, rfl, (hts (.instanceMethod yX1_init) (List.mem_of_getElem? (i := 30) rfl))⟩ ⟨fun a U g mk q => by obtain ⟨q0, q1, qP, qK, qD, qE0⟩ := q; exact ⟨q0, q1, qP, va_K.moved (u := U) (U := U.calling g mk a) (Vm.Alike.refl U.vm) qK, qD, w_N.same rfl qE0⟩, fun U hU hW => ⟨rfl, by rw [hU], by rw [hU]; exact hPc, va_K.moved hW.alike hKc, hDc.weaken (fun _ _ _ _ => trivial), w_N.warm hW hN⟩⟩ rfl rfl hl.1 rfl (lv_room (Nat.le_of_ble_eq_true rfl)) dX5_init_221 ⟨(by show _ ≤ (260 : Nat); omega), (by show _ ≤ (912 : Nat); omega)⟩) hS (fun q _ h => hFc q h) hFc (fun u t H1 locs1 ht hvm hw hB hz1 hk1 hS1 => ?_)
              obtain ⟨f_43, hP1, hK1, hD1⟩ := hB
              rw [ht] at hP1
              have hK1 := va_K.moved hvm.symm hK1
              have hJ := va_join (wr := [(h0, .inr (5, [.ref aw, .int 10, .ref q_18, .ref q_20, .ref q_22, .ref q_24, .ref q_26, .ref q_28, .ref q_1, .ref q_3, .ref q_5, .ref q_7, .ref q_9, .ref q_11, .ref q_13, .int 0, .int 0, .int 0])), (q_18, .inl (k_19, 100, .inr (.inr (.inr (.inr f_34))))), (q_24, .inl (k_25, 10, .inr (.inr (.inr (.inr f_40))))), (q_28, .inl (k_29, 10, .inr (.inr (.inr (.inr f_41)))))]) (w1 := [(q_42, .inr (1, f_43))]) hP hD [4] [0, 1, 2, 3] rfl rfl (by decide) (by decide) hk1 hFc hP1 hD1
              clear hP hD hPc hDc hKc hFc hz1 hw; try clear hk1
              obtain ⟨hP, hD⟩ := hJ
              replace hK := (hK.sub (tys' := [(k_19, .object RX1), (k_21, .int), (k_23, .int), (k_25, .object RX1), (k_27, .int), (k_29, .object RX1)]) [0, 1, 2, 3, 4, 5] rfl).app (hK1.sub (tys' := []) [] rfl)
              clear hP1 hK1 hD1 hvm ht hS; try clear t
              try clear H
              revert hS1
              intro hS
              generalize H1 = H at hP hS ⊢; try clear H1
              replace hP : va_P (dC, dI) vwCl [(h0, .inr (5, [.ref aw, .int 10, .ref q_18, .ref q_20, .ref q_22, .ref q_24, .ref q_26, .ref q_28, .ref q_1, .ref q_3, .ref q_5, .ref q_7, .ref q_9, .ref q_11, .ref q_13, .int 0, .int 0, .int 0])), (q_18, .inl (k_19, 100, .inr (.inr (.inr (.inr f_34))))), (q_24, .inl (k_25, 10, .inr (.inr (.inr (.inr f_40))))), (q_28, .inl (k_29, 10, .inr (.inr (.inr (.inr f_41))))), (q_42, .inr (1, f_43))] H := hP
              replace hD : va_D A [(h0, .inr (5, [.ref aw, .int 10, .ref q_18, .ref q_20, .ref q_22, .ref q_24, .ref q_26, .ref q_28, .ref q_1, .ref q_3, .ref q_5, .ref q_7, .ref q_9, .ref q_11, .ref q_13, .int 0, .int 0, .int 0])), (q_18, .inl (k_19, 100, .inr (.inr (.inr (.inr f_34))))), (q_24, .inl (k_25, 10, .inr (.inr (.inr (.inr f_40))))), (q_28, .inl (k_29, 10, .inr (.inr (.inr (.inr f_41))))), (q_42, .inr (1, f_43))] := hD
              replace hK : va_K (dC, dI) vwCl [(k_19, .object RX1), (k_21, .int), (k_23, .int), (k_25, .object RX1), (k_27, .int), (k_29, .object RX1)] s := hK
              refine va_astq hx hb hK hP hD hS 2 3 4 1 rfl rfl rfl rfl (by rw [ex_37]; exact vp_in_nI (by omega) (by omega)) dX5_init_224 ?_
              clear hP hD hS; try clear H
              intro H locs hP hD hS
              replace hP : va_P (dC, dI) vwCl [(h0, .inr (5, [.ref aw, .int 10, .ref q_18, .ref q_20, .ref q_22, .ref q_24, .ref q_26, .ref q_28, .ref q_1, .ref q_3, .ref q_5, .ref q_7, .ref q_9, .ref q_11, .ref q_13, .int 0, .int 0, .int 0])), (q_18, .inl (k_19, 100, .inr (.inr (.inr (.inr f_34))))), (q_24, .inl (k_25, 10, .inr (.inr (.inr (.inr (va_up (f_40) (x_37 : Int32).toNatClampNeg (some q_42))))))), (q_28, .inl (k_29, 10, .inr (.inr (.inr (.inr f_41))))), (q_42, .inr (1, f_43))] H := hP
              replace hD : va_D A [(h0, .inr (5, [.ref aw, .int 10, .ref q_18, .ref q_20, .ref q_22, .ref q_24, .ref q_26, .ref q_28, .ref q_1, .ref q_3, .ref q_5, .ref q_7, .ref q_9, .ref q_11, .ref q_13, .int 0, .int 0, .int 0])), (q_18, .inl (k_19, 100, .inr (.inr (.inr (.inr f_34))))), (q_24, .inl (k_25, 10, .inr (.inr (.inr (.inr (va_up (f_40) (x_37 : Int32).toNatClampNeg (some q_42))))))), (q_28, .inl (k_29, 10, .inr (.inr (.inr (.inr f_41))))), (q_42, .inr (1, f_43))] := hD
              refine lv_aload_n hx hb dX5_init_225 rfl (lv_at hl 1 rfl) ?_
              refine va_get (D := (dC, dI)) (ci := 5) (v := .ref q_28) (C := RX5) (T := TX5) (N := 18) hx hb hts (in_X5_init_X5) hown hK hP 0 rfl rfl 7 (by decide) (hts (.fieldLink RX5 70 "MotionSigns$Kernel" "dot" "[LMotionSigns$Big;") (List.mem_of_getElem? (i := 29) rfl)) (fun _ h9 => h9) rfl dX5_init_226 ?_
              refine lv_iload_n hx hb dX5_init_229 rfl (lv_at hl 0 rfl) ?_
              refine va_new (ci := 1) (fs := [.int 0, .int 0, .null]) (C := RX1) (T := TX1) (N := 3) hx hb hts (in_X5_init_X1) tyX1 tyX1_ok hown (hts (.classLink RX5 9 RX1) (List.mem_of_getElem? (i := 4) rfl)) (hts (.instantiable RX1 3) (List.mem_of_getElem? (i := 5) rfl)) (hts (.initialized RX1) (List.mem_of_getElem? (i := 6) rfl)) hK hP hD hS hA rfl (fun j hj => by rcases (show j = 0 ∨ j = 1 ∨ j = 2 by omega) with rfl | rfl | rfl <;> rfl) (by show _ ≤ (260 : Nat); omega) (by show _ ≤ (912 : Nat); omega) dX5_init_230 ?_
              clear hP hD hS; try clear H
              intro q_44 H hP hD hS
              replace hP : va_P (dC, dI) vwCl [(h0, .inr (5, [.ref aw, .int 10, .ref q_18, .ref q_20, .ref q_22, .ref q_24, .ref q_26, .ref q_28, .ref q_1, .ref q_3, .ref q_5, .ref q_7, .ref q_9, .ref q_11, .ref q_13, .int 0, .int 0, .int 0])), (q_18, .inl (k_19, 100, .inr (.inr (.inr (.inr f_34))))), (q_24, .inl (k_25, 10, .inr (.inr (.inr (.inr (va_up (f_40) (x_37 : Int32).toNatClampNeg (some q_42))))))), (q_28, .inl (k_29, 10, .inr (.inr (.inr (.inr f_41))))), (q_42, .inr (1, f_43)), (q_44, .inr (1, [.int 0, .int 0, .null]))] H := hP
              replace hD : va_D A [(h0, .inr (5, [.ref aw, .int 10, .ref q_18, .ref q_20, .ref q_22, .ref q_24, .ref q_26, .ref q_28, .ref q_1, .ref q_3, .ref q_5, .ref q_7, .ref q_9, .ref q_11, .ref q_13, .int 0, .int 0, .int 0])), (q_18, .inl (k_19, 100, .inr (.inr (.inr (.inr f_34))))), (q_24, .inl (k_25, 10, .inr (.inr (.inr (.inr (va_up (f_40) (x_37 : Int32).toNatClampNeg (some q_42))))))), (q_28, .inl (k_29, 10, .inr (.inr (.inr (.inr f_41))))), (q_42, .inr (1, f_43)), (q_44, .inr (1, [.int 0, .int 0, .null]))] := hD
              refine lv_dup hx hb dX5_init_233 rfl ?_
              have hPc := hP.sub (ws' := [(q_44, .inr (1, [.int 0, .int 0, .null]))]) [5] rfl
              have hDc := hD.sub (ws' := [(q_44, .inr (1, [.int 0, .int 0, .null]))]) [5] (by decide) rfl
              have hKc := hK.sub (tys' := []) [] rfl
              have hFc := va_free (wc := [(q_44, .inr (1, [.int 0, .int 0, .null]))]) hD hS hA [5] rfl
              refine va_callv (va_runIN (As := []) (rest := [.ref q_44, .int x_37, .ref q_28]) ⟨hx, hb, hml, hown, hts⟩ (c_X1_init l dC dI q_44 H.size) ⟨va_cnB 0 hts gX5_init_X1_init_n11 rfl rfl rfl (hN.1 (RX5, 11, yX1_init, RX11) (List.mem_of_getElem? (i := 6) rfl)) (hts (.initialized RX1) (List.mem_of_getElem? (i := 6) rfl)) hd_X1_init ⟨Nat.le_of_ble_eq_true rfl, Nat.le_of_ble_eq_true rfl⟩, rfl, (hts (.instanceMethod yX1_init) (List.mem_of_getElem? (i := 30) rfl))⟩ ⟨fun a U g mk q => by obtain ⟨q0, q1, qP, qK, qD, qE0⟩ := q; exact ⟨q0, q1, qP, va_K.moved (u := U) (U := U.calling g mk a) (Vm.Alike.refl U.vm) qK, qD, w_N.same rfl qE0⟩, fun U hU hW => ⟨rfl, by rw [hU], by rw [hU]; exact hPc, va_K.moved hW.alike hKc, hDc.weaken (fun _ _ _ _ => trivial), w_N.warm hW hN⟩⟩ rfl rfl hl.1 rfl (lv_room (Nat.le_of_ble_eq_true rfl)) dX5_init_234 ⟨(by show _ ≤ (260 : Nat); omega), (by show _ ≤ (912 : Nat); omega)⟩) hS (fun q _ h => hFc q h) hFc (fun u t H1 locs1 ht hvm hw hB hz1 hk1 hS1 => ?_)
              obtain ⟨f_45, hP1, hK1, hD1⟩ := hB
              rw [ht] at hP1
              have hK1 := va_K.moved hvm.symm hK1
              have hJ := va_join (wr := [(h0, .inr (5, [.ref aw, .int 10, .ref q_18, .ref q_20, .ref q_22, .ref q_24, .ref q_26, .ref q_28, .ref q_1, .ref q_3, .ref q_5, .ref q_7, .ref q_9, .ref q_11, .ref q_13, .int 0, .int 0, .int 0])), (q_18, .inl (k_19, 100, .inr (.inr (.inr (.inr f_34))))), (q_24, .inl (k_25, 10, .inr (.inr (.inr (.inr (va_up (f_40) (x_37 : Int32).toNatClampNeg (some q_42))))))), (q_28, .inl (k_29, 10, .inr (.inr (.inr (.inr f_41))))), (q_42, .inr (1, f_43))]) (w1 := [(q_44, .inr (1, f_45))]) hP hD [5] [0, 1, 2, 3, 4] rfl rfl (by decide) (by decide) hk1 hFc hP1 hD1
              clear hP hD hPc hDc hKc hFc hz1 hw; try clear hk1
              obtain ⟨hP, hD⟩ := hJ
              replace hK := (hK.sub (tys' := [(k_19, .object RX1), (k_21, .int), (k_23, .int), (k_25, .object RX1), (k_27, .int), (k_29, .object RX1)]) [0, 1, 2, 3, 4, 5] rfl).app (hK1.sub (tys' := []) [] rfl)
              clear hP1 hK1 hD1 hvm ht hS; try clear t
              try clear H
              revert hS1
              intro hS
              generalize H1 = H at hP hS ⊢; try clear H1
              replace hP : va_P (dC, dI) vwCl [(h0, .inr (5, [.ref aw, .int 10, .ref q_18, .ref q_20, .ref q_22, .ref q_24, .ref q_26, .ref q_28, .ref q_1, .ref q_3, .ref q_5, .ref q_7, .ref q_9, .ref q_11, .ref q_13, .int 0, .int 0, .int 0])), (q_18, .inl (k_19, 100, .inr (.inr (.inr (.inr f_34))))), (q_24, .inl (k_25, 10, .inr (.inr (.inr (.inr (va_up (f_40) (x_37 : Int32).toNatClampNeg (some q_42))))))), (q_28, .inl (k_29, 10, .inr (.inr (.inr (.inr f_41))))), (q_42, .inr (1, f_43)), (q_44, .inr (1, f_45))] H := hP
              replace hD : va_D A [(h0, .inr (5, [.ref aw, .int 10, .ref q_18, .ref q_20, .ref q_22, .ref q_24, .ref q_26, .ref q_28, .ref q_1, .ref q_3, .ref q_5, .ref q_7, .ref q_9, .ref q_11, .ref q_13, .int 0, .int 0, .int 0])), (q_18, .inl (k_19, 100, .inr (.inr (.inr (.inr f_34))))), (q_24, .inl (k_25, 10, .inr (.inr (.inr (.inr (va_up (f_40) (x_37 : Int32).toNatClampNeg (some q_42))))))), (q_28, .inl (k_29, 10, .inr (.inr (.inr (.inr f_41))))), (q_42, .inr (1, f_43)), (q_44, .inr (1, f_45))] := hD
              replace hK : va_K (dC, dI) vwCl [(k_19, .object RX1), (k_21, .int), (k_23, .int), (k_25, .object RX1), (k_27, .int), (k_29, .object RX1)] s := hK
              refine va_astq hx hb hK hP hD hS 3 5 5 1 rfl rfl rfl rfl (by rw [ex_37]; exact vp_in_nI (by omega) (by omega)) dX5_init_237 ?_
              clear hP hD hS; try clear H
              intro H locs hP hD hS
              replace hP : va_P (dC, dI) vwCl [(h0, .inr (5, [.ref aw, .int 10, .ref q_18, .ref q_20, .ref q_22, .ref q_24, .ref q_26, .ref q_28, .ref q_1, .ref q_3, .ref q_5, .ref q_7, .ref q_9, .ref q_11, .ref q_13, .int 0, .int 0, .int 0])), (q_18, .inl (k_19, 100, .inr (.inr (.inr (.inr f_34))))), (q_24, .inl (k_25, 10, .inr (.inr (.inr (.inr (va_up (f_40) (x_37 : Int32).toNatClampNeg (some q_42))))))), (q_28, .inl (k_29, 10, .inr (.inr (.inr (.inr (va_up (f_41) (x_37 : Int32).toNatClampNeg (some q_44))))))), (q_42, .inr (1, f_43)), (q_44, .inr (1, f_45))] H := hP
              replace hD : va_D A [(h0, .inr (5, [.ref aw, .int 10, .ref q_18, .ref q_20, .ref q_22, .ref q_24, .ref q_26, .ref q_28, .ref q_1, .ref q_3, .ref q_5, .ref q_7, .ref q_9, .ref q_11, .ref q_13, .int 0, .int 0, .int 0])), (q_18, .inl (k_19, 100, .inr (.inr (.inr (.inr f_34))))), (q_24, .inl (k_25, 10, .inr (.inr (.inr (.inr (va_up (f_40) (x_37 : Int32).toNatClampNeg (some q_42))))))), (q_28, .inl (k_29, 10, .inr (.inr (.inr (.inr (va_up (f_41) (x_37 : Int32).toNatClampNeg (some q_44))))))), (q_42, .inr (1, f_43)), (q_44, .inr (1, f_45))] := hD
              obtain ⟨v_46, ev_46⟩ : ∃ y : Int32, y = x_37 + 1 := ⟨_, rfl⟩
              refine lv_iinc (v := v_46) (lv' := [(3, .int v_46), (0, .ref h0), (1, .ref aw), (2, .int 10)]) hx hb dX5_init_238 hl (k := 0) rfl (by rw [ev_46]; rfl) (by decide) rfl (fun ls hl => ?_)
              refine lv_goto (tgt := 204) hx hb dX5_init_241 (by decide) ?_
              replace hP := hP.sub (ws' := [(h0, .inr (5, [.ref aw, .int 10, .ref q_18, .ref q_20, .ref q_22, .ref q_24, .ref q_26, .ref q_28, .ref q_1, .ref q_3, .ref q_5, .ref q_7, .ref q_9, .ref q_11, .ref q_13, .int 0, .int 0, .int 0])), (q_18, .inl (k_19, 100, .inr (.inr (.inr (.inr f_34))))), (q_24, .inl (k_25, 10, .inr (.inr (.inr (.inr (va_up (f_40) (x_37 : Int32).toNatClampNeg (some q_42))))))), (q_28, .inl (k_29, 10, .inr (.inr (.inr (.inr (va_up (f_41) (x_37 : Int32).toNatClampNeg (some q_44)))))))]) [0, 1, 2, 3] rfl
              replace hD := hD.sub (ws' := [(h0, .inr (5, [.ref aw, .int 10, .ref q_18, .ref q_20, .ref q_22, .ref q_24, .ref q_26, .ref q_28, .ref q_1, .ref q_3, .ref q_5, .ref q_7, .ref q_9, .ref q_11, .ref q_13, .int 0, .int 0, .int 0])), (q_18, .inl (k_19, 100, .inr (.inr (.inr (.inr f_34))))), (q_24, .inl (k_25, 10, .inr (.inr (.inr (.inr (va_up (f_40) (x_37 : Int32).toNatClampNeg (some q_42))))))), (q_28, .inl (k_29, 10, .inr (.inr (.inr (.inr (va_up (f_41) (x_37 : Int32).toNatClampNeg (some q_44)))))))]) [0, 1, 2, 3] (by decide) rfl
              refine W.widen (k := 220 + 4 * (i_36 + 1)) (n := 792 + 12 * (i_36 + 1)) (by omega) (by omega) ?_
              exact ihkey_39 (i_36 + 1) _ _ _ H locs ls (by omega) (by omega) (by omega) (by rw [ev_46, ex_37]; exact nI_1 i_36) (hP.sub [0, 1, 2, 3] rfl) (hD.sub [0, 1, 2, 3] (by decide) rfl) hS (lv_sub hl [0, 1, 2, 3] rfl)
        refine W.widen (k := 220 + 4 * 0) (n := 792 + 12 * 0) (by omega) (by omega) ?_
        exact key_39 (10 + 1) 0 _ _ _ H locs ls (by omega) (by omega) (by omega) (by first | rfl | exact nI_0.symm | decide) hP hD hS hl
      · have hlti_30 : i_30 < 100 := by
          rcases Nat.lt_or_ge i_30 100 with q | q
          · exact q
          · exact absurd (by rw [ex_31]; exact nI_le q (by omega)) hi_30
        refine lv_aload_n hx hb dX5_init_183 rfl (lv_at hl 1 rfl) ?_
        refine va_get (D := (dC, dI)) (ci := 5) (v := .ref q_18) (C := RX5) (T := TX5) (N := 18) hx hb hts (in_X5_init_X5) hown hK hP 0 rfl rfl 2 (by decide) (hts (.fieldLink RX5 53 "MotionSigns$Kernel" "cell" "[LMotionSigns$Big;") (List.mem_of_getElem? (i := 23) rfl)) (fun _ h9 => h9) rfl dX5_init_184 ?_
        refine lv_iload_n hx hb dX5_init_187 rfl (lv_at hl 0 rfl) ?_
        refine va_new (ci := 1) (fs := [.int 0, .int 0, .null]) (C := RX1) (T := TX1) (N := 3) hx hb hts (in_X5_init_X1) tyX1 tyX1_ok hown (hts (.classLink RX5 9 RX1) (List.mem_of_getElem? (i := 4) rfl)) (hts (.instantiable RX1 3) (List.mem_of_getElem? (i := 5) rfl)) (hts (.initialized RX1) (List.mem_of_getElem? (i := 6) rfl)) hK hP hD hS hA rfl (fun j hj => by rcases (show j = 0 ∨ j = 1 ∨ j = 2 by omega) with rfl | rfl | rfl <;> rfl) (by show _ ≤ (260 : Nat); omega) (by show _ ≤ (912 : Nat); omega) dX5_init_188 ?_
        clear hP hD hS; try clear H
        intro q_47 H hP hD hS
        replace hP : va_P (dC, dI) vwCl [(h0, .inr (5, [.ref aw, .int 10, .ref q_18, .ref q_20, .ref q_22, .ref q_24, .ref q_26, .ref q_28, .ref q_1, .ref q_3, .ref q_5, .ref q_7, .ref q_9, .ref q_11, .ref q_13, .int 0, .int 0, .int 0])), (q_18, .inl (k_19, 100, .inr (.inr (.inr (.inr f_34))))), (q_24, .inl (k_25, 10, .inr (.inr (.inr (.inr (fun _ => none)))))), (q_28, .inl (k_29, 10, .inr (.inr (.inr (.inr (fun _ => none)))))), (q_47, .inr (1, [.int 0, .int 0, .null]))] H := hP
        replace hD : va_D A [(h0, .inr (5, [.ref aw, .int 10, .ref q_18, .ref q_20, .ref q_22, .ref q_24, .ref q_26, .ref q_28, .ref q_1, .ref q_3, .ref q_5, .ref q_7, .ref q_9, .ref q_11, .ref q_13, .int 0, .int 0, .int 0])), (q_18, .inl (k_19, 100, .inr (.inr (.inr (.inr f_34))))), (q_24, .inl (k_25, 10, .inr (.inr (.inr (.inr (fun _ => none)))))), (q_28, .inl (k_29, 10, .inr (.inr (.inr (.inr (fun _ => none)))))), (q_47, .inr (1, [.int 0, .int 0, .null]))] := hD
        refine lv_dup hx hb dX5_init_191 rfl ?_
        have hPc := hP.sub (ws' := [(q_47, .inr (1, [.int 0, .int 0, .null]))]) [4] rfl
        have hDc := hD.sub (ws' := [(q_47, .inr (1, [.int 0, .int 0, .null]))]) [4] (by decide) rfl
        have hKc := hK.sub (tys' := []) [] rfl
        have hFc := va_free (wc := [(q_47, .inr (1, [.int 0, .int 0, .null]))]) hD hS hA [4] rfl
        refine va_callv (va_runIN (As := []) (rest := [.ref q_47, .int x_31, .ref q_18]) ⟨hx, hb, hml, hown, hts⟩ (c_X1_init l dC dI q_47 H.size) ⟨va_cnB 0 hts gX5_init_X1_init_n11 rfl rfl rfl (hN.1 (RX5, 11, yX1_init, RX11) (List.mem_of_getElem? (i := 6) rfl)) (hts (.initialized RX1) (List.mem_of_getElem? (i := 6) rfl)) hd_X1_init ⟨Nat.le_of_ble_eq_true rfl, Nat.le_of_ble_eq_true rfl⟩, rfl, (hts (.instanceMethod yX1_init) (List.mem_of_getElem? (i := 30) rfl))⟩ ⟨fun a U g mk q => by obtain ⟨q0, q1, qP, qK, qD, qE0⟩ := q; exact ⟨q0, q1, qP, va_K.moved (u := U) (U := U.calling g mk a) (Vm.Alike.refl U.vm) qK, qD, w_N.same rfl qE0⟩, fun U hU hW => ⟨rfl, by rw [hU], by rw [hU]; exact hPc, va_K.moved hW.alike hKc, hDc.weaken (fun _ _ _ _ => trivial), w_N.warm hW hN⟩⟩ rfl rfl hl.1 rfl (lv_room (Nat.le_of_ble_eq_true rfl)) dX5_init_192 ⟨(by show _ ≤ (260 : Nat); omega), (by show _ ≤ (912 : Nat); omega)⟩) hS (fun q _ h => hFc q h) hFc (fun u t H1 locs1 ht hvm hw hB hz1 hk1 hS1 => ?_)
        obtain ⟨f_48, hP1, hK1, hD1⟩ := hB
        rw [ht] at hP1
        have hK1 := va_K.moved hvm.symm hK1
        have hJ := va_join (wr := [(h0, .inr (5, [.ref aw, .int 10, .ref q_18, .ref q_20, .ref q_22, .ref q_24, .ref q_26, .ref q_28, .ref q_1, .ref q_3, .ref q_5, .ref q_7, .ref q_9, .ref q_11, .ref q_13, .int 0, .int 0, .int 0])), (q_18, .inl (k_19, 100, .inr (.inr (.inr (.inr f_34))))), (q_24, .inl (k_25, 10, .inr (.inr (.inr (.inr (fun _ => none)))))), (q_28, .inl (k_29, 10, .inr (.inr (.inr (.inr (fun _ => none))))))]) (w1 := [(q_47, .inr (1, f_48))]) hP hD [4] [0, 1, 2, 3] rfl rfl (by decide) (by decide) hk1 hFc hP1 hD1
        clear hP hD hPc hDc hKc hFc hz1 hw; try clear hk1
        obtain ⟨hP, hD⟩ := hJ
        replace hK := (hK.sub (tys' := [(k_19, .object RX1), (k_21, .int), (k_23, .int), (k_25, .object RX1), (k_27, .int), (k_29, .object RX1)]) [0, 1, 2, 3, 4, 5] rfl).app (hK1.sub (tys' := []) [] rfl)
        clear hP1 hK1 hD1 hvm ht hS; try clear t
        try clear H
        revert hS1
        intro hS
        generalize H1 = H at hP hS ⊢; try clear H1
        replace hP : va_P (dC, dI) vwCl [(h0, .inr (5, [.ref aw, .int 10, .ref q_18, .ref q_20, .ref q_22, .ref q_24, .ref q_26, .ref q_28, .ref q_1, .ref q_3, .ref q_5, .ref q_7, .ref q_9, .ref q_11, .ref q_13, .int 0, .int 0, .int 0])), (q_18, .inl (k_19, 100, .inr (.inr (.inr (.inr f_34))))), (q_24, .inl (k_25, 10, .inr (.inr (.inr (.inr (fun _ => none)))))), (q_28, .inl (k_29, 10, .inr (.inr (.inr (.inr (fun _ => none)))))), (q_47, .inr (1, f_48))] H := hP
        replace hD : va_D A [(h0, .inr (5, [.ref aw, .int 10, .ref q_18, .ref q_20, .ref q_22, .ref q_24, .ref q_26, .ref q_28, .ref q_1, .ref q_3, .ref q_5, .ref q_7, .ref q_9, .ref q_11, .ref q_13, .int 0, .int 0, .int 0])), (q_18, .inl (k_19, 100, .inr (.inr (.inr (.inr f_34))))), (q_24, .inl (k_25, 10, .inr (.inr (.inr (.inr (fun _ => none)))))), (q_28, .inl (k_29, 10, .inr (.inr (.inr (.inr (fun _ => none)))))), (q_47, .inr (1, f_48))] := hD
        replace hK : va_K (dC, dI) vwCl [(k_19, .object RX1), (k_21, .int), (k_23, .int), (k_25, .object RX1), (k_27, .int), (k_29, .object RX1)] s := hK
        refine va_astq hx hb hK hP hD hS 1 0 4 1 rfl rfl rfl rfl (by rw [ex_31]; exact vp_in_nI (by omega) (by omega)) dX5_init_195 ?_
        clear hP hD hS; try clear H
        intro H locs hP hD hS
        replace hP : va_P (dC, dI) vwCl [(h0, .inr (5, [.ref aw, .int 10, .ref q_18, .ref q_20, .ref q_22, .ref q_24, .ref q_26, .ref q_28, .ref q_1, .ref q_3, .ref q_5, .ref q_7, .ref q_9, .ref q_11, .ref q_13, .int 0, .int 0, .int 0])), (q_18, .inl (k_19, 100, .inr (.inr (.inr (.inr (va_up (f_34) (x_31 : Int32).toNatClampNeg (some q_47))))))), (q_24, .inl (k_25, 10, .inr (.inr (.inr (.inr (fun _ => none)))))), (q_28, .inl (k_29, 10, .inr (.inr (.inr (.inr (fun _ => none)))))), (q_47, .inr (1, f_48))] H := hP
        replace hD : va_D A [(h0, .inr (5, [.ref aw, .int 10, .ref q_18, .ref q_20, .ref q_22, .ref q_24, .ref q_26, .ref q_28, .ref q_1, .ref q_3, .ref q_5, .ref q_7, .ref q_9, .ref q_11, .ref q_13, .int 0, .int 0, .int 0])), (q_18, .inl (k_19, 100, .inr (.inr (.inr (.inr (va_up (f_34) (x_31 : Int32).toNatClampNeg (some q_47))))))), (q_24, .inl (k_25, 10, .inr (.inr (.inr (.inr (fun _ => none)))))), (q_28, .inl (k_29, 10, .inr (.inr (.inr (.inr (fun _ => none)))))), (q_47, .inr (1, f_48))] := hD
        obtain ⟨v_49, ev_49⟩ : ∃ y : Int32, y = x_31 + 1 := ⟨_, rfl⟩
        refine lv_iinc (v := v_49) (lv' := [(3, .int v_49), (0, .ref h0), (1, .ref aw), (2, .int 10)]) hx hb dX5_init_196 hl (k := 0) rfl (by rw [ev_49]; rfl) (by decide) rfl (fun ls hl => ?_)
        refine lv_goto (tgt := 170) hx hb dX5_init_199 (by decide) ?_
        replace hP := hP.sub (ws' := [(h0, .inr (5, [.ref aw, .int 10, .ref q_18, .ref q_20, .ref q_22, .ref q_24, .ref q_26, .ref q_28, .ref q_1, .ref q_3, .ref q_5, .ref q_7, .ref q_9, .ref q_11, .ref q_13, .int 0, .int 0, .int 0])), (q_18, .inl (k_19, 100, .inr (.inr (.inr (.inr (va_up (f_34) (x_31 : Int32).toNatClampNeg (some q_47))))))), (q_24, .inl (k_25, 10, .inr (.inr (.inr (.inr (fun _ => none)))))), (q_28, .inl (k_29, 10, .inr (.inr (.inr (.inr (fun _ => none))))))]) [0, 1, 2, 3] rfl
        replace hD := hD.sub (ws' := [(h0, .inr (5, [.ref aw, .int 10, .ref q_18, .ref q_20, .ref q_22, .ref q_24, .ref q_26, .ref q_28, .ref q_1, .ref q_3, .ref q_5, .ref q_7, .ref q_9, .ref q_11, .ref q_13, .int 0, .int 0, .int 0])), (q_18, .inl (k_19, 100, .inr (.inr (.inr (.inr (va_up (f_34) (x_31 : Int32).toNatClampNeg (some q_47))))))), (q_24, .inl (k_25, 10, .inr (.inr (.inr (.inr (fun _ => none)))))), (q_28, .inl (k_29, 10, .inr (.inr (.inr (.inr (fun _ => none))))))]) [0, 1, 2, 3] (by decide) rfl
        refine W.widen (k := 20 + 2 * (i_30 + 1)) (n := 192 + 6 * (i_30 + 1)) (by omega) (by omega) ?_
        exact ihkey_33 (i_30 + 1) _ _ H locs ls (by omega) (by omega) (by omega) (by rw [ev_49, ex_31]; exact nI_1 i_30) (hP.sub [0, 1, 2, 3] rfl) (hD.sub [0, 1, 2, 3] (by decide) rfl) hS (lv_sub hl [0, 1, 2, 3] rfl)
  refine W.widen (k := 20 + 2 * 0) (n := 192 + 6 * 0) (by omega) (by omega) ?_
  exact key_33 (100 + 1) 0 _ _ H locs ls (by omega) (by omega) (by omega) (by first | rfl | exact nI_0.symm | decide) hP hD hS hl
