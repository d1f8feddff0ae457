theorem in_X15_init_X12 : ∀ w ∈ wsX120, w ∈ wsM15 := by decide +kernel
theorem in_X15_init_X13 : ∀ w ∈ wsX130, w ∈ wsM15 := by decide +kernel
theorem in_X15_init_X14 : ∀ w ∈ wsX140, w ∈ wsM15 := by decide +kernel
theorem in_X15_init_X15 : ∀ w ∈ wsX150, w ∈ wsM15 := by decide +kernel
theorem hd_X13_init : yX13_init.cls ≠ "java/lang/invoke/MethodHandle" ∧ yX13_init.cls ≠ "java/lang/invoke/VarHandle" ∧ (parseMethodDescriptor yX13_init.desc).map (fun d => d.parameters.length) = some 1 := by decide +kernel
theorem hd_X14_init : yX14_init.cls ≠ "java/lang/invoke/MethodHandle" ∧ yX14_init.cls ≠ "java/lang/invoke/VarHandle" ∧ (parseMethodDescriptor yX14_init.desc).map (fun d => d.parameters.length) = some 1 := by decide +kernel
set_option maxHeartbeats 40000000 in
set_option maxRecDepth 100000 in
/-- the reference: MotionSignsModel(), rows 0 to 156 -/
theorem c_X15_init_s0 {p : Program} {l : Launch} {e : Env} {s : State} {m : MethodId} {below : List Frame} {meth : Method} {c : Code} {A : Nat → Prop} {Q0 : State → Prop} {dC : Nat → ClassId} {dI : Nat → Nat → Nat} {h0 : Nat} {fs0 : List Value} (hx : p.tables.exec = Jvm.exec) (hb : c.code = cX15_init) (hml : c.maxLocals = 3) (hts : ∀ w ∈ wsM15, w.before ([.ref h0] : List Value).toArray s = true) (hown : s.vm.findClass RX15 = some m.cls) (hin : meth.name = "<init>") (hA : ∀ q : Nat, s.heap.size ≤ q → A q) (hN : w_N s) {H : Heap} {locs : List Loc} {ls : Array Slot} (hP : va_P (dC, dI) vwCl [(h0, .inr (15, fs0))] H) (hD : va_D A [(h0, .inr (15, fs0))]) (hK : va_K (dC, dI) vwCl [] s) (hS : va_S A s.heap H locs) (hl : lv_has ls 3 [(0, .ref h0)]) (hF : mF 89 [(0, .int 0), (17, .int 0), (18, .int 0), (19, .int 0), (20, .int 0), (21, .int 0), (22, .int 0), (23, .int 0), (24, .int 0), (25, .int 0), (27, .int 0), (28, .int 0), (29, .int 0), (35, .int 0)] fs0) (kont : ∀ (fs_32 : List Value) (H : Heap) (locs : List Loc) (ls : Array Slot), va_P (dC, dI) vwCl [(h0, .inr (15, fs_32))] H → va_D A [(h0, .inr (15, fs_32))] → va_K (dC, dI) vwCl [] s → va_S A s.heap H locs → lv_has ls 3 [(0, .ref h0)] → mF 89 [(0, .int 0), (17, .int 0), (18, .int 0), (19, .int 0), (20, .int 0), (21, .int 0), (22, .int 0), (23, .int 0), (24, .int 0), (25, .int 0), (27, .int 0), (28, .int 0), (29, .int 0), (35, .int 0)] fs_32 → W p l e ({ frames := 3, cells := 7193, slots := 3261971, locals := 56 } : Room) s m ([.ref h0] : List Value).toArray below meth c H locs 1853 249395 Q0 (F0 m 156 ls [])) : W p l e ({ frames := 3, cells := 7193, slots := 3261971, locals := 56 } : Room) s m ([.ref h0] : List Value).toArray below meth c H locs 0 0 Q0 (F0 m 0 ls []) := by
  refine lv_aload_n hx hb dX15_init_0 rfl (lv_at hl 0 rfl) ?_
  refine W.objInit hx hb hown (hts (.methodLink RX15 89 objectInit) (List.mem_of_getElem? (i := 1) rfl)) (hts (.instanceMethod objectInit) (List.mem_of_getElem? (i := 2) rfl)) (hts _ (List.mem_of_getElem? (i := 3) rfl)) rfl (by rw [hml]; exact hl.1) rfl dX15_init_1 (Nat.le_of_ble_eq_true rfl) (Nat.le_of_ble_eq_true rfl) ?_
  refine W.eq (g2 := F0 m 4 ls []) rfl ?_
  refine lv_aload_n hx hb dX15_init_4 rfl (lv_at hl 0 rfl) ?_
  refine va_new (ci := 12) (fs := [.null, .int 0, .int 0]) (C := RX12) (T := TX12) (N := 3) hx hb hts (in_X15_init_X12) tyX12 tyX12_ok hown (hts (.classLink RX15 2 RX12) (List.mem_of_getElem? (i := 4) rfl)) (hts (.instantiable RX12 3) (List.mem_of_getElem? (i := 5) rfl)) (hts (.initialized RX12) (List.mem_of_getElem? (i := 6) rfl)) hK hP hD hS hA rfl (fun j hj => by rcases (show j = 0 ∨ j = 1 ∨ j = 2 by omega) with rfl | rfl | rfl <;> rfl) (Nat.le_of_ble_eq_true rfl) (Nat.le_of_ble_eq_true rfl) dX15_init_5 ?_
  clear hP hD hS; try clear H
  intro q_1 H hP hD hS
  replace hP : va_P (dC, dI) vwCl [(h0, .inr (15, fs0)), (q_1, .inr (12, [.null, .int 0, .int 0]))] H := hP
  replace hD : va_D A [(h0, .inr (15, fs0)), (q_1, .inr (12, [.null, .int 0, .int 0]))] := hD
  refine lv_dup hx hb dX15_init_8 rfl ?_
  refine lv_sipush (v := 270) hx hb dX15_init_9 (by decide) ?_
  have hPc := hP.sub (ws' := [(q_1, .inr (12, [.null, .int 0, .int 0]))]) [1] rfl
  have hDc := hD.sub (ws' := [(q_1, .inr (12, [.null, .int 0, .int 0]))]) [1] (by decide) rfl
  have hKc := hK.sub (tys' := []) [] rfl
  have hFc := va_free (wc := [(q_1, .inr (12, [.null, .int 0, .int 0]))]) hD hS hA [1] rfl
  refine va_callv (va_runIN (As := [.int 270]) (rest := [.ref q_1, .ref h0]) ⟨hx, hb, hml, hown, hts⟩ (c_X12_init l dC dI q_1 H.size) ⟨va_cnB 1 hts gM15_X12 rfl rfl rfl (hN.1 (RX15, 95, yX12_init, RX15) (List.mem_of_getElem? (i := 25) rfl)) (hts (.initialized RX12) (List.mem_of_getElem? (i := 6) rfl)) hd_X12_init ⟨Nat.le_of_ble_eq_true rfl, Nat.le_of_ble_eq_true rfl⟩, rfl, (hts (.instanceMethod yX12_init) (List.mem_of_getElem? (i := 89) rfl))⟩ ⟨fun a U g mk q => by obtain ⟨q0, q1, qP, qK, qD, qE0⟩ := q; exact ⟨q0, q1, qP, va_K.moved (u := U) (U := U.calling g mk a) (Vm.Alike.refl U.vm) qK, qD, w_N.same rfl qE0⟩, fun U hU hW => ⟨rfl, by rw [hU], by rw [hU]; exact hPc, va_K.moved hW.alike hKc, hDc.weaken (fun _ _ _ _ => trivial), w_N.warm hW hN⟩⟩ rfl rfl hl.1 rfl (lv_room (Nat.le_of_ble_eq_true rfl)) dX15_init_12 ⟨(Nat.le_of_ble_eq_true rfl), (Nat.le_of_ble_eq_true rfl)⟩) hS (fun q _ h => hFc q h) hFc (fun u t H1 locs1 ht hvm hw hB hz1 hk1 hS1 => ?_)
  obtain ⟨f_2, hP1, hK1, hD1⟩ := hB
  rw [ht] at hP1
  have hK1 := va_K.moved hvm.symm hK1
  have hJ := va_join (wr := [(h0, .inr (15, fs0))]) (w1 := [(q_1, .inr (12, f_2))]) hP hD [1] [0] rfl rfl (by decide) (by decide) hk1 hFc hP1 hD1
  clear hP hD hPc hDc hKc hFc hz1 hw; try clear hk1
  obtain ⟨hP, hD⟩ := hJ
  replace hK := (hK.sub (tys' := []) [] rfl).app (hK1.sub (tys' := []) [] rfl)
  clear hP1 hK1 hD1 hvm ht hS; try clear t
  try clear H
  revert hS1
  intro hS
  generalize H1 = H at hP hS ⊢; try clear H1
  replace hP : va_P (dC, dI) vwCl [(h0, .inr (15, fs0)), (q_1, .inr (12, f_2))] H := hP
  replace hD : va_D A [(h0, .inr (15, fs0)), (q_1, .inr (12, f_2))] := hD
  replace hK : va_K (dC, dI) vwCl [] s := hK
  refine va_putF (D := (dC, dI)) (ci := 15) (v := .ref q_1) (ty := .object "MotionSignsModel$Big") (C := RX15) (T := TX15) (N := 89) hx hb hts (in_X15_init_X15) tyX15 tyX15_ok nmX15 hown hK hP hD hS 0 rfl rfl 1 (by decide) (hts (.fieldLink RX15 11 "MotionSignsModel" "a0" "LMotionSignsModel$Big;") (List.mem_of_getElem? (i := 7) rfl)) (fun _ h9 => h9) rfl hin rfl (tyX15_ok 1 (by decide)) rfl rfl (mF.lt hF (by decide)) dX15_init_15 ?_
  clear hP hD hS; try clear H
  intro H locs hP hD hS
  have hF1 := mF.pass hF 1 (.ref q_1) (by decide) rfl
  replace hP : va_P (dC, dI) vwCl [(h0, .inr (15, (fs0.set 1 (.ref q_1)))), (q_1, .inr (12, f_2))] H := hP
  replace hD : va_D A [(h0, .inr (15, (fs0.set 1 (.ref q_1)))), (q_1, .inr (12, f_2))] := hD
  generalize fs0.set 1 (.ref q_1) = fs_3 at hP hD hF1
  replace hF : mF 89 [(0, .int 0), (17, .int 0), (18, .int 0), (19, .int 0), (20, .int 0), (21, .int 0), (22, .int 0), (23, .int 0), (24, .int 0), (25, .int 0), (27, .int 0), (28, .int 0), (29, .int 0), (35, .int 0)] fs_3 := hF1
  clear hF1
  replace hP : va_P (dC, dI) vwCl [(h0, .inr (15, fs_3)), (q_1, .inr (12, f_2))] H := hP
  replace hD : va_D A [(h0, .inr (15, fs_3)), (q_1, .inr (12, f_2))] := hD
  replace hP := hP.sub (ws' := [(h0, .inr (15, fs_3))]) [0] rfl
  replace hD := hD.sub (ws' := [(h0, .inr (15, fs_3))]) [0] (by decide) rfl
  refine lv_aload_n hx hb dX15_init_18 rfl (lv_at hl 0 rfl) ?_
  refine va_new (ci := 12) (fs := [.null, .int 0, .int 0]) (C := RX12) (T := TX12) (N := 3) hx hb hts (in_X15_init_X12) tyX12 tyX12_ok hown (hts (.classLink RX15 2 RX12) (List.mem_of_getElem? (i := 4) rfl)) (hts (.instantiable RX12 3) (List.mem_of_getElem? (i := 5) rfl)) (hts (.initialized RX12) (List.mem_of_getElem? (i := 6) rfl)) hK hP hD hS hA rfl (fun j hj => by rcases (show j = 0 ∨ j = 1 ∨ j = 2 by omega) with rfl | rfl | rfl <;> rfl) (Nat.le_of_ble_eq_true rfl) (Nat.le_of_ble_eq_true rfl) dX15_init_19 ?_
  clear hP hD hS; try clear H
  intro q_4 H hP hD hS
  replace hP : va_P (dC, dI) vwCl [(h0, .inr (15, fs_3)), (q_4, .inr (12, [.null, .int 0, .int 0]))] H := hP
  replace hD : va_D A [(h0, .inr (15, fs_3)), (q_4, .inr (12, [.null, .int 0, .int 0]))] := hD
  refine lv_dup hx hb dX15_init_22 rfl ?_
  refine lv_sipush (v := 270) hx hb dX15_init_23 (by decide) ?_
  have hPc := hP.sub (ws' := [(q_4, .inr (12, [.null, .int 0, .int 0]))]) [1] rfl
  have hDc := hD.sub (ws' := [(q_4, .inr (12, [.null, .int 0, .int 0]))]) [1] (by decide) rfl
  have hKc := hK.sub (tys' := []) [] rfl
  have hFc := va_free (wc := [(q_4, .inr (12, [.null, .int 0, .int 0]))]) hD hS hA [1] rfl
  refine va_callv (va_runIN (As := [.int 270]) (rest := [.ref q_4, .ref h0]) ⟨hx, hb, hml, hown, hts⟩ (c_X12_init l dC dI q_4 H.size) ⟨va_cnB 1 hts gM15_X12 rfl rfl rfl (hN.1 (RX15, 95, yX12_init, RX15) (List.mem_of_getElem? (i := 25) rfl)) (hts (.initialized RX12) (List.mem_of_getElem? (i := 6) rfl)) hd_X12_init ⟨Nat.le_of_ble_eq_true rfl, Nat.le_of_ble_eq_true rfl⟩, rfl, (hts (.instanceMethod yX12_init) (List.mem_of_getElem? (i := 89) rfl))⟩ ⟨fun a U g mk q => by obtain ⟨q0, q1, qP, qK, qD, qE0⟩ := q; exact ⟨q0, q1, qP, va_K.moved (u := U) (U := U.calling g mk a) (Vm.Alike.refl U.vm) qK, qD, w_N.same rfl qE0⟩, fun U hU hW => ⟨rfl, by rw [hU], by rw [hU]; exact hPc, va_K.moved hW.alike hKc, hDc.weaken (fun _ _ _ _ => trivial), w_N.warm hW hN⟩⟩ rfl rfl hl.1 rfl (lv_room (Nat.le_of_ble_eq_true rfl)) dX15_init_26 ⟨(Nat.le_of_ble_eq_true rfl), (Nat.le_of_ble_eq_true rfl)⟩) hS (fun q _ h => hFc q h) hFc (fun u t H1 locs1 ht hvm hw hB hz1 hk1 hS1 => ?_)
  obtain ⟨f_5, hP1, hK1, hD1⟩ := hB
  rw [ht] at hP1
  have hK1 := va_K.moved hvm.symm hK1
  have hJ := va_join (wr := [(h0, .inr (15, fs_3))]) (w1 := [(q_4, .inr (12, f_5))]) hP hD [1] [0] rfl rfl (by decide) (by decide) hk1 hFc hP1 hD1
  clear hP hD hPc hDc hKc hFc hz1 hw; try clear hk1
  obtain ⟨hP, hD⟩ := hJ
  replace hK := (hK.sub (tys' := []) [] rfl).app (hK1.sub (tys' := []) [] rfl)
  clear hP1 hK1 hD1 hvm ht hS; try clear t
  try clear H
  revert hS1
  intro hS
  generalize H1 = H at hP hS ⊢; try clear H1
  replace hP : va_P (dC, dI) vwCl [(h0, .inr (15, fs_3)), (q_4, .inr (12, f_5))] H := hP
  replace hD : va_D A [(h0, .inr (15, fs_3)), (q_4, .inr (12, f_5))] := hD
  replace hK : va_K (dC, dI) vwCl [] s := hK
  refine va_putF (D := (dC, dI)) (ci := 15) (v := .ref q_4) (ty := .object "MotionSignsModel$Big") (C := RX15) (T := TX15) (N := 89) hx hb hts (in_X15_init_X15) tyX15 tyX15_ok nmX15 hown hK hP hD hS 0 rfl rfl 2 (by decide) (hts (.fieldLink RX15 17 "MotionSignsModel" "a1" "LMotionSignsModel$Big;") (List.mem_of_getElem? (i := 8) rfl)) (fun _ h9 => h9) rfl hin rfl (tyX15_ok 2 (by decide)) rfl rfl (mF.lt hF (by decide)) dX15_init_29 ?_
  clear hP hD hS; try clear H
  intro H locs hP hD hS
  have hF1 := mF.pass hF 2 (.ref q_4) (by decide) rfl
  replace hP : va_P (dC, dI) vwCl [(h0, .inr (15, (fs_3.set 2 (.ref q_4)))), (q_4, .inr (12, f_5))] H := hP
  replace hD : va_D A [(h0, .inr (15, (fs_3.set 2 (.ref q_4)))), (q_4, .inr (12, f_5))] := hD
  generalize fs_3.set 2 (.ref q_4) = fs_6 at hP hD hF1
  replace hF : mF 89 [(0, .int 0), (17, .int 0), (18, .int 0), (19, .int 0), (20, .int 0), (21, .int 0), (22, .int 0), (23, .int 0), (24, .int 0), (25, .int 0), (27, .int 0), (28, .int 0), (29, .int 0), (35, .int 0)] fs_6 := hF1
  clear hF1
  replace hP : va_P (dC, dI) vwCl [(h0, .inr (15, fs_6)), (q_4, .inr (12, f_5))] H := hP
  replace hD : va_D A [(h0, .inr (15, fs_6)), (q_4, .inr (12, f_5))] := hD
  replace hP := hP.sub (ws' := [(h0, .inr (15, fs_6))]) [0] rfl
  replace hD := hD.sub (ws' := [(h0, .inr (15, fs_6))]) [0] (by decide) rfl
  refine lv_aload_n hx hb dX15_init_32 rfl (lv_at hl 0 rfl) ?_
  refine va_new (ci := 12) (fs := [.null, .int 0, .int 0]) (C := RX12) (T := TX12) (N := 3) hx hb hts (in_X15_init_X12) tyX12 tyX12_ok hown (hts (.classLink RX15 2 RX12) (List.mem_of_getElem? (i := 4) rfl)) (hts (.instantiable RX12 3) (List.mem_of_getElem? (i := 5) rfl)) (hts (.initialized RX12) (List.mem_of_getElem? (i := 6) rfl)) hK hP hD hS hA rfl (fun j hj => by rcases (show j = 0 ∨ j = 1 ∨ j = 2 by omega) with rfl | rfl | rfl <;> rfl) (Nat.le_of_ble_eq_true rfl) (Nat.le_of_ble_eq_true rfl) dX15_init_33 ?_
  clear hP hD hS; try clear H
  intro q_7 H hP hD hS
  replace hP : va_P (dC, dI) vwCl [(h0, .inr (15, fs_6)), (q_7, .inr (12, [.null, .int 0, .int 0]))] H := hP
  replace hD : va_D A [(h0, .inr (15, fs_6)), (q_7, .inr (12, [.null, .int 0, .int 0]))] := hD
  refine lv_dup hx hb dX15_init_36 rfl ?_
  refine lv_sipush (v := 270) hx hb dX15_init_37 (by decide) ?_
  have hPc := hP.sub (ws' := [(q_7, .inr (12, [.null, .int 0, .int 0]))]) [1] rfl
  have hDc := hD.sub (ws' := [(q_7, .inr (12, [.null, .int 0, .int 0]))]) [1] (by decide) rfl
  have hKc := hK.sub (tys' := []) [] rfl
  have hFc := va_free (wc := [(q_7, .inr (12, [.null, .int 0, .int 0]))]) hD hS hA [1] rfl
  refine va_callv (va_runIN (As := [.int 270]) (rest := [.ref q_7, .ref h0]) ⟨hx, hb, hml, hown, hts⟩ (c_X12_init l dC dI q_7 H.size) ⟨va_cnB 1 hts gM15_X12 rfl rfl rfl (hN.1 (RX15, 95, yX12_init, RX15) (List.mem_of_getElem? (i := 25) rfl)) (hts (.initialized RX12) (List.mem_of_getElem? (i := 6) rfl)) hd_X12_init ⟨Nat.le_of_ble_eq_true rfl, Nat.le_of_ble_eq_true rfl⟩, rfl, (hts (.instanceMethod yX12_init) (List.mem_of_getElem? (i := 89) rfl))⟩ ⟨fun a U g mk q => by obtain ⟨q0, q1, qP, qK, qD, qE0⟩ := q; exact ⟨q0, q1, qP, va_K.moved (u := U) (U := U.calling g mk a) (Vm.Alike.refl U.vm) qK, qD, w_N.same rfl qE0⟩, fun U hU hW => ⟨rfl, by rw [hU], by rw [hU]; exact hPc, va_K.moved hW.alike hKc, hDc.weaken (fun _ _ _ _ => trivial), w_N.warm hW hN⟩⟩ rfl rfl hl.1 rfl (lv_room (Nat.le_of_ble_eq_true rfl)) dX15_init_40 ⟨(Nat.le_of_ble_eq_true rfl), (Nat.le_of_ble_eq_true rfl)⟩) hS (fun q _ h => hFc q h) hFc (fun u t H1 locs1 ht hvm hw hB hz1 hk1 hS1 => ?_)
  obtain ⟨f_8, hP1, hK1, hD1⟩ := hB
  rw [ht] at hP1
  have hK1 := va_K.moved hvm.symm hK1
  have hJ := va_join (wr := [(h0, .inr (15, fs_6))]) (w1 := [(q_7, .inr (12, f_8))]) hP hD [1] [0] rfl rfl (by decide) (by decide) hk1 hFc hP1 hD1
  clear hP hD hPc hDc hKc hFc hz1 hw; try clear hk1
  obtain ⟨hP, hD⟩ := hJ
  replace hK := (hK.sub (tys' := []) [] rfl).app (hK1.sub (tys' := []) [] rfl)
  clear hP1 hK1 hD1 hvm ht hS; try clear t
  try clear H
  revert hS1
  intro hS
  generalize H1 = H at hP hS ⊢; try clear H1
  replace hP : va_P (dC, dI) vwCl [(h0, .inr (15, fs_6)), (q_7, .inr (12, f_8))] H := hP
  replace hD : va_D A [(h0, .inr (15, fs_6)), (q_7, .inr (12, f_8))] := hD
  replace hK : va_K (dC, dI) vwCl [] s := hK
  refine va_putF (D := (dC, dI)) (ci := 15) (v := .ref q_7) (ty := .object "MotionSignsModel$Big") (C := RX15) (T := TX15) (N := 89) hx hb hts (in_X15_init_X15) tyX15 tyX15_ok nmX15 hown hK hP hD hS 0 rfl rfl 3 (by decide) (hts (.fieldLink RX15 20 "MotionSignsModel" "a2" "LMotionSignsModel$Big;") (List.mem_of_getElem? (i := 9) rfl)) (fun _ h9 => h9) rfl hin rfl (tyX15_ok 3 (by decide)) rfl rfl (mF.lt hF (by decide)) dX15_init_43 ?_
  clear hP hD hS; try clear H
  intro H locs hP hD hS
  have hF1 := mF.pass hF 3 (.ref q_7) (by decide) rfl
  replace hP : va_P (dC, dI) vwCl [(h0, .inr (15, (fs_6.set 3 (.ref q_7)))), (q_7, .inr (12, f_8))] H := hP
  replace hD : va_D A [(h0, .inr (15, (fs_6.set 3 (.ref q_7)))), (q_7, .inr (12, f_8))] := hD
  generalize fs_6.set 3 (.ref q_7) = fs_9 at hP hD hF1
  replace hF : mF 89 [(0, .int 0), (17, .int 0), (18, .int 0), (19, .int 0), (20, .int 0), (21, .int 0), (22, .int 0), (23, .int 0), (24, .int 0), (25, .int 0), (27, .int 0), (28, .int 0), (29, .int 0), (35, .int 0)] fs_9 := hF1
  clear hF1
  replace hP : va_P (dC, dI) vwCl [(h0, .inr (15, fs_9)), (q_7, .inr (12, f_8))] H := hP
  replace hD : va_D A [(h0, .inr (15, fs_9)), (q_7, .inr (12, f_8))] := hD
  replace hP := hP.sub (ws' := [(h0, .inr (15, fs_9))]) [0] rfl
  replace hD := hD.sub (ws' := [(h0, .inr (15, fs_9))]) [0] (by decide) rfl
  refine lv_aload_n hx hb dX15_init_46 rfl (lv_at hl 0 rfl) ?_
  refine va_new (ci := 12) (fs := [.null, .int 0, .int 0]) (C := RX12) (T := TX12) (N := 3) hx hb hts (in_X15_init_X12) tyX12 tyX12_ok hown (hts (.classLink RX15 2 RX12) (List.mem_of_getElem? (i := 4) rfl)) (hts (.instantiable RX12 3) (List.mem_of_getElem? (i := 5) rfl)) (hts (.initialized RX12) (List.mem_of_getElem? (i := 6) rfl)) hK hP hD hS hA rfl (fun j hj => by rcases (show j = 0 ∨ j = 1 ∨ j = 2 by omega) with rfl | rfl | rfl <;> rfl) (Nat.le_of_ble_eq_true rfl) (Nat.le_of_ble_eq_true rfl) dX15_init_47 ?_
  clear hP hD hS; try clear H
  intro q_10 H hP hD hS
  replace hP : va_P (dC, dI) vwCl [(h0, .inr (15, fs_9)), (q_10, .inr (12, [.null, .int 0, .int 0]))] H := hP
  replace hD : va_D A [(h0, .inr (15, fs_9)), (q_10, .inr (12, [.null, .int 0, .int 0]))] := hD
  refine lv_dup hx hb dX15_init_50 rfl ?_
  refine lv_sipush (v := 270) hx hb dX15_init_51 (by decide) ?_
  have hPc := hP.sub (ws' := [(q_10, .inr (12, [.null, .int 0, .int 0]))]) [1] rfl
  have hDc := hD.sub (ws' := [(q_10, .inr (12, [.null, .int 0, .int 0]))]) [1] (by decide) rfl
  have hKc := hK.sub (tys' := []) [] rfl
  have hFc := va_free (wc := [(q_10, .inr (12, [.null, .int 0, .int 0]))]) hD hS hA [1] rfl
  refine va_callv (va_runIN (As := [.int 270]) (rest := [.ref q_10, .ref h0]) ⟨hx, hb, hml, hown, hts⟩ (c_X12_init l dC dI q_10 H.size) ⟨va_cnB 1 hts gM15_X12 rfl rfl rfl (hN.1 (RX15, 95, yX12_init, RX15) (List.mem_of_getElem? (i := 25) rfl)) (hts (.initialized RX12) (List.mem_of_getElem? (i := 6) rfl)) hd_X12_init ⟨Nat.le_of_ble_eq_true rfl, Nat.le_of_ble_eq_true rfl⟩, rfl, (hts (.instanceMethod yX12_init) (List.mem_of_getElem? (i := 89) rfl))⟩ ⟨fun a U g mk q => by obtain ⟨q0, q1, qP, qK, qD, qE0⟩ := q; exact ⟨q0, q1, qP, va_K.moved (u := U) (U := U.calling g mk a) (Vm.Alike.refl U.vm) qK, qD, w_N.same rfl qE0⟩, fun U hU hW => ⟨rfl, by rw [hU], by rw [hU]; exact hPc, va_K.moved hW.alike hKc, hDc.weaken (fun _ _ _ _ => trivial), w_N.warm hW hN⟩⟩ rfl rfl hl.1 rfl (lv_room (Nat.le_of_ble_eq_true rfl)) dX15_init_54 ⟨(Nat.le_of_ble_eq_true rfl), (Nat.le_of_ble_eq_true rfl)⟩) hS (fun q _ h => hFc q h) hFc (fun u t H1 locs1 ht hvm hw hB hz1 hk1 hS1 => ?_)
  obtain ⟨f_11, hP1, hK1, hD1⟩ := hB
  rw [ht] at hP1
  have hK1 := va_K.moved hvm.symm hK1
  have hJ := va_join (wr := [(h0, .inr (15, fs_9))]) (w1 := [(q_10, .inr (12, f_11))]) hP hD [1] [0] rfl rfl (by decide) (by decide) hk1 hFc hP1 hD1
  clear hP hD hPc hDc hKc hFc hz1 hw; try clear hk1
  obtain ⟨hP, hD⟩ := hJ
  replace hK := (hK.sub (tys' := []) [] rfl).app (hK1.sub (tys' := []) [] rfl)
  clear hP1 hK1 hD1 hvm ht hS; try clear t
  try clear H
  revert hS1
  intro hS
  generalize H1 = H at hP hS ⊢; try clear H1
  replace hP : va_P (dC, dI) vwCl [(h0, .inr (15, fs_9)), (q_10, .inr (12, f_11))] H := hP
  replace hD : va_D A [(h0, .inr (15, fs_9)), (q_10, .inr (12, f_11))] := hD
  replace hK : va_K (dC, dI) vwCl [] s := hK
  refine va_putF (D := (dC, dI)) (ci := 15) (v := .ref q_10) (ty := .object "MotionSignsModel$Big") (C := RX15) (T := TX15) (N := 89) hx hb hts (in_X15_init_X15) tyX15 tyX15_ok nmX15 hown hK hP hD hS 0 rfl rfl 4 (by decide) (hts (.fieldLink RX15 51 "MotionSignsModel" "a3" "LMotionSignsModel$Big;") (List.mem_of_getElem? (i := 10) rfl)) (fun _ h9 => h9) rfl hin rfl (tyX15_ok 4 (by decide)) rfl rfl (mF.lt hF (by decide)) dX15_init_57 ?_
  clear hP hD hS; try clear H
  intro H locs hP hD hS
  have hF1 := mF.pass hF 4 (.ref q_10) (by decide) rfl
  replace hP : va_P (dC, dI) vwCl [(h0, .inr (15, (fs_9.set 4 (.ref q_10)))), (q_10, .inr (12, f_11))] H := hP
  replace hD : va_D A [(h0, .inr (15, (fs_9.set 4 (.ref q_10)))), (q_10, .inr (12, f_11))] := hD
  generalize fs_9.set 4 (.ref q_10) = fs_12 at hP hD hF1
  replace hF : mF 89 [(0, .int 0), (17, .int 0), (18, .int 0), (19, .int 0), (20, .int 0), (21, .int 0), (22, .int 0), (23, .int 0), (24, .int 0), (25, .int 0), (27, .int 0), (28, .int 0), (29, .int 0), (35, .int 0)] fs_12 := hF1
  clear hF1
  replace hP : va_P (dC, dI) vwCl [(h0, .inr (15, fs_12)), (q_10, .inr (12, f_11))] H := hP
  replace hD : va_D A [(h0, .inr (15, fs_12)), (q_10, .inr (12, f_11))] := hD
  replace hP := hP.sub (ws' := [(h0, .inr (15, fs_12))]) [0] rfl
  replace hD := hD.sub (ws' := [(h0, .inr (15, fs_12))]) [0] (by decide) rfl
  refine lv_aload_n hx hb dX15_init_60 rfl (lv_at hl 0 rfl) ?_
  refine va_new (ci := 12) (fs := [.null, .int 0, .int 0]) (C := RX12) (T := TX12) (N := 3) hx hb hts (in_X15_init_X12) tyX12 tyX12_ok hown (hts (.classLink RX15 2 RX12) (List.mem_of_getElem? (i := 4) rfl)) (hts (.instantiable RX12 3) (List.mem_of_getElem? (i := 5) rfl)) (hts (.initialized RX12) (List.mem_of_getElem? (i := 6) rfl)) hK hP hD hS hA rfl (fun j hj => by rcases (show j = 0 ∨ j = 1 ∨ j = 2 by omega) with rfl | rfl | rfl <;> rfl) (Nat.le_of_ble_eq_true rfl) (Nat.le_of_ble_eq_true rfl) dX15_init_61 ?_
  clear hP hD hS; try clear H
  intro q_13 H hP hD hS
  replace hP : va_P (dC, dI) vwCl [(h0, .inr (15, fs_12)), (q_13, .inr (12, [.null, .int 0, .int 0]))] H := hP
  replace hD : va_D A [(h0, .inr (15, fs_12)), (q_13, .inr (12, [.null, .int 0, .int 0]))] := hD
  refine lv_dup hx hb dX15_init_64 rfl ?_
  refine lv_sipush (v := 270) hx hb dX15_init_65 (by decide) ?_
  have hPc := hP.sub (ws' := [(q_13, .inr (12, [.null, .int 0, .int 0]))]) [1] rfl
  have hDc := hD.sub (ws' := [(q_13, .inr (12, [.null, .int 0, .int 0]))]) [1] (by decide) rfl
  have hKc := hK.sub (tys' := []) [] rfl
  have hFc := va_free (wc := [(q_13, .inr (12, [.null, .int 0, .int 0]))]) hD hS hA [1] rfl
  refine va_callv (va_runIN (As := [.int 270]) (rest := [.ref q_13, .ref h0]) ⟨hx, hb, hml, hown, hts⟩ (c_X12_init l dC dI q_13 H.size) ⟨va_cnB 1 hts gM15_X12 rfl rfl rfl (hN.1 (RX15, 95, yX12_init, RX15) (List.mem_of_getElem? (i := 25) rfl)) (hts (.initialized RX12) (List.mem_of_getElem? (i := 6) rfl)) hd_X12_init ⟨Nat.le_of_ble_eq_true rfl, Nat.le_of_ble_eq_true rfl⟩, rfl, (hts (.instanceMethod yX12_init) (List.mem_of_getElem? (i := 89) rfl))⟩ ⟨fun a U g mk q => by obtain ⟨q0, q1, qP, qK, qD, qE0⟩ := q; exact ⟨q0, q1, qP, va_K.moved (u := U) (U := U.calling g mk a) (Vm.Alike.refl U.vm) qK, qD, w_N.same rfl qE0⟩, fun U hU hW => ⟨rfl, by rw [hU], by rw [hU]; exact hPc, va_K.moved hW.alike hKc, hDc.weaken (fun _ _ _ _ => trivial), w_N.warm hW hN⟩⟩ rfl rfl hl.1 rfl (lv_room (Nat.le_of_ble_eq_true rfl)) dX15_init_68 ⟨(Nat.le_of_ble_eq_true rfl), (Nat.le_of_ble_eq_true rfl)⟩) hS (fun q _ h => hFc q h) hFc (fun u t H1 locs1 ht hvm hw hB hz1 hk1 hS1 => ?_)
  obtain ⟨f_14, hP1, hK1, hD1⟩ := hB
  rw [ht] at hP1
  have hK1 := va_K.moved hvm.symm hK1
  have hJ := va_join (wr := [(h0, .inr (15, fs_12))]) (w1 := [(q_13, .inr (12, f_14))]) hP hD [1] [0] rfl rfl (by decide) (by decide) hk1 hFc hP1 hD1
  clear hP hD hPc hDc hKc hFc hz1 hw; try clear hk1
  obtain ⟨hP, hD⟩ := hJ
  replace hK := (hK.sub (tys' := []) [] rfl).app (hK1.sub (tys' := []) [] rfl)
  clear hP1 hK1 hD1 hvm ht hS; try clear t
  try clear H
  revert hS1
  intro hS
  generalize H1 = H at hP hS ⊢; try clear H1
  replace hP : va_P (dC, dI) vwCl [(h0, .inr (15, fs_12)), (q_13, .inr (12, f_14))] H := hP
  replace hD : va_D A [(h0, .inr (15, fs_12)), (q_13, .inr (12, f_14))] := hD
  replace hK : va_K (dC, dI) vwCl [] s := hK
  refine va_putF (D := (dC, dI)) (ci := 15) (v := .ref q_13) (ty := .object "MotionSignsModel$Big") (C := RX15) (T := TX15) (N := 89) hx hb hts (in_X15_init_X15) tyX15 tyX15_ok nmX15 hown hK hP hD hS 0 rfl rfl 5 (by decide) (hts (.fieldLink RX15 62 "MotionSignsModel" "a4" "LMotionSignsModel$Big;") (List.mem_of_getElem? (i := 11) rfl)) (fun _ h9 => h9) rfl hin rfl (tyX15_ok 5 (by decide)) rfl rfl (mF.lt hF (by decide)) dX15_init_71 ?_
  clear hP hD hS; try clear H
  intro H locs hP hD hS
  have hF1 := mF.pass hF 5 (.ref q_13) (by decide) rfl
  replace hP : va_P (dC, dI) vwCl [(h0, .inr (15, (fs_12.set 5 (.ref q_13)))), (q_13, .inr (12, f_14))] H := hP
  replace hD : va_D A [(h0, .inr (15, (fs_12.set 5 (.ref q_13)))), (q_13, .inr (12, f_14))] := hD
  generalize fs_12.set 5 (.ref q_13) = fs_15 at hP hD hF1
  replace hF : mF 89 [(0, .int 0), (17, .int 0), (18, .int 0), (19, .int 0), (20, .int 0), (21, .int 0), (22, .int 0), (23, .int 0), (24, .int 0), (25, .int 0), (27, .int 0), (28, .int 0), (29, .int 0), (35, .int 0)] fs_15 := hF1
  clear hF1
  replace hP : va_P (dC, dI) vwCl [(h0, .inr (15, fs_15)), (q_13, .inr (12, f_14))] H := hP
  replace hD : va_D A [(h0, .inr (15, fs_15)), (q_13, .inr (12, f_14))] := hD
  replace hP := hP.sub (ws' := [(h0, .inr (15, fs_15))]) [0] rfl
  replace hD := hD.sub (ws' := [(h0, .inr (15, fs_15))]) [0] (by decide) rfl
  refine lv_aload_n hx hb dX15_init_74 rfl (lv_at hl 0 rfl) ?_
  refine va_new (ci := 12) (fs := [.null, .int 0, .int 0]) (C := RX12) (T := TX12) (N := 3) hx hb hts (in_X15_init_X12) tyX12 tyX12_ok hown (hts (.classLink RX15 2 RX12) (List.mem_of_getElem? (i := 4) rfl)) (hts (.instantiable RX12 3) (List.mem_of_getElem? (i := 5) rfl)) (hts (.initialized RX12) (List.mem_of_getElem? (i := 6) rfl)) hK hP hD hS hA rfl (fun j hj => by rcases (show j = 0 ∨ j = 1 ∨ j = 2 by omega) with rfl | rfl | rfl <;> rfl) (Nat.le_of_ble_eq_true rfl) (Nat.le_of_ble_eq_true rfl) dX15_init_75 ?_
  clear hP hD hS; try clear H
  intro q_16 H hP hD hS
  replace hP : va_P (dC, dI) vwCl [(h0, .inr (15, fs_15)), (q_16, .inr (12, [.null, .int 0, .int 0]))] H := hP
  replace hD : va_D A [(h0, .inr (15, fs_15)), (q_16, .inr (12, [.null, .int 0, .int 0]))] := hD
  refine lv_dup hx hb dX15_init_78 rfl ?_
  refine lv_sipush (v := 270) hx hb dX15_init_79 (by decide) ?_
  have hPc := hP.sub (ws' := [(q_16, .inr (12, [.null, .int 0, .int 0]))]) [1] rfl
  have hDc := hD.sub (ws' := [(q_16, .inr (12, [.null, .int 0, .int 0]))]) [1] (by decide) rfl
  have hKc := hK.sub (tys' := []) [] rfl
  have hFc := va_free (wc := [(q_16, .inr (12, [.null, .int 0, .int 0]))]) hD hS hA [1] rfl
  refine va_callv (va_runIN (As := [.int 270]) (rest := [.ref q_16, .ref h0]) ⟨hx, hb, hml, hown, hts⟩ (c_X12_init l dC dI q_16 H.size) ⟨va_cnB 1 hts gM15_X12 rfl rfl rfl (hN.1 (RX15, 95, yX12_init, RX15) (List.mem_of_getElem? (i := 25) rfl)) (hts (.initialized RX12) (List.mem_of_getElem? (i := 6) rfl)) hd_X12_init ⟨Nat.le_of_ble_eq_true rfl, Nat.le_of_ble_eq_true rfl⟩, rfl, (hts (.instanceMethod yX12_init) (List.mem_of_getElem? (i := 89) rfl))⟩ ⟨fun a U g mk q => by obtain ⟨q0, q1, qP, qK, qD, qE0⟩ := q; exact ⟨q0, q1, qP, va_K.moved (u := U) (U := U.calling g mk a) (Vm.Alike.refl U.vm) qK, qD, w_N.same rfl qE0⟩, fun U hU hW => ⟨rfl, by rw [hU], by rw [hU]; exact hPc, va_K.moved hW.alike hKc, hDc.weaken (fun _ _ _ _ => trivial), w_N.warm hW hN⟩⟩ rfl rfl hl.1 rfl (lv_room (Nat.le_of_ble_eq_true rfl)) dX15_init_82 ⟨(Nat.le_of_ble_eq_true rfl), (Nat.le_of_ble_eq_true rfl)⟩) hS (fun q _ h => hFc q h) hFc (fun u t H1 locs1 ht hvm hw hB hz1 hk1 hS1 => ?_)
  obtain ⟨f_17, hP1, hK1, hD1⟩ := hB
  rw [ht] at hP1
  have hK1 := va_K.moved hvm.symm hK1
  have hJ := va_join (wr := [(h0, .inr (15, fs_15))]) (w1 := [(q_16, .inr (12, f_17))]) hP hD [1] [0] rfl rfl (by decide) (by decide) hk1 hFc hP1 hD1
  clear hP hD hPc hDc hKc hFc hz1 hw; try clear hk1
  obtain ⟨hP, hD⟩ := hJ
  replace hK := (hK.sub (tys' := []) [] rfl).app (hK1.sub (tys' := []) [] rfl)
  clear hP1 hK1 hD1 hvm ht hS; try clear t
  try clear H
  revert hS1
  intro hS
  generalize H1 = H at hP hS ⊢; try clear H1
  replace hP : va_P (dC, dI) vwCl [(h0, .inr (15, fs_15)), (q_16, .inr (12, f_17))] H := hP
  replace hD : va_D A [(h0, .inr (15, fs_15)), (q_16, .inr (12, f_17))] := hD
  replace hK : va_K (dC, dI) vwCl [] s := hK
  refine va_putF (D := (dC, dI)) (ci := 15) (v := .ref q_16) (ty := .object "MotionSignsModel$Big") (C := RX15) (T := TX15) (N := 89) hx hb hts (in_X15_init_X15) tyX15 tyX15_ok nmX15 hown hK hP hD hS 0 rfl rfl 6 (by decide) (hts (.fieldLink RX15 65 "MotionSignsModel" "a5" "LMotionSignsModel$Big;") (List.mem_of_getElem? (i := 12) rfl)) (fun _ h9 => h9) rfl hin rfl (tyX15_ok 6 (by decide)) rfl rfl (mF.lt hF (by decide)) dX15_init_85 ?_
  clear hP hD hS; try clear H
  intro H locs hP hD hS
  have hF1 := mF.pass hF 6 (.ref q_16) (by decide) rfl
  replace hP : va_P (dC, dI) vwCl [(h0, .inr (15, (fs_15.set 6 (.ref q_16)))), (q_16, .inr (12, f_17))] H := hP
  replace hD : va_D A [(h0, .inr (15, (fs_15.set 6 (.ref q_16)))), (q_16, .inr (12, f_17))] := hD
  generalize fs_15.set 6 (.ref q_16) = fs_18 at hP hD hF1
  replace hF : mF 89 [(0, .int 0), (17, .int 0), (18, .int 0), (19, .int 0), (20, .int 0), (21, .int 0), (22, .int 0), (23, .int 0), (24, .int 0), (25, .int 0), (27, .int 0), (28, .int 0), (29, .int 0), (35, .int 0)] fs_18 := hF1
  clear hF1
  replace hP : va_P (dC, dI) vwCl [(h0, .inr (15, fs_18)), (q_16, .inr (12, f_17))] H := hP
  replace hD : va_D A [(h0, .inr (15, fs_18)), (q_16, .inr (12, f_17))] := hD
  replace hP := hP.sub (ws' := [(h0, .inr (15, fs_18))]) [0] rfl
  replace hD := hD.sub (ws' := [(h0, .inr (15, fs_18))]) [0] (by decide) rfl
  refine lv_aload_n hx hb dX15_init_88 rfl (lv_at hl 0 rfl) ?_
  refine va_new (ci := 12) (fs := [.null, .int 0, .int 0]) (C := RX12) (T := TX12) (N := 3) hx hb hts (in_X15_init_X12) tyX12 tyX12_ok hown (hts (.classLink RX15 2 RX12) (List.mem_of_getElem? (i := 4) rfl)) (hts (.instantiable RX12 3) (List.mem_of_getElem? (i := 5) rfl)) (hts (.initialized RX12) (List.mem_of_getElem? (i := 6) rfl)) hK hP hD hS hA rfl (fun j hj => by rcases (show j = 0 ∨ j = 1 ∨ j = 2 by omega) with rfl | rfl | rfl <;> rfl) (Nat.le_of_ble_eq_true rfl) (Nat.le_of_ble_eq_true rfl) dX15_init_89 ?_
  clear hP hD hS; try clear H
  intro q_19 H hP hD hS
  replace hP : va_P (dC, dI) vwCl [(h0, .inr (15, fs_18)), (q_19, .inr (12, [.null, .int 0, .int 0]))] H := hP
  replace hD : va_D A [(h0, .inr (15, fs_18)), (q_19, .inr (12, [.null, .int 0, .int 0]))] := hD
  refine lv_dup hx hb dX15_init_92 rfl ?_
  refine lv_sipush (v := 270) hx hb dX15_init_93 (by decide) ?_
  have hPc := hP.sub (ws' := [(q_19, .inr (12, [.null, .int 0, .int 0]))]) [1] rfl
  have hDc := hD.sub (ws' := [(q_19, .inr (12, [.null, .int 0, .int 0]))]) [1] (by decide) rfl
  have hKc := hK.sub (tys' := []) [] rfl
  have hFc := va_free (wc := [(q_19, .inr (12, [.null, .int 0, .int 0]))]) hD hS hA [1] rfl
  refine va_callv (va_runIN (As := [.int 270]) (rest := [.ref q_19, .ref h0]) ⟨hx, hb, hml, hown, hts⟩ (c_X12_init l dC dI q_19 H.size) ⟨va_cnB 1 hts gM15_X12 rfl rfl rfl (hN.1 (RX15, 95, yX12_init, RX15) (List.mem_of_getElem? (i := 25) rfl)) (hts (.initialized RX12) (List.mem_of_getElem? (i := 6) rfl)) hd_X12_init ⟨Nat.le_of_ble_eq_true rfl, Nat.le_of_ble_eq_true rfl⟩, rfl, (hts (.instanceMethod yX12_init) (List.mem_of_getElem? (i := 89) rfl))⟩ ⟨fun a U g mk q => by obtain ⟨q0, q1, qP, qK, qD, qE0⟩ := q; exact ⟨q0, q1, qP, va_K.moved (u := U) (U := U.calling g mk a) (Vm.Alike.refl U.vm) qK, qD, w_N.same rfl qE0⟩, fun U hU hW => ⟨rfl, by rw [hU], by rw [hU]; exact hPc, va_K.moved hW.alike hKc, hDc.weaken (fun _ _ _ _ => trivial), w_N.warm hW hN⟩⟩ rfl rfl hl.1 rfl (lv_room (Nat.le_of_ble_eq_true rfl)) dX15_init_96 ⟨(Nat.le_of_ble_eq_true rfl), (Nat.le_of_ble_eq_true rfl)⟩) hS (fun q _ h => hFc q h) hFc (fun u t H1 locs1 ht hvm hw hB hz1 hk1 hS1 => ?_)
  obtain ⟨f_20, hP1, hK1, hD1⟩ := hB
  rw [ht] at hP1
  have hK1 := va_K.moved hvm.symm hK1
  have hJ := va_join (wr := [(h0, .inr (15, fs_18))]) (w1 := [(q_19, .inr (12, f_20))]) hP hD [1] [0] rfl rfl (by decide) (by decide) hk1 hFc hP1 hD1
  clear hP hD hPc hDc hKc hFc hz1 hw; try clear hk1
  obtain ⟨hP, hD⟩ := hJ
  replace hK := (hK.sub (tys' := []) [] rfl).app (hK1.sub (tys' := []) [] rfl)
  clear hP1 hK1 hD1 hvm ht hS; try clear t
  try clear H
  revert hS1
  intro hS
  generalize H1 = H at hP hS ⊢; try clear H1
  replace hP : va_P (dC, dI) vwCl [(h0, .inr (15, fs_18)), (q_19, .inr (12, f_20))] H := hP
  replace hD : va_D A [(h0, .inr (15, fs_18)), (q_19, .inr (12, f_20))] := hD
  replace hK : va_K (dC, dI) vwCl [] s := hK
  refine va_putF (D := (dC, dI)) (ci := 15) (v := .ref q_19) (ty := .object "MotionSignsModel$Big") (C := RX15) (T := TX15) (N := 89) hx hb hts (in_X15_init_X15) tyX15 tyX15_ok nmX15 hown hK hP hD hS 0 rfl rfl 7 (by decide) (hts (.fieldLink RX15 68 "MotionSignsModel" "a6" "LMotionSignsModel$Big;") (List.mem_of_getElem? (i := 13) rfl)) (fun _ h9 => h9) rfl hin rfl (tyX15_ok 7 (by decide)) rfl rfl (mF.lt hF (by decide)) dX15_init_99 ?_
  clear hP hD hS; try clear H
  intro H locs hP hD hS
  have hF1 := mF.pass hF 7 (.ref q_19) (by decide) rfl
  replace hP : va_P (dC, dI) vwCl [(h0, .inr (15, (fs_18.set 7 (.ref q_19)))), (q_19, .inr (12, f_20))] H := hP
  replace hD : va_D A [(h0, .inr (15, (fs_18.set 7 (.ref q_19)))), (q_19, .inr (12, f_20))] := hD
  generalize fs_18.set 7 (.ref q_19) = fs_21 at hP hD hF1
  replace hF : mF 89 [(0, .int 0), (17, .int 0), (18, .int 0), (19, .int 0), (20, .int 0), (21, .int 0), (22, .int 0), (23, .int 0), (24, .int 0), (25, .int 0), (27, .int 0), (28, .int 0), (29, .int 0), (35, .int 0)] fs_21 := hF1
  clear hF1
  replace hP : va_P (dC, dI) vwCl [(h0, .inr (15, fs_21)), (q_19, .inr (12, f_20))] H := hP
  replace hD : va_D A [(h0, .inr (15, fs_21)), (q_19, .inr (12, f_20))] := hD
  replace hP := hP.sub (ws' := [(h0, .inr (15, fs_21))]) [0] rfl
  replace hD := hD.sub (ws' := [(h0, .inr (15, fs_21))]) [0] (by decide) rfl
  refine lv_aload_n hx hb dX15_init_102 rfl (lv_at hl 0 rfl) ?_
  refine va_new (ci := 12) (fs := [.null, .int 0, .int 0]) (C := RX12) (T := TX12) (N := 3) hx hb hts (in_X15_init_X12) tyX12 tyX12_ok hown (hts (.classLink RX15 2 RX12) (List.mem_of_getElem? (i := 4) rfl)) (hts (.instantiable RX12 3) (List.mem_of_getElem? (i := 5) rfl)) (hts (.initialized RX12) (List.mem_of_getElem? (i := 6) rfl)) hK hP hD hS hA rfl (fun j hj => by rcases (show j = 0 ∨ j = 1 ∨ j = 2 by omega) with rfl | rfl | rfl <;> rfl) (Nat.le_of_ble_eq_true rfl) (Nat.le_of_ble_eq_true rfl) dX15_init_103 ?_
  clear hP hD hS; try clear H
  intro q_22 H hP hD hS
  replace hP : va_P (dC, dI) vwCl [(h0, .inr (15, fs_21)), (q_22, .inr (12, [.null, .int 0, .int 0]))] H := hP
  replace hD : va_D A [(h0, .inr (15, fs_21)), (q_22, .inr (12, [.null, .int 0, .int 0]))] := hD
  refine lv_dup hx hb dX15_init_106 rfl ?_
  refine lv_sipush (v := 270) hx hb dX15_init_107 (by decide) ?_
  have hPc := hP.sub (ws' := [(q_22, .inr (12, [.null, .int 0, .int 0]))]) [1] rfl
  have hDc := hD.sub (ws' := [(q_22, .inr (12, [.null, .int 0, .int 0]))]) [1] (by decide) rfl
  have hKc := hK.sub (tys' := []) [] rfl
  have hFc := va_free (wc := [(q_22, .inr (12, [.null, .int 0, .int 0]))]) hD hS hA [1] rfl
  refine va_callv (va_runIN (As := [.int 270]) (rest := [.ref q_22, .ref h0]) ⟨hx, hb, hml, hown, hts⟩ (c_X12_init l dC dI q_22 H.size) ⟨va_cnB 1 hts gM15_X12 rfl rfl rfl (hN.1 (RX15, 95, yX12_init, RX15) (List.mem_of_getElem? (i := 25) rfl)) (hts (.initialized RX12) (List.mem_of_getElem? (i := 6) rfl)) hd_X12_init ⟨Nat.le_of_ble_eq_true rfl, Nat.le_of_ble_eq_true rfl⟩, rfl, (hts (.instanceMethod yX12_init) (List.mem_of_getElem? (i := 89) rfl))⟩ ⟨fun a U g mk q => by obtain ⟨q0, q1, qP, qK, qD, qE0⟩ := q; exact ⟨q0, q1, qP, va_K.moved (u := U) (U := U.calling g mk a) (Vm.Alike.refl U.vm) qK, qD, w_N.same rfl qE0⟩, fun U hU hW => ⟨rfl, by rw [hU], by rw [hU]; exact hPc, va_K.moved hW.alike hKc, hDc.weaken (fun _ _ _ _ => trivial), w_N.warm hW hN⟩⟩ rfl rfl hl.1 rfl (lv_room (Nat.le_of_ble_eq_true rfl)) dX15_init_110 ⟨(Nat.le_of_ble_eq_true rfl), (Nat.le_of_ble_eq_true rfl)⟩) hS (fun q _ h => hFc q h) hFc (fun u t H1 locs1 ht hvm hw hB hz1 hk1 hS1 => ?_)
  obtain ⟨f_23, hP1, hK1, hD1⟩ := hB
  rw [ht] at hP1
  have hK1 := va_K.moved hvm.symm hK1
  have hJ := va_join (wr := [(h0, .inr (15, fs_21))]) (w1 := [(q_22, .inr (12, f_23))]) hP hD [1] [0] rfl rfl (by decide) (by decide) hk1 hFc hP1 hD1
  clear hP hD hPc hDc hKc hFc hz1 hw; try clear hk1
  obtain ⟨hP, hD⟩ := hJ
  replace hK := (hK.sub (tys' := []) [] rfl).app (hK1.sub (tys' := []) [] rfl)
  clear hP1 hK1 hD1 hvm ht hS; try clear t
  try clear H
  revert hS1
  intro hS
  generalize H1 = H at hP hS ⊢; try clear H1
  replace hP : va_P (dC, dI) vwCl [(h0, .inr (15, fs_21)), (q_22, .inr (12, f_23))] H := hP
  replace hD : va_D A [(h0, .inr (15, fs_21)), (q_22, .inr (12, f_23))] := hD
  replace hK : va_K (dC, dI) vwCl [] s := hK
  refine va_putF (D := (dC, dI)) (ci := 15) (v := .ref q_22) (ty := .object "MotionSignsModel$Big") (C := RX15) (T := TX15) (N := 89) hx hb hts (in_X15_init_X15) tyX15 tyX15_ok nmX15 hown hK hP hD hS 0 rfl rfl 8 (by decide) (hts (.fieldLink RX15 98 "MotionSignsModel" "a7" "LMotionSignsModel$Big;") (List.mem_of_getElem? (i := 14) rfl)) (fun _ h9 => h9) rfl hin rfl (tyX15_ok 8 (by decide)) rfl rfl (mF.lt hF (by decide)) dX15_init_113 ?_
  clear hP hD hS; try clear H
  intro H locs hP hD hS
  have hF1 := mF.pass hF 8 (.ref q_22) (by decide) rfl
  replace hP : va_P (dC, dI) vwCl [(h0, .inr (15, (fs_21.set 8 (.ref q_22)))), (q_22, .inr (12, f_23))] H := hP
  replace hD : va_D A [(h0, .inr (15, (fs_21.set 8 (.ref q_22)))), (q_22, .inr (12, f_23))] := hD
  generalize fs_21.set 8 (.ref q_22) = fs_24 at hP hD hF1
  replace hF : mF 89 [(0, .int 0), (17, .int 0), (18, .int 0), (19, .int 0), (20, .int 0), (21, .int 0), (22, .int 0), (23, .int 0), (24, .int 0), (25, .int 0), (27, .int 0), (28, .int 0), (29, .int 0), (35, .int 0)] fs_24 := hF1
  clear hF1
  replace hP : va_P (dC, dI) vwCl [(h0, .inr (15, fs_24)), (q_22, .inr (12, f_23))] H := hP
  replace hD : va_D A [(h0, .inr (15, fs_24)), (q_22, .inr (12, f_23))] := hD
  replace hP := hP.sub (ws' := [(h0, .inr (15, fs_24))]) [0] rfl
  replace hD := hD.sub (ws' := [(h0, .inr (15, fs_24))]) [0] (by decide) rfl
  refine lv_aload_n hx hb dX15_init_116 rfl (lv_at hl 0 rfl) ?_
  refine va_new (ci := 12) (fs := [.null, .int 0, .int 0]) (C := RX12) (T := TX12) (N := 3) hx hb hts (in_X15_init_X12) tyX12 tyX12_ok hown (hts (.classLink RX15 2 RX12) (List.mem_of_getElem? (i := 4) rfl)) (hts (.instantiable RX12 3) (List.mem_of_getElem? (i := 5) rfl)) (hts (.initialized RX12) (List.mem_of_getElem? (i := 6) rfl)) hK hP hD hS hA rfl (fun j hj => by rcases (show j = 0 ∨ j = 1 ∨ j = 2 by omega) with rfl | rfl | rfl <;> rfl) (Nat.le_of_ble_eq_true rfl) (Nat.le_of_ble_eq_true rfl) dX15_init_117 ?_
  clear hP hD hS; try clear H
  intro q_25 H hP hD hS
  replace hP : va_P (dC, dI) vwCl [(h0, .inr (15, fs_24)), (q_25, .inr (12, [.null, .int 0, .int 0]))] H := hP
  replace hD : va_D A [(h0, .inr (15, fs_24)), (q_25, .inr (12, [.null, .int 0, .int 0]))] := hD
  refine lv_dup hx hb dX15_init_120 rfl ?_
  refine lv_sipush (v := 270) hx hb dX15_init_121 (by decide) ?_
  have hPc := hP.sub (ws' := [(q_25, .inr (12, [.null, .int 0, .int 0]))]) [1] rfl
  have hDc := hD.sub (ws' := [(q_25, .inr (12, [.null, .int 0, .int 0]))]) [1] (by decide) rfl
  have hKc := hK.sub (tys' := []) [] rfl
  have hFc := va_free (wc := [(q_25, .inr (12, [.null, .int 0, .int 0]))]) hD hS hA [1] rfl
  refine va_callv (va_runIN (As := [.int 270]) (rest := [.ref q_25, .ref h0]) ⟨hx, hb, hml, hown, hts⟩ (c_X12_init l dC dI q_25 H.size) ⟨va_cnB 1 hts gM15_X12 rfl rfl rfl (hN.1 (RX15, 95, yX12_init, RX15) (List.mem_of_getElem? (i := 25) rfl)) (hts (.initialized RX12) (List.mem_of_getElem? (i := 6) rfl)) hd_X12_init ⟨Nat.le_of_ble_eq_true rfl, Nat.le_of_ble_eq_true rfl⟩, rfl, (hts (.instanceMethod yX12_init) (List.mem_of_getElem? (i := 89) rfl))⟩ ⟨fun a U g mk q => by obtain ⟨q0, q1, qP, qK, qD, qE0⟩ := q; exact ⟨q0, q1, qP, va_K.moved (u := U) (U := U.calling g mk a) (Vm.Alike.refl U.vm) qK, qD, w_N.same rfl qE0⟩, fun U hU hW => ⟨rfl, by rw [hU], by rw [hU]; exact hPc, va_K.moved hW.alike hKc, hDc.weaken (fun _ _ _ _ => trivial), w_N.warm hW hN⟩⟩ rfl rfl hl.1 rfl (lv_room (Nat.le_of_ble_eq_true rfl)) dX15_init_124 ⟨(Nat.le_of_ble_eq_true rfl), (Nat.le_of_ble_eq_true rfl)⟩) hS (fun q _ h => hFc q h) hFc (fun u t H1 locs1 ht hvm hw hB hz1 hk1 hS1 => ?_)
  obtain ⟨f_26, hP1, hK1, hD1⟩ := hB
  rw [ht] at hP1
  have hK1 := va_K.moved hvm.symm hK1
  have hJ := va_join (wr := [(h0, .inr (15, fs_24))]) (w1 := [(q_25, .inr (12, f_26))]) hP hD [1] [0] rfl rfl (by decide) (by decide) hk1 hFc hP1 hD1
  clear hP hD hPc hDc hKc hFc hz1 hw; try clear hk1
  obtain ⟨hP, hD⟩ := hJ
  replace hK := (hK.sub (tys' := []) [] rfl).app (hK1.sub (tys' := []) [] rfl)
  clear hP1 hK1 hD1 hvm ht hS; try clear t
  try clear H
  revert hS1
  intro hS
  generalize H1 = H at hP hS ⊢; try clear H1
  replace hP : va_P (dC, dI) vwCl [(h0, .inr (15, fs_24)), (q_25, .inr (12, f_26))] H := hP
  replace hD : va_D A [(h0, .inr (15, fs_24)), (q_25, .inr (12, f_26))] := hD
  replace hK : va_K (dC, dI) vwCl [] s := hK
  refine va_putF (D := (dC, dI)) (ci := 15) (v := .ref q_25) (ty := .object "MotionSignsModel$Big") (C := RX15) (T := TX15) (N := 89) hx hb hts (in_X15_init_X15) tyX15 tyX15_ok nmX15 hown hK hP hD hS 0 rfl rfl 9 (by decide) (hts (.fieldLink RX15 101 "MotionSignsModel" "a8" "LMotionSignsModel$Big;") (List.mem_of_getElem? (i := 15) rfl)) (fun _ h9 => h9) rfl hin rfl (tyX15_ok 9 (by decide)) rfl rfl (mF.lt hF (by decide)) dX15_init_127 ?_
  clear hP hD hS; try clear H
  intro H locs hP hD hS
  have hF1 := mF.pass hF 9 (.ref q_25) (by decide) rfl
  replace hP : va_P (dC, dI) vwCl [(h0, .inr (15, (fs_24.set 9 (.ref q_25)))), (q_25, .inr (12, f_26))] H := hP
  replace hD : va_D A [(h0, .inr (15, (fs_24.set 9 (.ref q_25)))), (q_25, .inr (12, f_26))] := hD
  generalize fs_24.set 9 (.ref q_25) = fs_27 at hP hD hF1
  replace hF : mF 89 [(0, .int 0), (17, .int 0), (18, .int 0), (19, .int 0), (20, .int 0), (21, .int 0), (22, .int 0), (23, .int 0), (24, .int 0), (25, .int 0), (27, .int 0), (28, .int 0), (29, .int 0), (35, .int 0)] fs_27 := hF1
  clear hF1
  replace hP : va_P (dC, dI) vwCl [(h0, .inr (15, fs_27)), (q_25, .inr (12, f_26))] H := hP
  replace hD : va_D A [(h0, .inr (15, fs_27)), (q_25, .inr (12, f_26))] := hD
  replace hP := hP.sub (ws' := [(h0, .inr (15, fs_27))]) [0] rfl
  replace hD := hD.sub (ws' := [(h0, .inr (15, fs_27))]) [0] (by decide) rfl
  refine lv_aload_n hx hb dX15_init_130 rfl (lv_at hl 0 rfl) ?_
  refine va_new (ci := 12) (fs := [.null, .int 0, .int 0]) (C := RX12) (T := TX12) (N := 3) hx hb hts (in_X15_init_X12) tyX12 tyX12_ok hown (hts (.classLink RX15 2 RX12) (List.mem_of_getElem? (i := 4) rfl)) (hts (.instantiable RX12 3) (List.mem_of_getElem? (i := 5) rfl)) (hts (.initialized RX12) (List.mem_of_getElem? (i := 6) rfl)) hK hP hD hS hA rfl (fun j hj => by rcases (show j = 0 ∨ j = 1 ∨ j = 2 by omega) with rfl | rfl | rfl <;> rfl) (Nat.le_of_ble_eq_true rfl) (Nat.le_of_ble_eq_true rfl) dX15_init_131 ?_
  clear hP hD hS; try clear H
  intro q_28 H hP hD hS
  replace hP : va_P (dC, dI) vwCl [(h0, .inr (15, fs_27)), (q_28, .inr (12, [.null, .int 0, .int 0]))] H := hP
  replace hD : va_D A [(h0, .inr (15, fs_27)), (q_28, .inr (12, [.null, .int 0, .int 0]))] := hD
  refine lv_dup hx hb dX15_init_134 rfl ?_
  refine lv_sipush (v := 270) hx hb dX15_init_135 (by decide) ?_
  have hPc := hP.sub (ws' := [(q_28, .inr (12, [.null, .int 0, .int 0]))]) [1] rfl
  have hDc := hD.sub (ws' := [(q_28, .inr (12, [.null, .int 0, .int 0]))]) [1] (by decide) rfl
  have hKc := hK.sub (tys' := []) [] rfl
  have hFc := va_free (wc := [(q_28, .inr (12, [.null, .int 0, .int 0]))]) hD hS hA [1] rfl
  refine va_callv (va_runIN (As := [.int 270]) (rest := [.ref q_28, .ref h0]) ⟨hx, hb, hml, hown, hts⟩ (c_X12_init l dC dI q_28 H.size) ⟨va_cnB 1 hts gM15_X12 rfl rfl rfl (hN.1 (RX15, 95, yX12_init, RX15) (List.mem_of_getElem? (i := 25) rfl)) (hts (.initialized RX12) (List.mem_of_getElem? (i := 6) rfl)) hd_X12_init ⟨Nat.le_of_ble_eq_true rfl, Nat.le_of_ble_eq_true rfl⟩, rfl, (hts (.instanceMethod yX12_init) (List.mem_of_getElem? (i := 89) rfl))⟩ ⟨fun a U g mk q => by obtain ⟨q0, q1, qP, qK, qD, qE0⟩ := q; exact ⟨q0, q1, qP, va_K.moved (u := U) (U := U.calling g mk a) (Vm.Alike.refl U.vm) qK, qD, w_N.same rfl qE0⟩, fun U hU hW => ⟨rfl, by rw [hU], by rw [hU]; exact hPc, va_K.moved hW.alike hKc, hDc.weaken (fun _ _ _ _ => trivial), w_N.warm hW hN⟩⟩ rfl rfl hl.1 rfl (lv_room (Nat.le_of_ble_eq_true rfl)) dX15_init_138 ⟨(Nat.le_of_ble_eq_true rfl), (Nat.le_of_ble_eq_true rfl)⟩) hS (fun q _ h => hFc q h) hFc (fun u t H1 locs1 ht hvm hw hB hz1 hk1 hS1 => ?_)
  obtain ⟨f_29, hP1, hK1, hD1⟩ := hB
  rw [ht] at hP1
  have hK1 := va_K.moved hvm.symm hK1
  have hJ := va_join (wr := [(h0, .inr (15, fs_27))]) (w1 := [(q_28, .inr (12, f_29))]) hP hD [1] [0] rfl rfl (by decide) (by decide) hk1 hFc hP1 hD1
  clear hP hD hPc hDc hKc hFc hz1 hw; try clear hk1
  obtain ⟨hP, hD⟩ := hJ
  replace hK := (hK.sub (tys' := []) [] rfl).app (hK1.sub (tys' := []) [] rfl)
  clear hP1 hK1 hD1 hvm ht hS; try clear t
  try clear H
  revert hS1
  intro hS
  generalize H1 = H at hP hS ⊢; try clear H1
  replace hP : va_P (dC, dI) vwCl [(h0, .inr (15, fs_27)), (q_28, .inr (12, f_29))] H := hP
  replace hD : va_D A [(h0, .inr (15, fs_27)), (q_28, .inr (12, f_29))] := hD
  replace hK : va_K (dC, dI) vwCl [] s := hK
  refine va_putF (D := (dC, dI)) (ci := 15) (v := .ref q_28) (ty := .object "MotionSignsModel$Big") (C := RX15) (T := TX15) (N := 89) hx hb hts (in_X15_init_X15) tyX15 tyX15_ok nmX15 hown hK hP hD hS 0 rfl rfl 10 (by decide) (hts (.fieldLink RX15 104 "MotionSignsModel" "a9" "LMotionSignsModel$Big;") (List.mem_of_getElem? (i := 16) rfl)) (fun _ h9 => h9) rfl hin rfl (tyX15_ok 10 (by decide)) rfl rfl (mF.lt hF (by decide)) dX15_init_141 ?_
  clear hP hD hS; try clear H
  intro H locs hP hD hS
  have hF1 := mF.pass hF 10 (.ref q_28) (by decide) rfl
  replace hP : va_P (dC, dI) vwCl [(h0, .inr (15, (fs_27.set 10 (.ref q_28)))), (q_28, .inr (12, f_29))] H := hP
  replace hD : va_D A [(h0, .inr (15, (fs_27.set 10 (.ref q_28)))), (q_28, .inr (12, f_29))] := hD
  generalize fs_27.set 10 (.ref q_28) = fs_30 at hP hD hF1
  replace hF : mF 89 [(0, .int 0), (17, .int 0), (18, .int 0), (19, .int 0), (20, .int 0), (21, .int 0), (22, .int 0), (23, .int 0), (24, .int 0), (25, .int 0), (27, .int 0), (28, .int 0), (29, .int 0), (35, .int 0)] fs_30 := hF1
  clear hF1
  replace hP : va_P (dC, dI) vwCl [(h0, .inr (15, fs_30)), (q_28, .inr (12, f_29))] H := hP
  replace hD : va_D A [(h0, .inr (15, fs_30)), (q_28, .inr (12, f_29))] := hD
  replace hP := hP.sub (ws' := [(h0, .inr (15, fs_30))]) [0] rfl
  replace hD := hD.sub (ws' := [(h0, .inr (15, fs_30))]) [0] (by decide) rfl
  refine lv_aload_n hx hb dX15_init_144 rfl (lv_at hl 0 rfl) ?_
  refine va_new (ci := 14) (fs := [.null, .null, .int 0, .int 0, .null]) (C := RX14) (T := TX14) (N := 5) hx hb hts (in_X15_init_X14) tyX14 tyX14_ok hown (hts (.classLink RX15 43 RX14) (List.mem_of_getElem? (i := 17) rfl)) (hts (.instantiable RX14 5) (List.mem_of_getElem? (i := 18) rfl)) (hts (.initialized RX14) (List.mem_of_getElem? (i := 19) rfl)) hK hP hD hS hA rfl (fun j hj => by rcases (show j = 0 ∨ j = 1 ∨ j = 2 ∨ j = 3 ∨ j = 4 by omega) with rfl | rfl | rfl | rfl | rfl <;> rfl) (Nat.le_of_ble_eq_true rfl) (Nat.le_of_ble_eq_true rfl) dX15_init_145 ?_
  clear hP hD hS; try clear H
  intro q_31 H hP hD hS
  replace hP : va_P (dC, dI) vwCl [(h0, .inr (15, fs_30)), (q_31, .inr (14, [.null, .null, .int 0, .int 0, .null]))] H := hP
  replace hD : va_D A [(h0, .inr (15, fs_30)), (q_31, .inr (14, [.null, .null, .int 0, .int 0, .null]))] := hD
  refine lv_dup hx hb dX15_init_148 rfl ?_
  refine lv_aload_n hx hb dX15_init_149 rfl (lv_at hl 0 rfl) ?_
  have hPc := hP.sub (ws' := [(q_31, .inr (14, [.null, .null, .int 0, .int 0, .null]))]) [1] rfl
  have hDc := hD.sub (ws' := [(q_31, .inr (14, [.null, .null, .int 0, .int 0, .null]))]) [1] (by decide) rfl
  have hKc := hK.sub (tys' := []) [] rfl
  have hFc := va_free (wc := [(q_31, .inr (14, [.null, .null, .int 0, .int 0, .null]))]) hD hS hA [1] rfl
  refine va_callv (va_runIN (As := [.ref h0]) (rest := [.ref q_31, .ref h0]) ⟨hx, hb, hml, hown, hts⟩ (c_X14_init l dC dI q_31 h0 H.size) ⟨va_cnB 1 hts gM15_T14 rfl rfl rfl (hN.1 (RX15, 107, yX14_init, RX15) (List.mem_of_getElem? (i := 26) rfl)) (hts (.initialized RX14) (List.mem_of_getElem? (i := 19) rfl)) hd_X14_init ⟨Nat.le_of_ble_eq_true rfl, Nat.le_of_ble_eq_true rfl⟩, rfl, (hts (.instanceMethod yX14_init) (List.mem_of_getElem? (i := 93) rfl))⟩ ⟨fun a U g mk q => by obtain ⟨q0, q1, qP, qK, qD, qE0⟩ := q; exact ⟨q0, q1, qP, va_K.moved (u := U) (U := U.calling g mk a) (Vm.Alike.refl U.vm) qK, qD, w_N.same rfl qE0⟩, fun U hU hW => ⟨rfl, by rw [hU], by rw [hU]; exact hPc, va_K.moved hW.alike hKc, hDc.weaken (fun _ _ _ _ => trivial), w_N.warm hW hN⟩⟩ rfl rfl hl.1 rfl (lv_room (Nat.le_of_ble_eq_true rfl)) dX15_init_150 ⟨(Nat.le_of_ble_eq_true rfl), (Nat.le_of_ble_eq_true rfl)⟩) hS (fun q _ h => hFc q h) hFc (fun u t H1 locs1 ht hvm hw hB hz1 hk1 hS1 => ?_)
  obtain ⟨hP1, hK1, hD1⟩ := hB
  rw [ht] at hP1
  have hK1 := va_K.moved hvm.symm hK1
  have hJ := va_join (wr := [(h0, .inr (15, fs_30))]) (w1 := []) hP hD [1] [0] rfl rfl (by decide) (by decide) hk1 hFc hP1 hD1
  clear hP hD hPc hDc hKc hFc hz1 hw; try clear hk1
  obtain ⟨hP, hD⟩ := hJ
  replace hK := (hK.sub (tys' := []) [] rfl).app (hK1.sub (tys' := []) [] rfl)
  clear hP1 hK1 hD1 hvm ht hS; try clear t
  try clear H
  revert hS1
  intro hS
  generalize H1 = H at hP hS ⊢; try clear H1
  replace hP : va_P (dC, dI) vwCl [(h0, .inr (15, fs_30))] H := hP
  replace hD : va_D A [(h0, .inr (15, fs_30))] := hD
  replace hK : va_K (dC, dI) vwCl [] s := hK
  refine va_putF (D := (dC, dI)) (ci := 15) (v := .ref q_31) (ty := .object "MotionSignsModel$Table") (C := RX15) (T := TX15) (N := 89) hx hb hts (in_X15_init_X15) tyX15 tyX15_ok nmX15 hown hK hP hD hS 0 rfl rfl 11 (by decide) (hts (.fieldLink RX15 38 "MotionSignsModel" "table" "LMotionSignsModel$Table;") (List.mem_of_getElem? (i := 20) rfl)) (fun _ h9 => h9) rfl hin rfl (tyX15_ok 11 (by decide)) rfl rfl (mF.lt hF (by decide)) dX15_init_153 ?_
  clear hP hD hS; try clear H
  intro H locs hP hD hS
  have hF1 := mF.pass hF 11 (.ref q_31) (by decide) rfl
  replace hP : va_P (dC, dI) vwCl [(h0, .inr (15, (fs_30.set 11 (.ref q_31))))] H := hP
  replace hD : va_D A [(h0, .inr (15, (fs_30.set 11 (.ref q_31))))] := hD
  generalize fs_30.set 11 (.ref q_31) = fs_32 at hP hD hF1
  replace hF : mF 89 [(0, .int 0), (17, .int 0), (18, .int 0), (19, .int 0), (20, .int 0), (21, .int 0), (22, .int 0), (23, .int 0), (24, .int 0), (25, .int 0), (27, .int 0), (28, .int 0), (29, .int 0), (35, .int 0)] fs_32 := hF1
  clear hF1
  replace hP : va_P (dC, dI) vwCl [(h0, .inr (15, fs_32))] H := hP
  replace hD : va_D A [(h0, .inr (15, fs_32))] := hD
  exact kont fs_32 H locs ls hP hD hK hS hl hF
set_option maxHeartbeats 40000000 in
set_option maxRecDepth 100000 in
/-- the reference: MotionSignsModel(), rows 156 to 229 -/
theorem c_X15_init_s1 {p : Program} {l : Launch} {e : Env} {s : State} {m : MethodId} {below : List Frame} {meth : Method} {c : Code} {A : Nat → Prop} {Q0 : State → Prop} {dC : Nat → ClassId} {dI : Nat → Nat → Nat} {h0 : Nat} {fs_32 : List Value} (hx : p.tables.exec = Jvm.exec) (hb : c.code = cX15_init) (hml : c.maxLocals = 3) (hts : ∀ w ∈ wsM15, w.before ([.ref h0] : List Value).toArray s = true) (hown : s.vm.findClass RX15 = some m.cls) (hin : meth.name = "<init>") (hA : ∀ q : Nat, s.heap.size ≤ q → A q) (hN : w_N s) {H : Heap} {locs : List Loc} {ls : Array Slot} (hP : va_P (dC, dI) vwCl [(h0, .inr (15, fs_32))] H) (hD : va_D A [(h0, .inr (15, fs_32))]) (hK : va_K (dC, dI) vwCl [] s) (hS : va_S A s.heap H locs) (hl : lv_has ls 3 [(0, .ref h0)]) (hF : mF 89 [(0, .int 0), (17, .int 0), (18, .int 0), (19, .int 0), (20, .int 0), (21, .int 0), (22, .int 0), (23, .int 0), (24, .int 0), (25, .int 0), (27, .int 0), (28, .int 0), (29, .int 0), (35, .int 0)] fs_32) (kont : ∀ (fs_56 : List Value) (q_39 : Nat) (k_40 : Nat) (q_35 : Nat) (k_36 : Nat) (q_47 : Nat) (k_48 : Nat) (q_50 : Nat) (q_51 : Nat) (q_52 : Nat) (q_53 : Nat) (q_54 : Nat) (k_55 : Nat) (k_37 : Nat) (H : Heap) (locs : List Loc) (ls : Array Slot), va_P (dC, dI) vwCl ([(h0, .inr (15, fs_56)), (q_39, .inl (k_40, 30, .inr (.inr (.inr (.inr (fun _ => none)))))), (q_35, .inl (k_36, 30, .inr (.inr (.inr (.inr (fun i => if i < 30 then some (q_35 + 1 + i) else none)))))), (q_47, .inl (k_48, 200, .inl (fun _ => 0))), (q_50, .inr (13, [.ref q_51, .ref q_52, .ref q_53, .ref q_54, .int 0])), (q_53, .inl (k_55, 128, .inl (fun _ => 0)))] ++ va_pl ((List.range 30).map (fun i => q_35 + 1 + i)) (fun _ => .inl (k_37, 30, .inr (.inr (.inr (.inr (fun _ => none))))))) H → va_D A ([(h0, .inr (15, fs_56)), (q_39, .inl (k_40, 30, .inr (.inr (.inr (.inr (fun _ => none)))))), (q_35, .inl (k_36, 30, .inr (.inr (.inr (.inr (fun i => if i < 30 then some (q_35 + 1 + i) else none)))))), (q_47, .inl (k_48, 200, .inl (fun _ => 0))), (q_50, .inr (13, [.ref q_51, .ref q_52, .ref q_53, .ref q_54, .int 0])), (q_53, .inl (k_55, 128, .inl (fun _ => 0)))] ++ va_pl ((List.range 30).map (fun i => q_35 + 1 + i)) (fun _ => .inl (k_37, 30, .inr (.inr (.inr (.inr (fun _ => none))))))) → va_K (dC, dI) vwCl [(k_36, .array (.object RX12)), (k_37, .object RX12), (k_40, .object RX12), (k_48, .int), (k_55, .int)] s → va_S A s.heap H locs → lv_has ls 3 [(0, .ref h0)] → mF 89 [(30, .ref q_50), (26, .ref q_47), (20, .int (-1)), (17, .int (-1)), (14, .ref q_39), (13, .ref q_35), (0, .int 0), (18, .int 0), (19, .int 0), (21, .int 0), (22, .int 0), (23, .int 0), (24, .int 0), (25, .int 0), (27, .int 0), (28, .int 0), (29, .int 0), (35, .int 0)] fs_56 → W p l e ({ frames := 3, cells := 7193, slots := 3261971, locals := 56 } : Room) s m ([.ref h0] : List Value).toArray below meth c H locs 3725 497575 Q0 (F0 m 229 ls [])) : W p l e ({ frames := 3, cells := 7193, slots := 3261971, locals := 56 } : Room) s m ([.ref h0] : List Value).toArray below meth c H locs 1853 249395 Q0 (F0 m 156 ls []) := by
  refine lv_aload_n hx hb dX15_init_156 rfl (lv_at hl 0 rfl) ?_
  refine va_new (ci := 14) (fs := [.null, .null, .int 0, .int 0, .null]) (C := RX14) (T := TX14) (N := 5) hx hb hts (in_X15_init_X14) tyX14 tyX14_ok hown (hts (.classLink RX15 43 RX14) (List.mem_of_getElem? (i := 17) rfl)) (hts (.instantiable RX14 5) (List.mem_of_getElem? (i := 18) rfl)) (hts (.initialized RX14) (List.mem_of_getElem? (i := 19) rfl)) hK hP hD hS hA rfl (fun j hj => by rcases (show j = 0 ∨ j = 1 ∨ j = 2 ∨ j = 3 ∨ j = 4 by omega) with rfl | rfl | rfl | rfl | rfl <;> rfl) (Nat.le_of_ble_eq_true rfl) (Nat.le_of_ble_eq_true rfl) dX15_init_157 ?_
  clear hP hD hS; try clear H
  intro q_33 H hP hD hS
  replace hP : va_P (dC, dI) vwCl [(h0, .inr (15, fs_32)), (q_33, .inr (14, [.null, .null, .int 0, .int 0, .null]))] H := hP
  replace hD : va_D A [(h0, .inr (15, fs_32)), (q_33, .inr (14, [.null, .null, .int 0, .int 0, .null]))] := hD
  refine lv_dup hx hb dX15_init_160 rfl ?_
  refine lv_aload_n hx hb dX15_init_161 rfl (lv_at hl 0 rfl) ?_
  have hPc := hP.sub (ws' := [(q_33, .inr (14, [.null, .null, .int 0, .int 0, .null]))]) [1] rfl
  have hDc := hD.sub (ws' := [(q_33, .inr (14, [.null, .null, .int 0, .int 0, .null]))]) [1] (by decide) rfl
  have hKc := hK.sub (tys' := []) [] rfl
  have hFc := va_free (wc := [(q_33, .inr (14, [.null, .null, .int 0, .int 0, .null]))]) hD hS hA [1] rfl
  refine va_callv (va_runIN (As := [.ref h0]) (rest := [.ref q_33, .ref h0]) ⟨hx, hb, hml, hown, hts⟩ (c_X14_init l dC dI q_33 h0 H.size) ⟨va_cnB 1 hts gM15_T14 rfl rfl rfl (hN.1 (RX15, 107, yX14_init, RX15) (List.mem_of_getElem? (i := 26) rfl)) (hts (.initialized RX14) (List.mem_of_getElem? (i := 19) rfl)) hd_X14_init ⟨Nat.le_of_ble_eq_true rfl, Nat.le_of_ble_eq_true rfl⟩, rfl, (hts (.instanceMethod yX14_init) (List.mem_of_getElem? (i := 93) rfl))⟩ ⟨fun a U g mk q => by obtain ⟨q0, q1, qP, qK, qD, qE0⟩ := q; exact ⟨q0, q1, qP, va_K.moved (u := U) (U := U.calling g mk a) (Vm.Alike.refl U.vm) qK, qD, w_N.same rfl qE0⟩, fun U hU hW => ⟨rfl, by rw [hU], by rw [hU]; exact hPc, va_K.moved hW.alike hKc, hDc.weaken (fun _ _ _ _ => trivial), w_N.warm hW hN⟩⟩ rfl rfl hl.1 rfl (lv_room (Nat.le_of_ble_eq_true rfl)) dX15_init_162 ⟨(Nat.le_of_ble_eq_true rfl), (Nat.le_of_ble_eq_true rfl)⟩) hS (fun q _ h => hFc q h) hFc (fun u t H1 locs1 ht hvm hw hB hz1 hk1 hS1 => ?_)
  obtain ⟨hP1, hK1, hD1⟩ := hB
  rw [ht] at hP1
  have hK1 := va_K.moved hvm.symm hK1
  have hJ := va_join (wr := [(h0, .inr (15, fs_32))]) (w1 := []) hP hD [1] [0] rfl rfl (by decide) (by decide) hk1 hFc hP1 hD1
  clear hP hD hPc hDc hKc hFc hz1 hw; try clear hk1
  obtain ⟨hP, hD⟩ := hJ
  replace hK := (hK.sub (tys' := []) [] rfl).app (hK1.sub (tys' := []) [] rfl)
  clear hP1 hK1 hD1 hvm ht hS; try clear t
  try clear H
  revert hS1
  intro hS
  generalize H1 = H at hP hS ⊢; try clear H1
  replace hP : va_P (dC, dI) vwCl [(h0, .inr (15, fs_32))] H := hP
  replace hD : va_D A [(h0, .inr (15, fs_32))] := hD
  replace hK : va_K (dC, dI) vwCl [] s := hK
  refine va_putF (D := (dC, dI)) (ci := 15) (v := .ref q_33) (ty := .object "MotionSignsModel$Table") (C := RX15) (T := TX15) (N := 89) hx hb hts (in_X15_init_X15) tyX15 tyX15_ok nmX15 hown hK hP hD hS 0 rfl rfl 12 (by decide) (hts (.fieldLink RX15 110 "MotionSignsModel" "second" "LMotionSignsModel$Table;") (List.mem_of_getElem? (i := 21) rfl)) (fun _ h9 => h9) rfl hin rfl (tyX15_ok 12 (by decide)) rfl rfl (mF.lt hF (by decide)) dX15_init_165 ?_
  clear hP hD hS; try clear H
  intro H locs hP hD hS
  have hF1 := mF.pass hF 12 (.ref q_33) (by decide) rfl
  replace hP : va_P (dC, dI) vwCl [(h0, .inr (15, (fs_32.set 12 (.ref q_33))))] H := hP
  replace hD : va_D A [(h0, .inr (15, (fs_32.set 12 (.ref q_33))))] := hD
  generalize fs_32.set 12 (.ref q_33) = fs_34 at hP hD hF1
  replace hF : mF 89 [(0, .int 0), (17, .int 0), (18, .int 0), (19, .int 0), (20, .int 0), (21, .int 0), (22, .int 0), (23, .int 0), (24, .int 0), (25, .int 0), (27, .int 0), (28, .int 0), (29, .int 0), (35, .int 0)] fs_34 := hF1
  clear hF1
  replace hP : va_P (dC, dI) vwCl [(h0, .inr (15, fs_34))] H := hP
  replace hD : va_D A [(h0, .inr (15, fs_34))] := hD
  refine lv_aload_n hx hb dX15_init_168 rfl (lv_at hl 0 rfl) ?_
  refine lv_bipush (v := 30) hx hb dX15_init_169 (by decide) ?_
  refine lv_bipush (v := 30) hx hb dX15_init_171 (by decide) ?_
  refine wm_mnaO (C := RX12) (N' := 30) (K' := 30) hx hb (by decide +kernel) (by decide +kernel) hown (hts (.classLink RX15 113 "[[LMotionSignsModel$Big;") (List.mem_of_getElem? (i := 209) rfl)) (hN.2.2.2.2.2.2.2.2.2.1) (hN.2.2.1 RX12 (List.mem_of_getElem? (i := 4) rfl)) hK hP hD hS hA (by decide) (by decide) (by decide) (by decide) (Nat.le_of_ble_eq_true rfl) (Nat.le_of_ble_eq_true rfl) (Nat.le_of_ble_eq_true rfl) (Nat.le_of_ble_eq_true rfl) dX15_init_173 ?_
  clear hP hD hS hK; try clear H
  intro q_35 k_36 k_37 H hK hP hD hS
  replace hP : va_P (dC, dI) vwCl ([(h0, .inr (15, fs_34)), (q_35, .inl (k_36, 30, .inr (.inr (.inr (.inr (fun i => if i < 30 then some (q_35 + 1 + i) else none))))))] ++ va_pl ((List.range 30).map (fun i => q_35 + 1 + i)) (fun _ => .inl (k_37, 30, .inr (.inr (.inr (.inr (fun _ => none))))))) H := hP
  replace hD : va_D A ([(h0, .inr (15, fs_34)), (q_35, .inl (k_36, 30, .inr (.inr (.inr (.inr (fun i => if i < 30 then some (q_35 + 1 + i) else none))))))] ++ va_pl ((List.range 30).map (fun i => q_35 + 1 + i)) (fun _ => .inl (k_37, 30, .inr (.inr (.inr (.inr (fun _ => none))))))) := hD
  replace hK : va_K (dC, dI) vwCl [(k_36, .array (.object RX12)), (k_37, .object RX12)] s := hK
  refine va_putF (D := (dC, dI)) (ci := 15) (v := .ref q_35) (ty := .array (.array (.object "MotionSignsModel$Big"))) (C := RX15) (T := TX15) (N := 89) hx hb hts (in_X15_init_X15) tyX15 tyX15_ok nmX15 hown hK hP hD hS 0 rfl rfl 13 (by decide) (hts (.fieldLink RX15 81 "MotionSignsModel" "base" "[[LMotionSignsModel$Big;") (List.mem_of_getElem? (i := 22) rfl)) (fun _ h9 => h9) rfl hin rfl (tyX15_ok 13 (by decide)) rfl rfl (mF.lt hF (by decide)) dX15_init_177 ?_
  clear hP hD hS; try clear H
  intro H locs hP hD hS
  have hF1 := mF.put hF 13 (.ref q_35) (by decide) rfl
  replace hP : va_P (dC, dI) vwCl ([(h0, .inr (15, (fs_34.set 13 (.ref q_35)))), (q_35, .inl (k_36, 30, .inr (.inr (.inr (.inr (fun i => if i < 30 then some (q_35 + 1 + i) else none))))))] ++ va_pl ((List.range 30).map (fun i => q_35 + 1 + i)) (fun _ => .inl (k_37, 30, .inr (.inr (.inr (.inr (fun _ => none))))))) H := hP
  replace hD : va_D A ([(h0, .inr (15, (fs_34.set 13 (.ref q_35)))), (q_35, .inl (k_36, 30, .inr (.inr (.inr (.inr (fun i => if i < 30 then some (q_35 + 1 + i) else none))))))] ++ va_pl ((List.range 30).map (fun i => q_35 + 1 + i)) (fun _ => .inl (k_37, 30, .inr (.inr (.inr (.inr (fun _ => none))))))) := hD
  generalize fs_34.set 13 (.ref q_35) = fs_38 at hP hD hF1
  replace hF : mF 89 [(13, .ref q_35), (0, .int 0), (17, .int 0), (18, .int 0), (19, .int 0), (20, .int 0), (21, .int 0), (22, .int 0), (23, .int 0), (24, .int 0), (25, .int 0), (27, .int 0), (28, .int 0), (29, .int 0), (35, .int 0)] fs_38 := hF1
  clear hF1
  replace hP : va_P (dC, dI) vwCl ([(h0, .inr (15, fs_38)), (q_35, .inl (k_36, 30, .inr (.inr (.inr (.inr (fun i => if i < 30 then some (q_35 + 1 + i) else none))))))] ++ va_pl ((List.range 30).map (fun i => q_35 + 1 + i)) (fun _ => .inl (k_37, 30, .inr (.inr (.inr (.inr (fun _ => none))))))) H := hP
  replace hD : va_D A ([(h0, .inr (15, fs_38)), (q_35, .inl (k_36, 30, .inr (.inr (.inr (.inr (fun i => if i < 30 then some (q_35 + 1 + i) else none))))))] ++ va_pl ((List.range 30).map (fun i => q_35 + 1 + i)) (fun _ => .inl (k_37, 30, .inr (.inr (.inr (.inr (fun _ => none))))))) := hD
  refine lv_aload_n hx hb dX15_init_180 rfl (lv_at hl 0 rfl) ?_
  refine lv_bipush (v := 30) hx hb dX15_init_181 (by decide) ?_
  refine va_newq (C := RX12) (N' := 30) hx hb hown (hts (.classLink RX15 2 RX12) (List.mem_of_getElem? (i := 4) rfl)) (hN.2.2.1 RX12 (List.mem_of_getElem? (i := 4) rfl)) hK hP hD hS hA (by decide) (by decide) (Nat.le_of_ble_eq_true rfl) (Nat.le_of_ble_eq_true rfl) (Nat.le_of_ble_eq_true rfl) dX15_init_183 ?_
  clear hP hD hS hK; try clear H
  intro q_39 k_40 H hK hP hD hS
  replace hP := va_P.swap hP; replace hD := va_D.swap hD
  replace hP : va_P (dC, dI) vwCl ([(h0, .inr (15, fs_38)), (q_35, .inl (k_36, 30, .inr (.inr (.inr (.inr (fun i => if i < 30 then some (q_35 + 1 + i) else none)))))), (q_39, .inl (k_40, 30, .inr (.inr (.inr (.inr (fun _ => none))))))] ++ va_pl ((List.range 30).map (fun i => q_35 + 1 + i)) (fun _ => .inl (k_37, 30, .inr (.inr (.inr (.inr (fun _ => none))))))) H := hP
  replace hD : va_D A ([(h0, .inr (15, fs_38)), (q_35, .inl (k_36, 30, .inr (.inr (.inr (.inr (fun i => if i < 30 then some (q_35 + 1 + i) else none)))))), (q_39, .inl (k_40, 30, .inr (.inr (.inr (.inr (fun _ => none))))))] ++ va_pl ((List.range 30).map (fun i => q_35 + 1 + i)) (fun _ => .inl (k_37, 30, .inr (.inr (.inr (.inr (fun _ => none))))))) := hD
  replace hK : va_K (dC, dI) vwCl [(k_36, .array (.object RX12)), (k_37, .object RX12), (k_40, .object RX12)] s := hK
  refine va_putF (D := (dC, dI)) (ci := 15) (v := .ref q_39) (ty := .array (.object "MotionSignsModel$Big")) (C := RX15) (T := TX15) (N := 89) hx hb hts (in_X15_init_X15) tyX15 tyX15_ok nmX15 hown hK hP hD hS 0 rfl rfl 14 (by decide) (hts (.fieldLink RX15 114 "MotionSignsModel" "hand" "[LMotionSignsModel$Big;") (List.mem_of_getElem? (i := 23) rfl)) (fun _ h9 => h9) rfl hin rfl (tyX15_ok 14 (by decide)) rfl rfl (mF.lt hF (by decide)) dX15_init_186 ?_
  clear hP hD hS; try clear H
  intro H locs hP hD hS
  have hF1 := mF.put hF 14 (.ref q_39) (by decide) rfl
  replace hP : va_P (dC, dI) vwCl ([(h0, .inr (15, (fs_38.set 14 (.ref q_39)))), (q_35, .inl (k_36, 30, .inr (.inr (.inr (.inr (fun i => if i < 30 then some (q_35 + 1 + i) else none)))))), (q_39, .inl (k_40, 30, .inr (.inr (.inr (.inr (fun _ => none))))))] ++ va_pl ((List.range 30).map (fun i => q_35 + 1 + i)) (fun _ => .inl (k_37, 30, .inr (.inr (.inr (.inr (fun _ => none))))))) H := hP
  replace hD : va_D A ([(h0, .inr (15, (fs_38.set 14 (.ref q_39)))), (q_35, .inl (k_36, 30, .inr (.inr (.inr (.inr (fun i => if i < 30 then some (q_35 + 1 + i) else none)))))), (q_39, .inl (k_40, 30, .inr (.inr (.inr (.inr (fun _ => none))))))] ++ va_pl ((List.range 30).map (fun i => q_35 + 1 + i)) (fun _ => .inl (k_37, 30, .inr (.inr (.inr (.inr (fun _ => none))))))) := hD
  generalize fs_38.set 14 (.ref q_39) = fs_41 at hP hD hF1
  replace hF : mF 89 [(14, .ref q_39), (13, .ref q_35), (0, .int 0), (17, .int 0), (18, .int 0), (19, .int 0), (20, .int 0), (21, .int 0), (22, .int 0), (23, .int 0), (24, .int 0), (25, .int 0), (27, .int 0), (28, .int 0), (29, .int 0), (35, .int 0)] fs_41 := hF1
  clear hF1
  replace hP : va_P (dC, dI) vwCl ([(h0, .inr (15, fs_41)), (q_35, .inl (k_36, 30, .inr (.inr (.inr (.inr (fun i => if i < 30 then some (q_35 + 1 + i) else none)))))), (q_39, .inl (k_40, 30, .inr (.inr (.inr (.inr (fun _ => none))))))] ++ va_pl ((List.range 30).map (fun i => q_35 + 1 + i)) (fun _ => .inl (k_37, 30, .inr (.inr (.inr (.inr (fun _ => none))))))) H := hP
  replace hD : va_D A ([(h0, .inr (15, fs_41)), (q_35, .inl (k_36, 30, .inr (.inr (.inr (.inr (fun i => if i < 30 then some (q_35 + 1 + i) else none)))))), (q_39, .inl (k_40, 30, .inr (.inr (.inr (.inr (fun _ => none))))))] ++ va_pl ((List.range 30).map (fun i => q_35 + 1 + i)) (fun _ => .inl (k_37, 30, .inr (.inr (.inr (.inr (fun _ => none))))))) := hD
  refine lv_aload_n hx hb dX15_init_189 rfl (lv_at hl 0 rfl) ?_
  refine lv_bipush (v := 30) hx hb dX15_init_190 (by decide) ?_
  refine va_newa (atype := .int) (ty := .int) (N' := 30) (a0 := (30, .inl (fun _ => 0))) hx hb (hts (.arrayClass .int) (List.mem_of_getElem? (i := 24) rfl)) rfl hK hP hD hS hA (fun _ => rfl) (by decide) (by decide) (Nat.le_of_ble_eq_true rfl) (Nat.le_of_ble_eq_true rfl) (Nat.le_of_ble_eq_true rfl) dX15_init_192 ?_
  clear hP hD hS hK; try clear H
  intro q_42 k_43 H hK hP hD hS
  replace hP := va_P.swap hP; replace hD := va_D.swap hD
  replace hP : va_P (dC, dI) vwCl ([(h0, .inr (15, fs_41)), (q_35, .inl (k_36, 30, .inr (.inr (.inr (.inr (fun i => if i < 30 then some (q_35 + 1 + i) else none)))))), (q_39, .inl (k_40, 30, .inr (.inr (.inr (.inr (fun _ => none)))))), (q_42, .inl (k_43, 30, .inl (fun _ => 0)))] ++ va_pl ((List.range 30).map (fun i => q_35 + 1 + i)) (fun _ => .inl (k_37, 30, .inr (.inr (.inr (.inr (fun _ => none))))))) H := hP
  replace hD : va_D A ([(h0, .inr (15, fs_41)), (q_35, .inl (k_36, 30, .inr (.inr (.inr (.inr (fun i => if i < 30 then some (q_35 + 1 + i) else none)))))), (q_39, .inl (k_40, 30, .inr (.inr (.inr (.inr (fun _ => none)))))), (q_42, .inl (k_43, 30, .inl (fun _ => 0)))] ++ va_pl ((List.range 30).map (fun i => q_35 + 1 + i)) (fun _ => .inl (k_37, 30, .inr (.inr (.inr (.inr (fun _ => none))))))) := hD
  replace hK : va_K (dC, dI) vwCl [(k_36, .array (.object RX12)), (k_37, .object RX12), (k_40, .object RX12), (k_43, .int)] s := hK
  refine va_putF (D := (dC, dI)) (ci := 15) (v := .ref q_42) (ty := .array .int) (C := RX15) (T := TX15) (N := 89) hx hb hts (in_X15_init_X15) tyX15 tyX15_ok nmX15 hown hK hP hD hS 0 rfl rfl 15 (by decide) (hts (.fieldLink RX15 84 "MotionSignsModel" "lead" "[I") (List.mem_of_getElem? (i := 25) rfl)) (fun _ h9 => h9) rfl hin rfl (tyX15_ok 15 (by decide)) rfl rfl (mF.lt hF (by decide)) dX15_init_194 ?_
  clear hP hD hS; try clear H
  intro H locs hP hD hS
  have hF1 := mF.pass hF 15 (.ref q_42) (by decide) rfl
  replace hP : va_P (dC, dI) vwCl ([(h0, .inr (15, (fs_41.set 15 (.ref q_42)))), (q_35, .inl (k_36, 30, .inr (.inr (.inr (.inr (fun i => if i < 30 then some (q_35 + 1 + i) else none)))))), (q_39, .inl (k_40, 30, .inr (.inr (.inr (.inr (fun _ => none)))))), (q_42, .inl (k_43, 30, .inl (fun _ => 0)))] ++ va_pl ((List.range 30).map (fun i => q_35 + 1 + i)) (fun _ => .inl (k_37, 30, .inr (.inr (.inr (.inr (fun _ => none))))))) H := hP
  replace hD : va_D A ([(h0, .inr (15, (fs_41.set 15 (.ref q_42)))), (q_35, .inl (k_36, 30, .inr (.inr (.inr (.inr (fun i => if i < 30 then some (q_35 + 1 + i) else none)))))), (q_39, .inl (k_40, 30, .inr (.inr (.inr (.inr (fun _ => none)))))), (q_42, .inl (k_43, 30, .inl (fun _ => 0)))] ++ va_pl ((List.range 30).map (fun i => q_35 + 1 + i)) (fun _ => .inl (k_37, 30, .inr (.inr (.inr (.inr (fun _ => none))))))) := hD
  generalize fs_41.set 15 (.ref q_42) = fs_44 at hP hD hF1
  replace hF : mF 89 [(14, .ref q_39), (13, .ref q_35), (0, .int 0), (17, .int 0), (18, .int 0), (19, .int 0), (20, .int 0), (21, .int 0), (22, .int 0), (23, .int 0), (24, .int 0), (25, .int 0), (27, .int 0), (28, .int 0), (29, .int 0), (35, .int 0)] fs_44 := hF1
  clear hF1
  replace hP : va_P (dC, dI) vwCl ([(h0, .inr (15, fs_44)), (q_35, .inl (k_36, 30, .inr (.inr (.inr (.inr (fun i => if i < 30 then some (q_35 + 1 + i) else none)))))), (q_39, .inl (k_40, 30, .inr (.inr (.inr (.inr (fun _ => none)))))), (q_42, .inl (k_43, 30, .inl (fun _ => 0)))] ++ va_pl ((List.range 30).map (fun i => q_35 + 1 + i)) (fun _ => .inl (k_37, 30, .inr (.inr (.inr (.inr (fun _ => none))))))) H := hP
  replace hD : va_D A ([(h0, .inr (15, fs_44)), (q_35, .inl (k_36, 30, .inr (.inr (.inr (.inr (fun i => if i < 30 then some (q_35 + 1 + i) else none)))))), (q_39, .inl (k_40, 30, .inr (.inr (.inr (.inr (fun _ => none)))))), (q_42, .inl (k_43, 30, .inl (fun _ => 0)))] ++ va_pl ((List.range 30).map (fun i => q_35 + 1 + i)) (fun _ => .inl (k_37, 30, .inr (.inr (.inr (.inr (fun _ => none))))))) := hD
  replace hP := wm_subP (X' := [(h0, .inr (15, fs_44)), (q_39, .inl (k_40, 30, .inr (.inr (.inr (.inr (fun _ => none)))))), (q_35, .inl (k_36, 30, .inr (.inr (.inr (.inr (fun i => if i < 30 then some (q_35 + 1 + i) else none))))))]) hP [0, 2, 1] rfl
  replace hD := wm_subD (X' := [(h0, .inr (15, fs_44)), (q_39, .inl (k_40, 30, .inr (.inr (.inr (.inr (fun _ => none)))))), (q_35, .inl (k_36, 30, .inr (.inr (.inr (.inr (fun i => if i < 30 then some (q_35 + 1 + i) else none))))))]) hD [0, 2, 1] (by decide) rfl
  replace hK := hK.sub (tys' := [(k_36, .array (.object RX12)), (k_37, .object RX12), (k_40, .object RX12)]) [0, 1, 2] rfl
  refine lv_aload_n hx hb dX15_init_197 rfl (lv_at hl 0 rfl) ?_
  refine lv_iconst (v := -1) hx hb dX15_init_198 (by decide) ?_
  refine va_put (D := (dC, dI)) (ci := 15) (v := .int (-1)) (ty := .int) (C := RX15) (T := TX15) (N := 89) hx hb hts (in_X15_init_X15) tyX15 tyX15_ok nmX15 hown hK hP hD hS 0 rfl rfl 17 (by decide) (hts (.fieldLink RX15 118 "MotionSignsModel" "baseDegree" "I") (List.mem_of_getElem? (i := 26) rfl)) (fun _ h9 => h9) rfl (tyX15_ok 17 (by decide)) rfl rfl (mF.lt hF (by decide)) dX15_init_199 ?_
  clear hP hD hS; try clear H
  intro H locs hP hD hS
  have hF0 := mF.sub (L' := [(14, .ref q_39), (13, .ref q_35), (0, .int 0), (18, .int 0), (19, .int 0), (20, .int 0), (21, .int 0), (22, .int 0), (23, .int 0), (24, .int 0), (25, .int 0), (27, .int 0), (28, .int 0), (29, .int 0), (35, .int 0)]) hF [0, 1, 2, 4, 5, 6, 7, 8, 9, 10, 11, 12, 13, 14, 15] rfl
  have hF1 := mF.put hF0 17 (.int (-1)) (by decide) rfl
  replace hP : va_P (dC, dI) vwCl ([(h0, .inr (15, (fs_44.set 17 (.int (-1))))), (q_39, .inl (k_40, 30, .inr (.inr (.inr (.inr (fun _ => none)))))), (q_35, .inl (k_36, 30, .inr (.inr (.inr (.inr (fun i => if i < 30 then some (q_35 + 1 + i) else none))))))] ++ va_pl ((List.range 30).map (fun i => q_35 + 1 + i)) (fun _ => .inl (k_37, 30, .inr (.inr (.inr (.inr (fun _ => none))))))) H := hP
  replace hD : va_D A ([(h0, .inr (15, (fs_44.set 17 (.int (-1))))), (q_39, .inl (k_40, 30, .inr (.inr (.inr (.inr (fun _ => none)))))), (q_35, .inl (k_36, 30, .inr (.inr (.inr (.inr (fun i => if i < 30 then some (q_35 + 1 + i) else none))))))] ++ va_pl ((List.range 30).map (fun i => q_35 + 1 + i)) (fun _ => .inl (k_37, 30, .inr (.inr (.inr (.inr (fun _ => none))))))) := hD
  generalize fs_44.set 17 (.int (-1)) = fs_45 at hP hD hF1
  replace hF : mF 89 [(17, .int (-1)), (14, .ref q_39), (13, .ref q_35), (0, .int 0), (18, .int 0), (19, .int 0), (20, .int 0), (21, .int 0), (22, .int 0), (23, .int 0), (24, .int 0), (25, .int 0), (27, .int 0), (28, .int 0), (29, .int 0), (35, .int 0)] fs_45 := hF1
  clear hF1 hF0
  replace hP : va_P (dC, dI) vwCl ([(h0, .inr (15, fs_45)), (q_39, .inl (k_40, 30, .inr (.inr (.inr (.inr (fun _ => none)))))), (q_35, .inl (k_36, 30, .inr (.inr (.inr (.inr (fun i => if i < 30 then some (q_35 + 1 + i) else none))))))] ++ va_pl ((List.range 30).map (fun i => q_35 + 1 + i)) (fun _ => .inl (k_37, 30, .inr (.inr (.inr (.inr (fun _ => none))))))) H := hP
  replace hD : va_D A ([(h0, .inr (15, fs_45)), (q_39, .inl (k_40, 30, .inr (.inr (.inr (.inr (fun _ => none)))))), (q_35, .inl (k_36, 30, .inr (.inr (.inr (.inr (fun i => if i < 30 then some (q_35 + 1 + i) else none))))))] ++ va_pl ((List.range 30).map (fun i => q_35 + 1 + i)) (fun _ => .inl (k_37, 30, .inr (.inr (.inr (.inr (fun _ => none))))))) := hD
  refine lv_aload_n hx hb dX15_init_202 rfl (lv_at hl 0 rfl) ?_
  refine lv_iconst (v := -1) hx hb dX15_init_203 (by decide) ?_
  refine va_put (D := (dC, dI)) (ci := 15) (v := .int (-1)) (ty := .int) (C := RX15) (T := TX15) (N := 89) hx hb hts (in_X15_init_X15) tyX15 tyX15_ok nmX15 hown hK hP hD hS 0 rfl rfl 20 (by decide) (hts (.fieldLink RX15 121 "MotionSignsModel" "place" "I") (List.mem_of_getElem? (i := 27) rfl)) (fun _ h9 => h9) rfl (tyX15_ok 20 (by decide)) rfl rfl (mF.lt hF (by decide)) dX15_init_204 ?_
  clear hP hD hS; try clear H
  intro H locs hP hD hS
  have hF0 := mF.sub (L' := [(17, .int (-1)), (14, .ref q_39), (13, .ref q_35), (0, .int 0), (18, .int 0), (19, .int 0), (21, .int 0), (22, .int 0), (23, .int 0), (24, .int 0), (25, .int 0), (27, .int 0), (28, .int 0), (29, .int 0), (35, .int 0)]) hF [0, 1, 2, 3, 4, 5, 7, 8, 9, 10, 11, 12, 13, 14, 15] rfl
  have hF1 := mF.put hF0 20 (.int (-1)) (by decide) rfl
  replace hP : va_P (dC, dI) vwCl ([(h0, .inr (15, (fs_45.set 20 (.int (-1))))), (q_39, .inl (k_40, 30, .inr (.inr (.inr (.inr (fun _ => none)))))), (q_35, .inl (k_36, 30, .inr (.inr (.inr (.inr (fun i => if i < 30 then some (q_35 + 1 + i) else none))))))] ++ va_pl ((List.range 30).map (fun i => q_35 + 1 + i)) (fun _ => .inl (k_37, 30, .inr (.inr (.inr (.inr (fun _ => none))))))) H := hP
  replace hD : va_D A ([(h0, .inr (15, (fs_45.set 20 (.int (-1))))), (q_39, .inl (k_40, 30, .inr (.inr (.inr (.inr (fun _ => none)))))), (q_35, .inl (k_36, 30, .inr (.inr (.inr (.inr (fun i => if i < 30 then some (q_35 + 1 + i) else none))))))] ++ va_pl ((List.range 30).map (fun i => q_35 + 1 + i)) (fun _ => .inl (k_37, 30, .inr (.inr (.inr (.inr (fun _ => none))))))) := hD
  generalize fs_45.set 20 (.int (-1)) = fs_46 at hP hD hF1
  replace hF : mF 89 [(20, .int (-1)), (17, .int (-1)), (14, .ref q_39), (13, .ref q_35), (0, .int 0), (18, .int 0), (19, .int 0), (21, .int 0), (22, .int 0), (23, .int 0), (24, .int 0), (25, .int 0), (27, .int 0), (28, .int 0), (29, .int 0), (35, .int 0)] fs_46 := hF1
  clear hF1 hF0
  replace hP : va_P (dC, dI) vwCl ([(h0, .inr (15, fs_46)), (q_39, .inl (k_40, 30, .inr (.inr (.inr (.inr (fun _ => none)))))), (q_35, .inl (k_36, 30, .inr (.inr (.inr (.inr (fun i => if i < 30 then some (q_35 + 1 + i) else none))))))] ++ va_pl ((List.range 30).map (fun i => q_35 + 1 + i)) (fun _ => .inl (k_37, 30, .inr (.inr (.inr (.inr (fun _ => none))))))) H := hP
  replace hD : va_D A ([(h0, .inr (15, fs_46)), (q_39, .inl (k_40, 30, .inr (.inr (.inr (.inr (fun _ => none)))))), (q_35, .inl (k_36, 30, .inr (.inr (.inr (.inr (fun i => if i < 30 then some (q_35 + 1 + i) else none))))))] ++ va_pl ((List.range 30).map (fun i => q_35 + 1 + i)) (fun _ => .inl (k_37, 30, .inr (.inr (.inr (.inr (fun _ => none))))))) := hD
  refine lv_aload_n hx hb dX15_init_207 rfl (lv_at hl 0 rfl) ?_
  refine lv_sipush (v := 200) hx hb dX15_init_208 (by decide) ?_
  refine va_newa (atype := .int) (ty := .int) (N' := 200) (a0 := (200, .inl (fun _ => 0))) hx hb (hts (.arrayClass .int) (List.mem_of_getElem? (i := 24) rfl)) rfl hK hP hD hS hA (fun _ => rfl) (by decide) (by decide) (Nat.le_of_ble_eq_true rfl) (Nat.le_of_ble_eq_true rfl) (Nat.le_of_ble_eq_true rfl) dX15_init_211 ?_
  clear hP hD hS hK; try clear H
  intro q_47 k_48 H hK hP hD hS
  replace hP := va_P.swap hP; replace hD := va_D.swap hD
  replace hP : va_P (dC, dI) vwCl ([(h0, .inr (15, fs_46)), (q_39, .inl (k_40, 30, .inr (.inr (.inr (.inr (fun _ => none)))))), (q_35, .inl (k_36, 30, .inr (.inr (.inr (.inr (fun i => if i < 30 then some (q_35 + 1 + i) else none)))))), (q_47, .inl (k_48, 200, .inl (fun _ => 0)))] ++ va_pl ((List.range 30).map (fun i => q_35 + 1 + i)) (fun _ => .inl (k_37, 30, .inr (.inr (.inr (.inr (fun _ => none))))))) H := hP
  replace hD : va_D A ([(h0, .inr (15, fs_46)), (q_39, .inl (k_40, 30, .inr (.inr (.inr (.inr (fun _ => none)))))), (q_35, .inl (k_36, 30, .inr (.inr (.inr (.inr (fun i => if i < 30 then some (q_35 + 1 + i) else none)))))), (q_47, .inl (k_48, 200, .inl (fun _ => 0)))] ++ va_pl ((List.range 30).map (fun i => q_35 + 1 + i)) (fun _ => .inl (k_37, 30, .inr (.inr (.inr (.inr (fun _ => none))))))) := hD
  replace hK : va_K (dC, dI) vwCl [(k_36, .array (.object RX12)), (k_37, .object RX12), (k_40, .object RX12), (k_48, .int)] s := hK
  refine va_putF (D := (dC, dI)) (ci := 15) (v := .ref q_47) (ty := .array .int) (C := RX15) (T := TX15) (N := 89) hx hb hts (in_X15_init_X15) tyX15 tyX15_ok nmX15 hown hK hP hD hS 0 rfl rfl 26 (by decide) (hts (.fieldLink RX15 124 "MotionSignsModel" "fed" "[I") (List.mem_of_getElem? (i := 28) rfl)) (fun _ h9 => h9) rfl hin rfl (tyX15_ok 26 (by decide)) rfl rfl (mF.lt hF (by decide)) dX15_init_213 ?_
  clear hP hD hS; try clear H
  intro H locs hP hD hS
  have hF1 := mF.put hF 26 (.ref q_47) (by decide) rfl
  replace hP : va_P (dC, dI) vwCl ([(h0, .inr (15, (fs_46.set 26 (.ref q_47)))), (q_39, .inl (k_40, 30, .inr (.inr (.inr (.inr (fun _ => none)))))), (q_35, .inl (k_36, 30, .inr (.inr (.inr (.inr (fun i => if i < 30 then some (q_35 + 1 + i) else none)))))), (q_47, .inl (k_48, 200, .inl (fun _ => 0)))] ++ va_pl ((List.range 30).map (fun i => q_35 + 1 + i)) (fun _ => .inl (k_37, 30, .inr (.inr (.inr (.inr (fun _ => none))))))) H := hP
  replace hD : va_D A ([(h0, .inr (15, (fs_46.set 26 (.ref q_47)))), (q_39, .inl (k_40, 30, .inr (.inr (.inr (.inr (fun _ => none)))))), (q_35, .inl (k_36, 30, .inr (.inr (.inr (.inr (fun i => if i < 30 then some (q_35 + 1 + i) else none)))))), (q_47, .inl (k_48, 200, .inl (fun _ => 0)))] ++ va_pl ((List.range 30).map (fun i => q_35 + 1 + i)) (fun _ => .inl (k_37, 30, .inr (.inr (.inr (.inr (fun _ => none))))))) := hD
  generalize fs_46.set 26 (.ref q_47) = fs_49 at hP hD hF1
  replace hF : mF 89 [(26, .ref q_47), (20, .int (-1)), (17, .int (-1)), (14, .ref q_39), (13, .ref q_35), (0, .int 0), (18, .int 0), (19, .int 0), (21, .int 0), (22, .int 0), (23, .int 0), (24, .int 0), (25, .int 0), (27, .int 0), (28, .int 0), (29, .int 0), (35, .int 0)] fs_49 := hF1
  clear hF1
  replace hP : va_P (dC, dI) vwCl ([(h0, .inr (15, fs_49)), (q_39, .inl (k_40, 30, .inr (.inr (.inr (.inr (fun _ => none)))))), (q_35, .inl (k_36, 30, .inr (.inr (.inr (.inr (fun i => if i < 30 then some (q_35 + 1 + i) else none)))))), (q_47, .inl (k_48, 200, .inl (fun _ => 0)))] ++ va_pl ((List.range 30).map (fun i => q_35 + 1 + i)) (fun _ => .inl (k_37, 30, .inr (.inr (.inr (.inr (fun _ => none))))))) H := hP
  replace hD : va_D A ([(h0, .inr (15, fs_49)), (q_39, .inl (k_40, 30, .inr (.inr (.inr (.inr (fun _ => none)))))), (q_35, .inl (k_36, 30, .inr (.inr (.inr (.inr (fun i => if i < 30 then some (q_35 + 1 + i) else none)))))), (q_47, .inl (k_48, 200, .inl (fun _ => 0)))] ++ va_pl ((List.range 30).map (fun i => q_35 + 1 + i)) (fun _ => .inl (k_37, 30, .inr (.inr (.inr (.inr (fun _ => none))))))) := hD
  refine lv_aload_n hx hb dX15_init_216 rfl (lv_at hl 0 rfl) ?_
  refine va_new (ci := 13) (fs := [.null, .null, .null, .null, .int 0]) (C := RX13) (T := TX13) (N := 5) hx hb hts (in_X15_init_X13) tyX13 tyX13_ok hown (hts (.classLink RX15 127 RX13) (List.mem_of_getElem? (i := 29) rfl)) (hts (.instantiable RX13 5) (List.mem_of_getElem? (i := 30) rfl)) (hts (.initialized RX13) (List.mem_of_getElem? (i := 31) rfl)) hK hP hD hS hA rfl (fun j hj => by rcases (show j = 0 ∨ j = 1 ∨ j = 2 ∨ j = 3 ∨ j = 4 by omega) with rfl | rfl | rfl | rfl | rfl <;> rfl) (Nat.le_of_ble_eq_true rfl) (Nat.le_of_ble_eq_true rfl) dX15_init_217 ?_
  clear hP hD hS; try clear H
  intro q_50 H hP hD hS
  replace hP := va_P.swap hP; replace hD := va_D.swap hD
  replace hP : va_P (dC, dI) vwCl ([(h0, .inr (15, fs_49)), (q_39, .inl (k_40, 30, .inr (.inr (.inr (.inr (fun _ => none)))))), (q_35, .inl (k_36, 30, .inr (.inr (.inr (.inr (fun i => if i < 30 then some (q_35 + 1 + i) else none)))))), (q_47, .inl (k_48, 200, .inl (fun _ => 0))), (q_50, .inr (13, [.null, .null, .null, .null, .int 0]))] ++ va_pl ((List.range 30).map (fun i => q_35 + 1 + i)) (fun _ => .inl (k_37, 30, .inr (.inr (.inr (.inr (fun _ => none))))))) H := hP
  replace hD : va_D A ([(h0, .inr (15, fs_49)), (q_39, .inl (k_40, 30, .inr (.inr (.inr (.inr (fun _ => none)))))), (q_35, .inl (k_36, 30, .inr (.inr (.inr (.inr (fun i => if i < 30 then some (q_35 + 1 + i) else none)))))), (q_47, .inl (k_48, 200, .inl (fun _ => 0))), (q_50, .inr (13, [.null, .null, .null, .null, .int 0]))] ++ va_pl ((List.range 30).map (fun i => q_35 + 1 + i)) (fun _ => .inl (k_37, 30, .inr (.inr (.inr (.inr (fun _ => none))))))) := hD
  refine lv_dup hx hb dX15_init_220 rfl ?_
  refine lv_bipush (v := 64) hx hb dX15_init_221 (by decide) ?_
  have hPc := hP.sub (ws' := [(q_50, .inr (13, [.null, .null, .null, .null, .int 0]))]) [4] rfl
  have hDc := hD.sub (ws' := [(q_50, .inr (13, [.null, .null, .null, .null, .int 0]))]) [4] (by decide) rfl
  have hKc := hK.sub (tys' := []) [] rfl
  have hFc := va_free (wc := [(q_50, .inr (13, [.null, .null, .null, .null, .int 0]))]) hD hS hA [4] rfl
  refine va_callv (va_runIN (As := [.int 64]) (rest := [.ref q_50, .ref h0]) ⟨hx, hb, hml, hown, hts⟩ (c_X13_init_64 l dC dI q_50 H.size) ⟨va_cnB 1 hts gM15_X13 rfl rfl rfl (hN.1 (RX15, 129, yX13_init, RX15) (List.mem_of_getElem? (i := 28) rfl)) (hts (.initialized RX13) (List.mem_of_getElem? (i := 31) rfl)) hd_X13_init ⟨Nat.le_of_ble_eq_true rfl, Nat.le_of_ble_eq_true rfl⟩, rfl, (hts (.instanceMethod yX13_init) (List.mem_of_getElem? (i := 100) rfl))⟩ ⟨fun a U g mk q => by obtain ⟨q0, q1, qP, qK, qD, qE0⟩ := q; exact ⟨q0, q1, qP, va_K.moved (u := U) (U := U.calling g mk a) (Vm.Alike.refl U.vm) qK, qD, w_N.same rfl qE0⟩, fun U hU hW => ⟨rfl, by rw [hU], by rw [hU]; exact hPc, va_K.moved hW.alike hKc, hDc.weaken (fun _ _ _ _ => trivial), w_N.warm hW hN⟩⟩ rfl rfl hl.1 rfl (lv_room (Nat.le_of_ble_eq_true rfl)) dX15_init_223 ⟨(Nat.le_of_ble_eq_true rfl), (Nat.le_of_ble_eq_true rfl)⟩) hS (fun q _ h => hFc q h) hFc (fun u t H1 locs1 ht hvm hw hB hz1 hk1 hS1 => ?_)
  obtain ⟨q_51, q_52, q_53, q_54, k_55, hP1, hK1, hD1⟩ := hB
  rw [ht] at hP1
  have hK1 := va_K.moved hvm.symm hK1
  have hJ := va_joinQ (wr := [(h0, .inr (15, fs_49)), (q_39, .inl (k_40, 30, .inr (.inr (.inr (.inr (fun _ => none)))))), (q_35, .inl (k_36, 30, .inr (.inr (.inr (.inr (fun i => if i < 30 then some (q_35 + 1 + i) else none)))))), (q_47, .inl (k_48, 200, .inl (fun _ => 0)))]) (w1 := [(q_50, .inr (13, [.ref q_51, .ref q_52, .ref q_53, .ref q_54, .int 0])), (q_53, .inl (k_55, 128, .inl (fun _ => 0)))]) hP hD [4] [0, 1, 2, 3] rfl rfl (by decide) (by decide) hk1 hFc hP1 hD1
  clear hP hD hPc hDc hKc hFc hz1 hw; try clear hk1
  obtain ⟨hP, hD⟩ := hJ
  replace hK := (hK.sub (tys' := [(k_36, .array (.object RX12)), (k_37, .object RX12), (k_40, .object RX12), (k_48, .int)]) [0, 1, 2, 3] rfl).app (hK1.sub (tys' := [(k_55, .int)]) [0] rfl)
  clear hP1 hK1 hD1 hvm ht hS; try clear t
  try clear H
  revert hS1
  intro hS
  generalize H1 = H at hP hS ⊢; try clear H1
  replace hP : va_P (dC, dI) vwCl ([(h0, .inr (15, fs_49)), (q_39, .inl (k_40, 30, .inr (.inr (.inr (.inr (fun _ => none)))))), (q_35, .inl (k_36, 30, .inr (.inr (.inr (.inr (fun i => if i < 30 then some (q_35 + 1 + i) else none)))))), (q_47, .inl (k_48, 200, .inl (fun _ => 0))), (q_50, .inr (13, [.ref q_51, .ref q_52, .ref q_53, .ref q_54, .int 0])), (q_53, .inl (k_55, 128, .inl (fun _ => 0)))] ++ va_pl ((List.range 30).map (fun i => q_35 + 1 + i)) (fun _ => .inl (k_37, 30, .inr (.inr (.inr (.inr (fun _ => none))))))) H := hP
  replace hD : va_D A ([(h0, .inr (15, fs_49)), (q_39, .inl (k_40, 30, .inr (.inr (.inr (.inr (fun _ => none)))))), (q_35, .inl (k_36, 30, .inr (.inr (.inr (.inr (fun i => if i < 30 then some (q_35 + 1 + i) else none)))))), (q_47, .inl (k_48, 200, .inl (fun _ => 0))), (q_50, .inr (13, [.ref q_51, .ref q_52, .ref q_53, .ref q_54, .int 0])), (q_53, .inl (k_55, 128, .inl (fun _ => 0)))] ++ va_pl ((List.range 30).map (fun i => q_35 + 1 + i)) (fun _ => .inl (k_37, 30, .inr (.inr (.inr (.inr (fun _ => none))))))) := hD
  replace hK : va_K (dC, dI) vwCl [(k_36, .array (.object RX12)), (k_37, .object RX12), (k_40, .object RX12), (k_48, .int), (k_55, .int)] s := hK
  refine va_putF (D := (dC, dI)) (ci := 15) (v := .ref q_50) (ty := .object "MotionSignsModel$Poly") (C := RX15) (T := TX15) (N := 89) hx hb hts (in_X15_init_X15) tyX15 tyX15_ok nmX15 hown hK hP hD hS 0 rfl rfl 30 (by decide) (hts (.fieldLink RX15 130 "MotionSignsModel" "f" "LMotionSignsModel$Poly;") (List.mem_of_getElem? (i := 32) rfl)) (fun _ h9 => h9) rfl hin rfl (tyX15_ok 30 (by decide)) rfl rfl (mF.lt hF (by decide)) dX15_init_226 ?_
  clear hP hD hS; try clear H
  intro H locs hP hD hS
  have hF1 := mF.put hF 30 (.ref q_50) (by decide) rfl
  replace hP : va_P (dC, dI) vwCl ([(h0, .inr (15, (fs_49.set 30 (.ref q_50)))), (q_39, .inl (k_40, 30, .inr (.inr (.inr (.inr (fun _ => none)))))), (q_35, .inl (k_36, 30, .inr (.inr (.inr (.inr (fun i => if i < 30 then some (q_35 + 1 + i) else none)))))), (q_47, .inl (k_48, 200, .inl (fun _ => 0))), (q_50, .inr (13, [.ref q_51, .ref q_52, .ref q_53, .ref q_54, .int 0])), (q_53, .inl (k_55, 128, .inl (fun _ => 0)))] ++ va_pl ((List.range 30).map (fun i => q_35 + 1 + i)) (fun _ => .inl (k_37, 30, .inr (.inr (.inr (.inr (fun _ => none))))))) H := hP
  replace hD : va_D A ([(h0, .inr (15, (fs_49.set 30 (.ref q_50)))), (q_39, .inl (k_40, 30, .inr (.inr (.inr (.inr (fun _ => none)))))), (q_35, .inl (k_36, 30, .inr (.inr (.inr (.inr (fun i => if i < 30 then some (q_35 + 1 + i) else none)))))), (q_47, .inl (k_48, 200, .inl (fun _ => 0))), (q_50, .inr (13, [.ref q_51, .ref q_52, .ref q_53, .ref q_54, .int 0])), (q_53, .inl (k_55, 128, .inl (fun _ => 0)))] ++ va_pl ((List.range 30).map (fun i => q_35 + 1 + i)) (fun _ => .inl (k_37, 30, .inr (.inr (.inr (.inr (fun _ => none))))))) := hD
  generalize fs_49.set 30 (.ref q_50) = fs_56 at hP hD hF1
  replace hF : mF 89 [(30, .ref q_50), (26, .ref q_47), (20, .int (-1)), (17, .int (-1)), (14, .ref q_39), (13, .ref q_35), (0, .int 0), (18, .int 0), (19, .int 0), (21, .int 0), (22, .int 0), (23, .int 0), (24, .int 0), (25, .int 0), (27, .int 0), (28, .int 0), (29, .int 0), (35, .int 0)] fs_56 := hF1
  clear hF1
  replace hP : va_P (dC, dI) vwCl ([(h0, .inr (15, fs_56)), (q_39, .inl (k_40, 30, .inr (.inr (.inr (.inr (fun _ => none)))))), (q_35, .inl (k_36, 30, .inr (.inr (.inr (.inr (fun i => if i < 30 then some (q_35 + 1 + i) else none)))))), (q_47, .inl (k_48, 200, .inl (fun _ => 0))), (q_50, .inr (13, [.ref q_51, .ref q_52, .ref q_53, .ref q_54, .int 0])), (q_53, .inl (k_55, 128, .inl (fun _ => 0)))] ++ va_pl ((List.range 30).map (fun i => q_35 + 1 + i)) (fun _ => .inl (k_37, 30, .inr (.inr (.inr (.inr (fun _ => none))))))) H := hP
  replace hD : va_D A ([(h0, .inr (15, fs_56)), (q_39, .inl (k_40, 30, .inr (.inr (.inr (.inr (fun _ => none)))))), (q_35, .inl (k_36, 30, .inr (.inr (.inr (.inr (fun i => if i < 30 then some (q_35 + 1 + i) else none)))))), (q_47, .inl (k_48, 200, .inl (fun _ => 0))), (q_50, .inr (13, [.ref q_51, .ref q_52, .ref q_53, .ref q_54, .int 0])), (q_53, .inl (k_55, 128, .inl (fun _ => 0)))] ++ va_pl ((List.range 30).map (fun i => q_35 + 1 + i)) (fun _ => .inl (k_37, 30, .inr (.inr (.inr (.inr (fun _ => none))))))) := hD
  exact kont fs_56 q_39 k_40 q_35 k_36 q_47 k_48 q_50 q_51 q_52 q_53 q_54 k_55 k_37 H locs ls hP hD hK hS hl hF
set_option maxHeartbeats 40000000 in
set_option maxRecDepth 100000 in
/-- the reference: MotionSignsModel(), rows 229 to 317 -/
theorem c_X15_init_s2 {p : Program} {l : Launch} {e : Env} {s : State} {m : MethodId} {below : List Frame} {meth : Method} {c : Code} {A : Nat → Prop} {Q0 : State → Prop} {dC : Nat → ClassId} {dI : Nat → Nat → Nat} {h0 : Nat} {fs_56 : List Value} {q_50 : Nat} {q_47 : Nat} {q_39 : Nat} {q_35 : Nat} (hx : p.tables.exec = Jvm.exec) (hb : c.code = cX15_init) (hml : c.maxLocals = 3) (hts : ∀ w ∈ wsM15, w.before ([.ref h0] : List Value).toArray s = true) (hown : s.vm.findClass RX15 = some m.cls) (hin : meth.name = "<init>") (hA : ∀ q : Nat, s.heap.size ≤ q → A q) (hN : w_N s) (pl : va_W) {H : Heap} {locs : List Loc} {ls : Array Slot} (hP : va_P (dC, dI) vwCl ([(h0, .inr (15, fs_56))] ++ pl) H) (hD : va_D A ([(h0, .inr (15, fs_56))] ++ pl)) (hK : va_K (dC, dI) vwCl [] s) (hS : va_S A s.heap H locs) (hl : lv_has ls 3 [(0, .ref h0)]) (hF : mF 89 [(30, .ref q_50), (26, .ref q_47), (20, .int (-1)), (17, .int (-1)), (14, .ref q_39), (13, .ref q_35), (0, .int 0), (18, .int 0), (19, .int 0), (21, .int 0), (22, .int 0), (23, .int 0), (24, .int 0), (25, .int 0), (27, .int 0), (28, .int 0), (29, .int 0), (35, .int 0)] fs_56) (kont : ∀ (fs_98 : List Value) (q_57 : Nat) (k_58 : Nat) (q_59 : Nat) (q_65 : Nat) (q_71 : Nat) (q_60 : Nat) (q_61 : Nat) (q_62 : Nat) (q_63 : Nat) (q_66 : Nat) (q_67 : Nat) (q_68 : Nat) (q_69 : Nat) (q_72 : Nat) (q_73 : Nat) (q_74 : Nat) (q_75 : Nat) (H : Heap) (locs : List Loc) (ls : Array Slot), va_P (dC, dI) vwCl ([(h0, .inr (15, fs_98)), (q_57, .inl (k_58, 3, .inr (.inr (.inr (.inr (va_up (va_up (va_up (fun _ => none) (0 : Int32).toNatClampNeg (some q_59)) (1 : Int32).toNatClampNeg (some q_65)) (2 : Int32).toNatClampNeg (some q_71))))))), (q_59, .inr (13, [.ref q_60, .ref q_61, .ref q_62, .ref q_63, .int 0])), (q_65, .inr (13, [.ref q_66, .ref q_67, .ref q_68, .ref q_69, .int 0])), (q_71, .inr (13, [.ref q_72, .ref q_73, .ref q_74, .ref q_75, .int 0]))] ++ pl) H → va_D A ([(h0, .inr (15, fs_98)), (q_57, .inl (k_58, 3, .inr (.inr (.inr (.inr (va_up (va_up (va_up (fun _ => none) (0 : Int32).toNatClampNeg (some q_59)) (1 : Int32).toNatClampNeg (some q_65)) (2 : Int32).toNatClampNeg (some q_71))))))), (q_59, .inr (13, [.ref q_60, .ref q_61, .ref q_62, .ref q_63, .int 0])), (q_65, .inr (13, [.ref q_66, .ref q_67, .ref q_68, .ref q_69, .int 0])), (q_71, .inr (13, [.ref q_72, .ref q_73, .ref q_74, .ref q_75, .int 0]))] ++ pl) → va_K (dC, dI) vwCl [(k_58, .object RX13)] s → va_S A s.heap H locs → lv_has ls 3 [(0, .ref h0)] → mF 89 [(31, .ref q_57), (30, .ref q_50), (26, .ref q_47), (20, .int (-1)), (17, .int (-1)), (14, .ref q_39), (13, .ref q_35), (0, .int 0), (18, .int 0), (19, .int 0), (21, .int 0), (22, .int 0), (23, .int 0), (24, .int 0), (25, .int 0), (27, .int 0), (28, .int 0), (29, .int 0), (35, .int 0)] fs_98 → W p l e ({ frames := 3, cells := 7193, slots := 3261971, locals := 56 } : Room) s m ([.ref h0] : List Value).toArray below meth c H locs 3757 499531 Q0 (F0 m 317 ls [])) : W p l e ({ frames := 3, cells := 7193, slots := 3261971, locals := 56 } : Room) s m ([.ref h0] : List Value).toArray below meth c H locs 3725 497575 Q0 (F0 m 229 ls []) := by
  refine lv_aload_n hx hb dX15_init_229 rfl (lv_at hl 0 rfl) ?_
  refine lv_iconst (v := 3) hx hb dX15_init_230 (by decide) ?_
  refine va_newq (C := RX13) (N' := 3) hx hb hown (hts (.classLink RX15 127 RX13) (List.mem_of_getElem? (i := 29) rfl)) (hN.2.2.1 RX13 (List.mem_of_getElem? (i := 5) rfl)) hK hP hD hS hA (by decide) (by decide) (Nat.le_of_ble_eq_true rfl) (Nat.le_of_ble_eq_true rfl) (Nat.le_of_ble_eq_true rfl) dX15_init_231 ?_
  clear hP hD hS hK; try clear H
  intro q_57 k_58 H hK hP hD hS
  replace hP := va_P.swap hP; replace hD := va_D.swap hD
  replace hP : va_P (dC, dI) vwCl ([(h0, .inr (15, fs_56)), (q_57, .inl (k_58, 3, .inr (.inr (.inr (.inr (fun _ => none))))))] ++ pl) H := hP
  replace hD : va_D A ([(h0, .inr (15, fs_56)), (q_57, .inl (k_58, 3, .inr (.inr (.inr (.inr (fun _ => none))))))] ++ pl) := hD
  replace hK : va_K (dC, dI) vwCl [(k_58, .object RX13)] s := hK
  refine lv_dup hx hb dX15_init_234 rfl ?_
  refine lv_iconst (v := 0) hx hb dX15_init_235 (by decide) ?_
  refine va_new (ci := 13) (fs := [.null, .null, .null, .null, .int 0]) (C := RX13) (T := TX13) (N := 5) hx hb hts (in_X15_init_X13) tyX13 tyX13_ok hown (hts (.classLink RX15 127 RX13) (List.mem_of_getElem? (i := 29) rfl)) (hts (.instantiable RX13 5) (List.mem_of_getElem? (i := 30) rfl)) (hts (.initialized RX13) (List.mem_of_getElem? (i := 31) rfl)) hK hP hD hS hA rfl (fun j hj => by rcases (show j = 0 ∨ j = 1 ∨ j = 2 ∨ j = 3 ∨ j = 4 by omega) with rfl | rfl | rfl | rfl | rfl <;> rfl) (Nat.le_of_ble_eq_true rfl) (Nat.le_of_ble_eq_true rfl) dX15_init_236 ?_
  clear hP hD hS; try clear H
  intro q_59 H hP hD hS
  replace hP := va_P.swap hP; replace hD := va_D.swap hD
  replace hP : va_P (dC, dI) vwCl ([(h0, .inr (15, fs_56)), (q_57, .inl (k_58, 3, .inr (.inr (.inr (.inr (fun _ => none)))))), (q_59, .inr (13, [.null, .null, .null, .null, .int 0]))] ++ pl) H := hP
  replace hD : va_D A ([(h0, .inr (15, fs_56)), (q_57, .inl (k_58, 3, .inr (.inr (.inr (.inr (fun _ => none)))))), (q_59, .inr (13, [.null, .null, .null, .null, .int 0]))] ++ pl) := hD
  refine lv_dup hx hb dX15_init_239 rfl ?_
  refine lv_bipush (v := 64) hx hb dX15_init_240 (by decide) ?_
  have hPc := hP.sub (ws' := [(q_59, .inr (13, [.null, .null, .null, .null, .int 0]))]) [2] rfl
  have hDc := hD.sub (ws' := [(q_59, .inr (13, [.null, .null, .null, .null, .int 0]))]) [2] (by decide) rfl
  have hKc := hK.sub (tys' := []) [] rfl
  have hFc := va_free (wc := [(q_59, .inr (13, [.null, .null, .null, .null, .int 0]))]) hD hS hA [2] rfl
  refine va_callv (va_runIN (As := [.int 64]) (rest := [.ref q_59, .int 0, .ref q_57, .ref q_57, .ref h0]) ⟨hx, hb, hml, hown, hts⟩ (c_X13_init_64 l dC dI q_59 H.size) ⟨va_cnB 1 hts gM15_X13 rfl rfl rfl (hN.1 (RX15, 129, yX13_init, RX15) (List.mem_of_getElem? (i := 28) rfl)) (hts (.initialized RX13) (List.mem_of_getElem? (i := 31) rfl)) hd_X13_init ⟨Nat.le_of_ble_eq_true rfl, Nat.le_of_ble_eq_true rfl⟩, rfl, (hts (.instanceMethod yX13_init) (List.mem_of_getElem? (i := 100) rfl))⟩ ⟨fun a U g mk q => by obtain ⟨q0, q1, qP, qK, qD, qE0⟩ := q; exact ⟨q0, q1, qP, va_K.moved (u := U) (U := U.calling g mk a) (Vm.Alike.refl U.vm) qK, qD, w_N.same rfl qE0⟩, fun U hU hW => ⟨rfl, by rw [hU], by rw [hU]; exact hPc, va_K.moved hW.alike hKc, hDc.weaken (fun _ _ _ _ => trivial), w_N.warm hW hN⟩⟩ rfl rfl hl.1 rfl (lv_room (Nat.le_of_ble_eq_true rfl)) dX15_init_242 ⟨(Nat.le_of_ble_eq_true rfl), (Nat.le_of_ble_eq_true rfl)⟩) hS (fun q _ h => hFc q h) hFc (fun u t H1 locs1 ht hvm hw hB hz1 hk1 hS1 => ?_)
  obtain ⟨q_60, q_61, q_62, q_63, k_64, hP1, hK1, hD1⟩ := hB
  rw [ht] at hP1
  have hK1 := va_K.moved hvm.symm hK1
  have hJ := va_joinQ (wr := [(h0, .inr (15, fs_56)), (q_57, .inl (k_58, 3, .inr (.inr (.inr (.inr (fun _ => none))))))]) (w1 := [(q_59, .inr (13, [.ref q_60, .ref q_61, .ref q_62, .ref q_63, .int 0])), (q_62, .inl (k_64, 128, .inl (fun _ => 0)))]) hP hD [2] [0, 1] rfl rfl (by decide) (by decide) hk1 hFc hP1 hD1
  clear hP hD hPc hDc hKc hFc hz1 hw; try clear hk1
  obtain ⟨hP, hD⟩ := hJ
  replace hK := (hK.sub (tys' := [(k_58, .object RX13)]) [0] rfl).app (hK1.sub (tys' := [(k_64, .int)]) [0] rfl)
  clear hP1 hK1 hD1 hvm ht hS; try clear t
  try clear H
  revert hS1
  intro hS
  generalize H1 = H at hP hS ⊢; try clear H1
  replace hP : va_P (dC, dI) vwCl ([(h0, .inr (15, fs_56)), (q_57, .inl (k_58, 3, .inr (.inr (.inr (.inr (fun _ => none)))))), (q_59, .inr (13, [.ref q_60, .ref q_61, .ref q_62, .ref q_63, .int 0])), (q_62, .inl (k_64, 128, .inl (fun _ => 0)))] ++ pl) H := hP
  replace hD : va_D A ([(h0, .inr (15, fs_56)), (q_57, .inl (k_58, 3, .inr (.inr (.inr (.inr (fun _ => none)))))), (q_59, .inr (13, [.ref q_60, .ref q_61, .ref q_62, .ref q_63, .int 0])), (q_62, .inl (k_64, 128, .inl (fun _ => 0)))] ++ pl) := hD
  replace hK : va_K (dC, dI) vwCl [(k_58, .object RX13), (k_64, .int)] s := hK
  refine va_astq hx hb hK hP hD hS 1 0 2 13 rfl rfl rfl rfl (by exact fun h => by rcases h with h | h <;> revert h <;> decide) dX15_init_245 ?_
  clear hP hD hS; try clear H
  intro H locs hP hD hS
  replace hP : va_P (dC, dI) vwCl ([(h0, .inr (15, fs_56)), (q_57, .inl (k_58, 3, .inr (.inr (.inr (.inr (va_up (fun _ => none) (0 : Int32).toNatClampNeg (some q_59))))))), (q_59, .inr (13, [.ref q_60, .ref q_61, .ref q_62, .ref q_63, .int 0])), (q_62, .inl (k_64, 128, .inl (fun _ => 0)))] ++ pl) H := hP
  replace hD : va_D A ([(h0, .inr (15, fs_56)), (q_57, .inl (k_58, 3, .inr (.inr (.inr (.inr (va_up (fun _ => none) (0 : Int32).toNatClampNeg (some q_59))))))), (q_59, .inr (13, [.ref q_60, .ref q_61, .ref q_62, .ref q_63, .int 0])), (q_62, .inl (k_64, 128, .inl (fun _ => 0)))] ++ pl) := hD
  refine lv_dup hx hb dX15_init_246 rfl ?_
  refine lv_iconst (v := 1) hx hb dX15_init_247 (by decide) ?_
  refine va_new (ci := 13) (fs := [.null, .null, .null, .null, .int 0]) (C := RX13) (T := TX13) (N := 5) hx hb hts (in_X15_init_X13) tyX13 tyX13_ok hown (hts (.classLink RX15 127 RX13) (List.mem_of_getElem? (i := 29) rfl)) (hts (.instantiable RX13 5) (List.mem_of_getElem? (i := 30) rfl)) (hts (.initialized RX13) (List.mem_of_getElem? (i := 31) rfl)) hK hP hD hS hA rfl (fun j hj => by rcases (show j = 0 ∨ j = 1 ∨ j = 2 ∨ j = 3 ∨ j = 4 by omega) with rfl | rfl | rfl | rfl | rfl <;> rfl) (Nat.le_of_ble_eq_true rfl) (Nat.le_of_ble_eq_true rfl) dX15_init_248 ?_
  clear hP hD hS; try clear H
  intro q_65 H hP hD hS
  replace hP := va_P.swap hP; replace hD := va_D.swap hD
  replace hP : va_P (dC, dI) vwCl ([(h0, .inr (15, fs_56)), (q_57, .inl (k_58, 3, .inr (.inr (.inr (.inr (va_up (fun _ => none) (0 : Int32).toNatClampNeg (some q_59))))))), (q_59, .inr (13, [.ref q_60, .ref q_61, .ref q_62, .ref q_63, .int 0])), (q_62, .inl (k_64, 128, .inl (fun _ => 0))), (q_65, .inr (13, [.null, .null, .null, .null, .int 0]))] ++ pl) H := hP
  replace hD : va_D A ([(h0, .inr (15, fs_56)), (q_57, .inl (k_58, 3, .inr (.inr (.inr (.inr (va_up (fun _ => none) (0 : Int32).toNatClampNeg (some q_59))))))), (q_59, .inr (13, [.ref q_60, .ref q_61, .ref q_62, .ref q_63, .int 0])), (q_62, .inl (k_64, 128, .inl (fun _ => 0))), (q_65, .inr (13, [.null, .null, .null, .null, .int 0]))] ++ pl) := hD
  refine lv_dup hx hb dX15_init_251 rfl ?_
  refine lv_bipush (v := 64) hx hb dX15_init_252 (by decide) ?_
  have hPc := hP.sub (ws' := [(q_65, .inr (13, [.null, .null, .null, .null, .int 0]))]) [4] rfl
  have hDc := hD.sub (ws' := [(q_65, .inr (13, [.null, .null, .null, .null, .int 0]))]) [4] (by decide) rfl
  have hKc := hK.sub (tys' := []) [] rfl
  have hFc := va_free (wc := [(q_65, .inr (13, [.null, .null, .null, .null, .int 0]))]) hD hS hA [4] rfl
  refine va_callv (va_runIN (As := [.int 64]) (rest := [.ref q_65, .int 1, .ref q_57, .ref q_57, .ref h0]) ⟨hx, hb, hml, hown, hts⟩ (c_X13_init_64 l dC dI q_65 H.size) ⟨va_cnB 1 hts gM15_X13 rfl rfl rfl (hN.1 (RX15, 129, yX13_init, RX15) (List.mem_of_getElem? (i := 28) rfl)) (hts (.initialized RX13) (List.mem_of_getElem? (i := 31) rfl)) hd_X13_init ⟨Nat.le_of_ble_eq_true rfl, Nat.le_of_ble_eq_true rfl⟩, rfl, (hts (.instanceMethod yX13_init) (List.mem_of_getElem? (i := 100) rfl))⟩ ⟨fun a U g mk q => by obtain ⟨q0, q1, qP, qK, qD, qE0⟩ := q; exact ⟨q0, q1, qP, va_K.moved (u := U) (U := U.calling g mk a) (Vm.Alike.refl U.vm) qK, qD, w_N.same rfl qE0⟩, fun U hU hW => ⟨rfl, by rw [hU], by rw [hU]; exact hPc, va_K.moved hW.alike hKc, hDc.weaken (fun _ _ _ _ => trivial), w_N.warm hW hN⟩⟩ rfl rfl hl.1 rfl (lv_room (Nat.le_of_ble_eq_true rfl)) dX15_init_254 ⟨(Nat.le_of_ble_eq_true rfl), (Nat.le_of_ble_eq_true rfl)⟩) hS (fun q _ h => hFc q h) hFc (fun u t H1 locs1 ht hvm hw hB hz1 hk1 hS1 => ?_)
  obtain ⟨q_66, q_67, q_68, q_69, k_70, hP1, hK1, hD1⟩ := hB
  rw [ht] at hP1
  have hK1 := va_K.moved hvm.symm hK1
  have hJ := va_joinQ (wr := [(h0, .inr (15, fs_56)), (q_57, .inl (k_58, 3, .inr (.inr (.inr (.inr (va_up (fun _ => none) (0 : Int32).toNatClampNeg (some q_59))))))), (q_59, .inr (13, [.ref q_60, .ref q_61, .ref q_62, .ref q_63, .int 0])), (q_62, .inl (k_64, 128, .inl (fun _ => 0)))]) (w1 := [(q_65, .inr (13, [.ref q_66, .ref q_67, .ref q_68, .ref q_69, .int 0])), (q_68, .inl (k_70, 128, .inl (fun _ => 0)))]) hP hD [4] [0, 1, 2, 3] rfl rfl (by decide) (by decide) hk1 hFc hP1 hD1
  clear hP hD hPc hDc hKc hFc hz1 hw; try clear hk1
  obtain ⟨hP, hD⟩ := hJ
  replace hK := (hK.sub (tys' := [(k_58, .object RX13), (k_64, .int)]) [0, 1] rfl).app (hK1.sub (tys' := [(k_70, .int)]) [0] rfl)
  clear hP1 hK1 hD1 hvm ht hS; try clear t
  try clear H
  revert hS1
  intro hS
  generalize H1 = H at hP hS ⊢; try clear H1
  replace hP : va_P (dC, dI) vwCl ([(h0, .inr (15, fs_56)), (q_57, .inl (k_58, 3, .inr (.inr (.inr (.inr (va_up (fun _ => none) (0 : Int32).toNatClampNeg (some q_59))))))), (q_59, .inr (13, [.ref q_60, .ref q_61, .ref q_62, .ref q_63, .int 0])), (q_62, .inl (k_64, 128, .inl (fun _ => 0))), (q_65, .inr (13, [.ref q_66, .ref q_67, .ref q_68, .ref q_69, .int 0])), (q_68, .inl (k_70, 128, .inl (fun _ => 0)))] ++ pl) H := hP
  replace hD : va_D A ([(h0, .inr (15, fs_56)), (q_57, .inl (k_58, 3, .inr (.inr (.inr (.inr (va_up (fun _ => none) (0 : Int32).toNatClampNeg (some q_59))))))), (q_59, .inr (13, [.ref q_60, .ref q_61, .ref q_62, .ref q_63, .int 0])), (q_62, .inl (k_64, 128, .inl (fun _ => 0))), (q_65, .inr (13, [.ref q_66, .ref q_67, .ref q_68, .ref q_69, .int 0])), (q_68, .inl (k_70, 128, .inl (fun _ => 0)))] ++ pl) := hD
  replace hK : va_K (dC, dI) vwCl [(k_58, .object RX13), (k_64, .int), (k_70, .int)] s := hK
  refine va_astq hx hb hK hP hD hS 1 0 4 13 rfl rfl rfl rfl (by exact fun h => by rcases h with h | h <;> revert h <;> decide) dX15_init_257 ?_
  clear hP hD hS; try clear H
  intro H locs hP hD hS
  replace hP : va_P (dC, dI) vwCl ([(h0, .inr (15, fs_56)), (q_57, .inl (k_58, 3, .inr (.inr (.inr (.inr (va_up (va_up (fun _ => none) (0 : Int32).toNatClampNeg (some q_59)) (1 : Int32).toNatClampNeg (some q_65))))))), (q_59, .inr (13, [.ref q_60, .ref q_61, .ref q_62, .ref q_63, .int 0])), (q_62, .inl (k_64, 128, .inl (fun _ => 0))), (q_65, .inr (13, [.ref q_66, .ref q_67, .ref q_68, .ref q_69, .int 0])), (q_68, .inl (k_70, 128, .inl (fun _ => 0)))] ++ pl) H := hP
  replace hD : va_D A ([(h0, .inr (15, fs_56)), (q_57, .inl (k_58, 3, .inr (.inr (.inr (.inr (va_up (va_up (fun _ => none) (0 : Int32).toNatClampNeg (some q_59)) (1 : Int32).toNatClampNeg (some q_65))))))), (q_59, .inr (13, [.ref q_60, .ref q_61, .ref q_62, .ref q_63, .int 0])), (q_62, .inl (k_64, 128, .inl (fun _ => 0))), (q_65, .inr (13, [.ref q_66, .ref q_67, .ref q_68, .ref q_69, .int 0])), (q_68, .inl (k_70, 128, .inl (fun _ => 0)))] ++ pl) := hD
  refine lv_dup hx hb dX15_init_258 rfl ?_
  refine lv_iconst (v := 2) hx hb dX15_init_259 (by decide) ?_
  refine va_new (ci := 13) (fs := [.null, .null, .null, .null, .int 0]) (C := RX13) (T := TX13) (N := 5) hx hb hts (in_X15_init_X13) tyX13 tyX13_ok hown (hts (.classLink RX15 127 RX13) (List.mem_of_getElem? (i := 29) rfl)) (hts (.instantiable RX13 5) (List.mem_of_getElem? (i := 30) rfl)) (hts (.initialized RX13) (List.mem_of_getElem? (i := 31) rfl)) hK hP hD hS hA rfl (fun j hj => by rcases (show j = 0 ∨ j = 1 ∨ j = 2 ∨ j = 3 ∨ j = 4 by omega) with rfl | rfl | rfl | rfl | rfl <;> rfl) (Nat.le_of_ble_eq_true rfl) (Nat.le_of_ble_eq_true rfl) dX15_init_260 ?_
  clear hP hD hS; try clear H
  intro q_71 H hP hD hS
  replace hP := va_P.swap hP; replace hD := va_D.swap hD
  replace hP : va_P (dC, dI) vwCl ([(h0, .inr (15, fs_56)), (q_57, .inl (k_58, 3, .inr (.inr (.inr (.inr (va_up (va_up (fun _ => none) (0 : Int32).toNatClampNeg (some q_59)) (1 : Int32).toNatClampNeg (some q_65))))))), (q_59, .inr (13, [.ref q_60, .ref q_61, .ref q_62, .ref q_63, .int 0])), (q_62, .inl (k_64, 128, .inl (fun _ => 0))), (q_65, .inr (13, [.ref q_66, .ref q_67, .ref q_68, .ref q_69, .int 0])), (q_68, .inl (k_70, 128, .inl (fun _ => 0))), (q_71, .inr (13, [.null, .null, .null, .null, .int 0]))] ++ pl) H := hP
  replace hD : va_D A ([(h0, .inr (15, fs_56)), (q_57, .inl (k_58, 3, .inr (.inr (.inr (.inr (va_up (va_up (fun _ => none) (0 : Int32).toNatClampNeg (some q_59)) (1 : Int32).toNatClampNeg (some q_65))))))), (q_59, .inr (13, [.ref q_60, .ref q_61, .ref q_62, .ref q_63, .int 0])), (q_62, .inl (k_64, 128, .inl (fun _ => 0))), (q_65, .inr (13, [.ref q_66, .ref q_67, .ref q_68, .ref q_69, .int 0])), (q_68, .inl (k_70, 128, .inl (fun _ => 0))), (q_71, .inr (13, [.null, .null, .null, .null, .int 0]))] ++ pl) := hD
  refine lv_dup hx hb dX15_init_263 rfl ?_
  refine lv_bipush (v := 64) hx hb dX15_init_264 (by decide) ?_
  have hPc := hP.sub (ws' := [(q_71, .inr (13, [.null, .null, .null, .null, .int 0]))]) [6] rfl
  have hDc := hD.sub (ws' := [(q_71, .inr (13, [.null, .null, .null, .null, .int 0]))]) [6] (by decide) rfl
  have hKc := hK.sub (tys' := []) [] rfl
  have hFc := va_free (wc := [(q_71, .inr (13, [.null, .null, .null, .null, .int 0]))]) hD hS hA [6] rfl
  refine va_callv (va_runIN (As := [.int 64]) (rest := [.ref q_71, .int 2, .ref q_57, .ref q_57, .ref h0]) ⟨hx, hb, hml, hown, hts⟩ (c_X13_init_64 l dC dI q_71 H.size) ⟨va_cnB 1 hts gM15_X13 rfl rfl rfl (hN.1 (RX15, 129, yX13_init, RX15) (List.mem_of_getElem? (i := 28) rfl)) (hts (.initialized RX13) (List.mem_of_getElem? (i := 31) rfl)) hd_X13_init ⟨Nat.le_of_ble_eq_true rfl, Nat.le_of_ble_eq_true rfl⟩, rfl, (hts (.instanceMethod yX13_init) (List.mem_of_getElem? (i := 100) rfl))⟩ ⟨fun a U g mk q => by obtain ⟨q0, q1, qP, qK, qD, qE0⟩ := q; exact ⟨q0, q1, qP, va_K.moved (u := U) (U := U.calling g mk a) (Vm.Alike.refl U.vm) qK, qD, w_N.same rfl qE0⟩, fun U hU hW => ⟨rfl, by rw [hU], by rw [hU]; exact hPc, va_K.moved hW.alike hKc, hDc.weaken (fun _ _ _ _ => trivial), w_N.warm hW hN⟩⟩ rfl rfl hl.1 rfl (lv_room (Nat.le_of_ble_eq_true rfl)) dX15_init_266 ⟨(Nat.le_of_ble_eq_true rfl), (Nat.le_of_ble_eq_true rfl)⟩) hS (fun q _ h => hFc q h) hFc (fun u t H1 locs1 ht hvm hw hB hz1 hk1 hS1 => ?_)
  obtain ⟨q_72, q_73, q_74, q_75, k_76, hP1, hK1, hD1⟩ := hB
  rw [ht] at hP1
  have hK1 := va_K.moved hvm.symm hK1
  have hJ := va_joinQ (wr := [(h0, .inr (15, fs_56)), (q_57, .inl (k_58, 3, .inr (.inr (.inr (.inr (va_up (va_up (fun _ => none) (0 : Int32).toNatClampNeg (some q_59)) (1 : Int32).toNatClampNeg (some q_65))))))), (q_59, .inr (13, [.ref q_60, .ref q_61, .ref q_62, .ref q_63, .int 0])), (q_62, .inl (k_64, 128, .inl (fun _ => 0))), (q_65, .inr (13, [.ref q_66, .ref q_67, .ref q_68, .ref q_69, .int 0])), (q_68, .inl (k_70, 128, .inl (fun _ => 0)))]) (w1 := [(q_71, .inr (13, [.ref q_72, .ref q_73, .ref q_74, .ref q_75, .int 0])), (q_74, .inl (k_76, 128, .inl (fun _ => 0)))]) hP hD [6] [0, 1, 2, 3, 4, 5] rfl rfl (by decide) (by decide) hk1 hFc hP1 hD1
  clear hP hD hPc hDc hKc hFc hz1 hw; try clear hk1
  obtain ⟨hP, hD⟩ := hJ
  replace hK := (hK.sub (tys' := [(k_58, .object RX13), (k_64, .int), (k_70, .int)]) [0, 1, 2] rfl).app (hK1.sub (tys' := [(k_76, .int)]) [0] rfl)
  clear hP1 hK1 hD1 hvm ht hS; try clear t
  try clear H
  revert hS1
  intro hS
  generalize H1 = H at hP hS ⊢; try clear H1
  replace hP : va_P (dC, dI) vwCl ([(h0, .inr (15, fs_56)), (q_57, .inl (k_58, 3, .inr (.inr (.inr (.inr (va_up (va_up (fun _ => none) (0 : Int32).toNatClampNeg (some q_59)) (1 : Int32).toNatClampNeg (some q_65))))))), (q_59, .inr (13, [.ref q_60, .ref q_61, .ref q_62, .ref q_63, .int 0])), (q_62, .inl (k_64, 128, .inl (fun _ => 0))), (q_65, .inr (13, [.ref q_66, .ref q_67, .ref q_68, .ref q_69, .int 0])), (q_68, .inl (k_70, 128, .inl (fun _ => 0))), (q_71, .inr (13, [.ref q_72, .ref q_73, .ref q_74, .ref q_75, .int 0])), (q_74, .inl (k_76, 128, .inl (fun _ => 0)))] ++ pl) H := hP
  replace hD : va_D A ([(h0, .inr (15, fs_56)), (q_57, .inl (k_58, 3, .inr (.inr (.inr (.inr (va_up (va_up (fun _ => none) (0 : Int32).toNatClampNeg (some q_59)) (1 : Int32).toNatClampNeg (some q_65))))))), (q_59, .inr (13, [.ref q_60, .ref q_61, .ref q_62, .ref q_63, .int 0])), (q_62, .inl (k_64, 128, .inl (fun _ => 0))), (q_65, .inr (13, [.ref q_66, .ref q_67, .ref q_68, .ref q_69, .int 0])), (q_68, .inl (k_70, 128, .inl (fun _ => 0))), (q_71, .inr (13, [.ref q_72, .ref q_73, .ref q_74, .ref q_75, .int 0])), (q_74, .inl (k_76, 128, .inl (fun _ => 0)))] ++ pl) := hD
  replace hK : va_K (dC, dI) vwCl [(k_58, .object RX13), (k_64, .int), (k_70, .int), (k_76, .int)] s := hK
  refine va_astq hx hb hK hP hD hS 1 0 6 13 rfl rfl rfl rfl (by exact fun h => by rcases h with h | h <;> revert h <;> decide) dX15_init_269 ?_
  clear hP hD hS; try clear H
  intro H locs hP hD hS
  replace hP : va_P (dC, dI) vwCl ([(h0, .inr (15, fs_56)), (q_57, .inl (k_58, 3, .inr (.inr (.inr (.inr (va_up (va_up (va_up (fun _ => none) (0 : Int32).toNatClampNeg (some q_59)) (1 : Int32).toNatClampNeg (some q_65)) (2 : Int32).toNatClampNeg (some q_71))))))), (q_59, .inr (13, [.ref q_60, .ref q_61, .ref q_62, .ref q_63, .int 0])), (q_62, .inl (k_64, 128, .inl (fun _ => 0))), (q_65, .inr (13, [.ref q_66, .ref q_67, .ref q_68, .ref q_69, .int 0])), (q_68, .inl (k_70, 128, .inl (fun _ => 0))), (q_71, .inr (13, [.ref q_72, .ref q_73, .ref q_74, .ref q_75, .int 0])), (q_74, .inl (k_76, 128, .inl (fun _ => 0)))] ++ pl) H := hP
  replace hD : va_D A ([(h0, .inr (15, fs_56)), (q_57, .inl (k_58, 3, .inr (.inr (.inr (.inr (va_up (va_up (va_up (fun _ => none) (0 : Int32).toNatClampNeg (some q_59)) (1 : Int32).toNatClampNeg (some q_65)) (2 : Int32).toNatClampNeg (some q_71))))))), (q_59, .inr (13, [.ref q_60, .ref q_61, .ref q_62, .ref q_63, .int 0])), (q_62, .inl (k_64, 128, .inl (fun _ => 0))), (q_65, .inr (13, [.ref q_66, .ref q_67, .ref q_68, .ref q_69, .int 0])), (q_68, .inl (k_70, 128, .inl (fun _ => 0))), (q_71, .inr (13, [.ref q_72, .ref q_73, .ref q_74, .ref q_75, .int 0])), (q_74, .inl (k_76, 128, .inl (fun _ => 0)))] ++ pl) := hD
  refine va_putF (D := (dC, dI)) (ci := 15) (v := .ref q_57) (ty := .array (.object "MotionSignsModel$Poly")) (C := RX15) (T := TX15) (N := 89) hx hb hts (in_X15_init_X15) tyX15 tyX15_ok nmX15 hown hK hP hD hS 0 rfl rfl 31 (by decide) (hts (.fieldLink RX15 134 "MotionSignsModel" "field" "[LMotionSignsModel$Poly;") (List.mem_of_getElem? (i := 33) rfl)) (fun _ h9 => h9) rfl hin rfl (tyX15_ok 31 (by decide)) rfl rfl (mF.lt hF (by decide)) dX15_init_270 ?_
  clear hP hD hS; try clear H
  intro H locs hP hD hS
  have hF1 := mF.put hF 31 (.ref q_57) (by decide) rfl
  replace hP : va_P (dC, dI) vwCl ([(h0, .inr (15, (fs_56.set 31 (.ref q_57)))), (q_57, .inl (k_58, 3, .inr (.inr (.inr (.inr (va_up (va_up (va_up (fun _ => none) (0 : Int32).toNatClampNeg (some q_59)) (1 : Int32).toNatClampNeg (some q_65)) (2 : Int32).toNatClampNeg (some q_71))))))), (q_59, .inr (13, [.ref q_60, .ref q_61, .ref q_62, .ref q_63, .int 0])), (q_62, .inl (k_64, 128, .inl (fun _ => 0))), (q_65, .inr (13, [.ref q_66, .ref q_67, .ref q_68, .ref q_69, .int 0])), (q_68, .inl (k_70, 128, .inl (fun _ => 0))), (q_71, .inr (13, [.ref q_72, .ref q_73, .ref q_74, .ref q_75, .int 0])), (q_74, .inl (k_76, 128, .inl (fun _ => 0)))] ++ pl) H := hP
  replace hD : va_D A ([(h0, .inr (15, (fs_56.set 31 (.ref q_57)))), (q_57, .inl (k_58, 3, .inr (.inr (.inr (.inr (va_up (va_up (va_up (fun _ => none) (0 : Int32).toNatClampNeg (some q_59)) (1 : Int32).toNatClampNeg (some q_65)) (2 : Int32).toNatClampNeg (some q_71))))))), (q_59, .inr (13, [.ref q_60, .ref q_61, .ref q_62, .ref q_63, .int 0])), (q_62, .inl (k_64, 128, .inl (fun _ => 0))), (q_65, .inr (13, [.ref q_66, .ref q_67, .ref q_68, .ref q_69, .int 0])), (q_68, .inl (k_70, 128, .inl (fun _ => 0))), (q_71, .inr (13, [.ref q_72, .ref q_73, .ref q_74, .ref q_75, .int 0])), (q_74, .inl (k_76, 128, .inl (fun _ => 0)))] ++ pl) := hD
  generalize fs_56.set 31 (.ref q_57) = fs_77 at hP hD hF1
  replace hF : mF 89 [(31, .ref q_57), (30, .ref q_50), (26, .ref q_47), (20, .int (-1)), (17, .int (-1)), (14, .ref q_39), (13, .ref q_35), (0, .int 0), (18, .int 0), (19, .int 0), (21, .int 0), (22, .int 0), (23, .int 0), (24, .int 0), (25, .int 0), (27, .int 0), (28, .int 0), (29, .int 0), (35, .int 0)] fs_77 := hF1
  clear hF1
  replace hP : va_P (dC, dI) vwCl ([(h0, .inr (15, fs_77)), (q_57, .inl (k_58, 3, .inr (.inr (.inr (.inr (va_up (va_up (va_up (fun _ => none) (0 : Int32).toNatClampNeg (some q_59)) (1 : Int32).toNatClampNeg (some q_65)) (2 : Int32).toNatClampNeg (some q_71))))))), (q_59, .inr (13, [.ref q_60, .ref q_61, .ref q_62, .ref q_63, .int 0])), (q_62, .inl (k_64, 128, .inl (fun _ => 0))), (q_65, .inr (13, [.ref q_66, .ref q_67, .ref q_68, .ref q_69, .int 0])), (q_68, .inl (k_70, 128, .inl (fun _ => 0))), (q_71, .inr (13, [.ref q_72, .ref q_73, .ref q_74, .ref q_75, .int 0])), (q_74, .inl (k_76, 128, .inl (fun _ => 0)))] ++ pl) H := hP
  replace hD : va_D A ([(h0, .inr (15, fs_77)), (q_57, .inl (k_58, 3, .inr (.inr (.inr (.inr (va_up (va_up (va_up (fun _ => none) (0 : Int32).toNatClampNeg (some q_59)) (1 : Int32).toNatClampNeg (some q_65)) (2 : Int32).toNatClampNeg (some q_71))))))), (q_59, .inr (13, [.ref q_60, .ref q_61, .ref q_62, .ref q_63, .int 0])), (q_62, .inl (k_64, 128, .inl (fun _ => 0))), (q_65, .inr (13, [.ref q_66, .ref q_67, .ref q_68, .ref q_69, .int 0])), (q_68, .inl (k_70, 128, .inl (fun _ => 0))), (q_71, .inr (13, [.ref q_72, .ref q_73, .ref q_74, .ref q_75, .int 0])), (q_74, .inl (k_76, 128, .inl (fun _ => 0)))] ++ pl) := hD
  replace hP := wm_subP (X' := [(h0, .inr (15, fs_77)), (q_57, .inl (k_58, 3, .inr (.inr (.inr (.inr (va_up (va_up (va_up (fun _ => none) (0 : Int32).toNatClampNeg (some q_59)) (1 : Int32).toNatClampNeg (some q_65)) (2 : Int32).toNatClampNeg (some q_71))))))), (q_59, .inr (13, [.ref q_60, .ref q_61, .ref q_62, .ref q_63, .int 0])), (q_65, .inr (13, [.ref q_66, .ref q_67, .ref q_68, .ref q_69, .int 0])), (q_71, .inr (13, [.ref q_72, .ref q_73, .ref q_74, .ref q_75, .int 0]))]) hP [0, 1, 2, 4, 6] rfl
  replace hD := wm_subD (X' := [(h0, .inr (15, fs_77)), (q_57, .inl (k_58, 3, .inr (.inr (.inr (.inr (va_up (va_up (va_up (fun _ => none) (0 : Int32).toNatClampNeg (some q_59)) (1 : Int32).toNatClampNeg (some q_65)) (2 : Int32).toNatClampNeg (some q_71))))))), (q_59, .inr (13, [.ref q_60, .ref q_61, .ref q_62, .ref q_63, .int 0])), (q_65, .inr (13, [.ref q_66, .ref q_67, .ref q_68, .ref q_69, .int 0])), (q_71, .inr (13, [.ref q_72, .ref q_73, .ref q_74, .ref q_75, .int 0]))]) hD [0, 1, 2, 4, 6] (by decide) rfl
  replace hK := hK.sub (tys' := [(k_58, .object RX13)]) [0] rfl
  refine lv_aload_n hx hb dX15_init_273 rfl (lv_at hl 0 rfl) ?_
  refine lv_iconst (v := 3) hx hb dX15_init_274 (by decide) ?_
  refine va_newq (C := RX13) (N' := 3) hx hb hown (hts (.classLink RX15 127 RX13) (List.mem_of_getElem? (i := 29) rfl)) (hN.2.2.1 RX13 (List.mem_of_getElem? (i := 5) rfl)) hK hP hD hS hA (by decide) (by decide) (Nat.le_of_ble_eq_true rfl) (Nat.le_of_ble_eq_true rfl) (Nat.le_of_ble_eq_true rfl) dX15_init_275 ?_
  clear hP hD hS hK; try clear H
  intro q_78 k_79 H hK hP hD hS
  replace hP := va_P.swap hP; replace hD := va_D.swap hD
  replace hP : va_P (dC, dI) vwCl ([(h0, .inr (15, fs_77)), (q_57, .inl (k_58, 3, .inr (.inr (.inr (.inr (va_up (va_up (va_up (fun _ => none) (0 : Int32).toNatClampNeg (some q_59)) (1 : Int32).toNatClampNeg (some q_65)) (2 : Int32).toNatClampNeg (some q_71))))))), (q_59, .inr (13, [.ref q_60, .ref q_61, .ref q_62, .ref q_63, .int 0])), (q_65, .inr (13, [.ref q_66, .ref q_67, .ref q_68, .ref q_69, .int 0])), (q_71, .inr (13, [.ref q_72, .ref q_73, .ref q_74, .ref q_75, .int 0])), (q_78, .inl (k_79, 3, .inr (.inr (.inr (.inr (fun _ => none))))))] ++ pl) H := hP
  replace hD : va_D A ([(h0, .inr (15, fs_77)), (q_57, .inl (k_58, 3, .inr (.inr (.inr (.inr (va_up (va_up (va_up (fun _ => none) (0 : Int32).toNatClampNeg (some q_59)) (1 : Int32).toNatClampNeg (some q_65)) (2 : Int32).toNatClampNeg (some q_71))))))), (q_59, .inr (13, [.ref q_60, .ref q_61, .ref q_62, .ref q_63, .int 0])), (q_65, .inr (13, [.ref q_66, .ref q_67, .ref q_68, .ref q_69, .int 0])), (q_71, .inr (13, [.ref q_72, .ref q_73, .ref q_74, .ref q_75, .int 0])), (q_78, .inl (k_79, 3, .inr (.inr (.inr (.inr (fun _ => none))))))] ++ pl) := hD
  replace hK : va_K (dC, dI) vwCl [(k_58, .object RX13), (k_79, .object RX13)] s := hK
  refine lv_dup hx hb dX15_init_278 rfl ?_
  refine lv_iconst (v := 0) hx hb dX15_init_279 (by decide) ?_
  refine va_new (ci := 13) (fs := [.null, .null, .null, .null, .int 0]) (C := RX13) (T := TX13) (N := 5) hx hb hts (in_X15_init_X13) tyX13 tyX13_ok hown (hts (.classLink RX15 127 RX13) (List.mem_of_getElem? (i := 29) rfl)) (hts (.instantiable RX13 5) (List.mem_of_getElem? (i := 30) rfl)) (hts (.initialized RX13) (List.mem_of_getElem? (i := 31) rfl)) hK hP hD hS hA rfl (fun j hj => by rcases (show j = 0 ∨ j = 1 ∨ j = 2 ∨ j = 3 ∨ j = 4 by omega) with rfl | rfl | rfl | rfl | rfl <;> rfl) (Nat.le_of_ble_eq_true rfl) (Nat.le_of_ble_eq_true rfl) dX15_init_280 ?_
  clear hP hD hS; try clear H
  intro q_80 H hP hD hS
  replace hP := va_P.swap hP; replace hD := va_D.swap hD
  replace hP : va_P (dC, dI) vwCl ([(h0, .inr (15, fs_77)), (q_57, .inl (k_58, 3, .inr (.inr (.inr (.inr (va_up (va_up (va_up (fun _ => none) (0 : Int32).toNatClampNeg (some q_59)) (1 : Int32).toNatClampNeg (some q_65)) (2 : Int32).toNatClampNeg (some q_71))))))), (q_59, .inr (13, [.ref q_60, .ref q_61, .ref q_62, .ref q_63, .int 0])), (q_65, .inr (13, [.ref q_66, .ref q_67, .ref q_68, .ref q_69, .int 0])), (q_71, .inr (13, [.ref q_72, .ref q_73, .ref q_74, .ref q_75, .int 0])), (q_78, .inl (k_79, 3, .inr (.inr (.inr (.inr (fun _ => none)))))), (q_80, .inr (13, [.null, .null, .null, .null, .int 0]))] ++ pl) H := hP
  replace hD : va_D A ([(h0, .inr (15, fs_77)), (q_57, .inl (k_58, 3, .inr (.inr (.inr (.inr (va_up (va_up (va_up (fun _ => none) (0 : Int32).toNatClampNeg (some q_59)) (1 : Int32).toNatClampNeg (some q_65)) (2 : Int32).toNatClampNeg (some q_71))))))), (q_59, .inr (13, [.ref q_60, .ref q_61, .ref q_62, .ref q_63, .int 0])), (q_65, .inr (13, [.ref q_66, .ref q_67, .ref q_68, .ref q_69, .int 0])), (q_71, .inr (13, [.ref q_72, .ref q_73, .ref q_74, .ref q_75, .int 0])), (q_78, .inl (k_79, 3, .inr (.inr (.inr (.inr (fun _ => none)))))), (q_80, .inr (13, [.null, .null, .null, .null, .int 0]))] ++ pl) := hD
  refine lv_dup hx hb dX15_init_283 rfl ?_
  refine lv_bipush (v := 64) hx hb dX15_init_284 (by decide) ?_
  have hPc := hP.sub (ws' := [(q_80, .inr (13, [.null, .null, .null, .null, .int 0]))]) [6] rfl
  have hDc := hD.sub (ws' := [(q_80, .inr (13, [.null, .null, .null, .null, .int 0]))]) [6] (by decide) rfl
  have hKc := hK.sub (tys' := []) [] rfl
  have hFc := va_free (wc := [(q_80, .inr (13, [.null, .null, .null, .null, .int 0]))]) hD hS hA [6] rfl
  refine va_callv (va_runIN (As := [.int 64]) (rest := [.ref q_80, .int 0, .ref q_78, .ref q_78, .ref h0]) ⟨hx, hb, hml, hown, hts⟩ (c_X13_init_64 l dC dI q_80 H.size) ⟨va_cnB 1 hts gM15_X13 rfl rfl rfl (hN.1 (RX15, 129, yX13_init, RX15) (List.mem_of_getElem? (i := 28) rfl)) (hts (.initialized RX13) (List.mem_of_getElem? (i := 31) rfl)) hd_X13_init ⟨Nat.le_of_ble_eq_true rfl, Nat.le_of_ble_eq_true rfl⟩, rfl, (hts (.instanceMethod yX13_init) (List.mem_of_getElem? (i := 100) rfl))⟩ ⟨fun a U g mk q => by obtain ⟨q0, q1, qP, qK, qD, qE0⟩ := q; exact ⟨q0, q1, qP, va_K.moved (u := U) (U := U.calling g mk a) (Vm.Alike.refl U.vm) qK, qD, w_N.same rfl qE0⟩, fun U hU hW => ⟨rfl, by rw [hU], by rw [hU]; exact hPc, va_K.moved hW.alike hKc, hDc.weaken (fun _ _ _ _ => trivial), w_N.warm hW hN⟩⟩ rfl rfl hl.1 rfl (lv_room (Nat.le_of_ble_eq_true rfl)) dX15_init_286 ⟨(Nat.le_of_ble_eq_true rfl), (Nat.le_of_ble_eq_true rfl)⟩) hS (fun q _ h => hFc q h) hFc (fun u t H1 locs1 ht hvm hw hB hz1 hk1 hS1 => ?_)
  obtain ⟨q_81, q_82, q_83, q_84, k_85, hP1, hK1, hD1⟩ := hB
  rw [ht] at hP1
  have hK1 := va_K.moved hvm.symm hK1
  have hJ := va_joinQ (wr := [(h0, .inr (15, fs_77)), (q_57, .inl (k_58, 3, .inr (.inr (.inr (.inr (va_up (va_up (va_up (fun _ => none) (0 : Int32).toNatClampNeg (some q_59)) (1 : Int32).toNatClampNeg (some q_65)) (2 : Int32).toNatClampNeg (some q_71))))))), (q_59, .inr (13, [.ref q_60, .ref q_61, .ref q_62, .ref q_63, .int 0])), (q_65, .inr (13, [.ref q_66, .ref q_67, .ref q_68, .ref q_69, .int 0])), (q_71, .inr (13, [.ref q_72, .ref q_73, .ref q_74, .ref q_75, .int 0])), (q_78, .inl (k_79, 3, .inr (.inr (.inr (.inr (fun _ => none))))))]) (w1 := [(q_80, .inr (13, [.ref q_81, .ref q_82, .ref q_83, .ref q_84, .int 0])), (q_83, .inl (k_85, 128, .inl (fun _ => 0)))]) hP hD [6] [0, 1, 2, 3, 4, 5] rfl rfl (by decide) (by decide) hk1 hFc hP1 hD1
  clear hP hD hPc hDc hKc hFc hz1 hw; try clear hk1
  obtain ⟨hP, hD⟩ := hJ
  replace hK := (hK.sub (tys' := [(k_58, .object RX13), (k_79, .object RX13)]) [0, 1] rfl).app (hK1.sub (tys' := [(k_85, .int)]) [0] rfl)
  clear hP1 hK1 hD1 hvm ht hS; try clear t
  try clear H
  revert hS1
  intro hS
  generalize H1 = H at hP hS ⊢; try clear H1
  replace hP : va_P (dC, dI) vwCl ([(h0, .inr (15, fs_77)), (q_57, .inl (k_58, 3, .inr (.inr (.inr (.inr (va_up (va_up (va_up (fun _ => none) (0 : Int32).toNatClampNeg (some q_59)) (1 : Int32).toNatClampNeg (some q_65)) (2 : Int32).toNatClampNeg (some q_71))))))), (q_59, .inr (13, [.ref q_60, .ref q_61, .ref q_62, .ref q_63, .int 0])), (q_65, .inr (13, [.ref q_66, .ref q_67, .ref q_68, .ref q_69, .int 0])), (q_71, .inr (13, [.ref q_72, .ref q_73, .ref q_74, .ref q_75, .int 0])), (q_78, .inl (k_79, 3, .inr (.inr (.inr (.inr (fun _ => none)))))), (q_80, .inr (13, [.ref q_81, .ref q_82, .ref q_83, .ref q_84, .int 0])), (q_83, .inl (k_85, 128, .inl (fun _ => 0)))] ++ pl) H := hP
  replace hD : va_D A ([(h0, .inr (15, fs_77)), (q_57, .inl (k_58, 3, .inr (.inr (.inr (.inr (va_up (va_up (va_up (fun _ => none) (0 : Int32).toNatClampNeg (some q_59)) (1 : Int32).toNatClampNeg (some q_65)) (2 : Int32).toNatClampNeg (some q_71))))))), (q_59, .inr (13, [.ref q_60, .ref q_61, .ref q_62, .ref q_63, .int 0])), (q_65, .inr (13, [.ref q_66, .ref q_67, .ref q_68, .ref q_69, .int 0])), (q_71, .inr (13, [.ref q_72, .ref q_73, .ref q_74, .ref q_75, .int 0])), (q_78, .inl (k_79, 3, .inr (.inr (.inr (.inr (fun _ => none)))))), (q_80, .inr (13, [.ref q_81, .ref q_82, .ref q_83, .ref q_84, .int 0])), (q_83, .inl (k_85, 128, .inl (fun _ => 0)))] ++ pl) := hD
  replace hK : va_K (dC, dI) vwCl [(k_58, .object RX13), (k_79, .object RX13), (k_85, .int)] s := hK
  refine va_astq hx hb hK hP hD hS 5 1 6 13 rfl rfl rfl rfl (by exact fun h => by rcases h with h | h <;> revert h <;> decide) dX15_init_289 ?_
  clear hP hD hS; try clear H
  intro H locs hP hD hS
  replace hP : va_P (dC, dI) vwCl ([(h0, .inr (15, fs_77)), (q_57, .inl (k_58, 3, .inr (.inr (.inr (.inr (va_up (va_up (va_up (fun _ => none) (0 : Int32).toNatClampNeg (some q_59)) (1 : Int32).toNatClampNeg (some q_65)) (2 : Int32).toNatClampNeg (some q_71))))))), (q_59, .inr (13, [.ref q_60, .ref q_61, .ref q_62, .ref q_63, .int 0])), (q_65, .inr (13, [.ref q_66, .ref q_67, .ref q_68, .ref q_69, .int 0])), (q_71, .inr (13, [.ref q_72, .ref q_73, .ref q_74, .ref q_75, .int 0])), (q_78, .inl (k_79, 3, .inr (.inr (.inr (.inr (va_up (fun _ => none) (0 : Int32).toNatClampNeg (some q_80))))))), (q_80, .inr (13, [.ref q_81, .ref q_82, .ref q_83, .ref q_84, .int 0])), (q_83, .inl (k_85, 128, .inl (fun _ => 0)))] ++ pl) H := hP
  replace hD : va_D A ([(h0, .inr (15, fs_77)), (q_57, .inl (k_58, 3, .inr (.inr (.inr (.inr (va_up (va_up (va_up (fun _ => none) (0 : Int32).toNatClampNeg (some q_59)) (1 : Int32).toNatClampNeg (some q_65)) (2 : Int32).toNatClampNeg (some q_71))))))), (q_59, .inr (13, [.ref q_60, .ref q_61, .ref q_62, .ref q_63, .int 0])), (q_65, .inr (13, [.ref q_66, .ref q_67, .ref q_68, .ref q_69, .int 0])), (q_71, .inr (13, [.ref q_72, .ref q_73, .ref q_74, .ref q_75, .int 0])), (q_78, .inl (k_79, 3, .inr (.inr (.inr (.inr (va_up (fun _ => none) (0 : Int32).toNatClampNeg (some q_80))))))), (q_80, .inr (13, [.ref q_81, .ref q_82, .ref q_83, .ref q_84, .int 0])), (q_83, .inl (k_85, 128, .inl (fun _ => 0)))] ++ pl) := hD
  refine lv_dup hx hb dX15_init_290 rfl ?_
  refine lv_iconst (v := 1) hx hb dX15_init_291 (by decide) ?_
  refine va_new (ci := 13) (fs := [.null, .null, .null, .null, .int 0]) (C := RX13) (T := TX13) (N := 5) hx hb hts (in_X15_init_X13) tyX13 tyX13_ok hown (hts (.classLink RX15 127 RX13) (List.mem_of_getElem? (i := 29) rfl)) (hts (.instantiable RX13 5) (List.mem_of_getElem? (i := 30) rfl)) (hts (.initialized RX13) (List.mem_of_getElem? (i := 31) rfl)) hK hP hD hS hA rfl (fun j hj => by rcases (show j = 0 ∨ j = 1 ∨ j = 2 ∨ j = 3 ∨ j = 4 by omega) with rfl | rfl | rfl | rfl | rfl <;> rfl) (Nat.le_of_ble_eq_true rfl) (Nat.le_of_ble_eq_true rfl) dX15_init_292 ?_
  clear hP hD hS; try clear H
  intro q_86 H hP hD hS
  replace hP := va_P.swap hP; replace hD := va_D.swap hD
  replace hP : va_P (dC, dI) vwCl ([(h0, .inr (15, fs_77)), (q_57, .inl (k_58, 3, .inr (.inr (.inr (.inr (va_up (va_up (va_up (fun _ => none) (0 : Int32).toNatClampNeg (some q_59)) (1 : Int32).toNatClampNeg (some q_65)) (2 : Int32).toNatClampNeg (some q_71))))))), (q_59, .inr (13, [.ref q_60, .ref q_61, .ref q_62, .ref q_63, .int 0])), (q_65, .inr (13, [.ref q_66, .ref q_67, .ref q_68, .ref q_69, .int 0])), (q_71, .inr (13, [.ref q_72, .ref q_73, .ref q_74, .ref q_75, .int 0])), (q_78, .inl (k_79, 3, .inr (.inr (.inr (.inr (va_up (fun _ => none) (0 : Int32).toNatClampNeg (some q_80))))))), (q_80, .inr (13, [.ref q_81, .ref q_82, .ref q_83, .ref q_84, .int 0])), (q_83, .inl (k_85, 128, .inl (fun _ => 0))), (q_86, .inr (13, [.null, .null, .null, .null, .int 0]))] ++ pl) H := hP
  replace hD : va_D A ([(h0, .inr (15, fs_77)), (q_57, .inl (k_58, 3, .inr (.inr (.inr (.inr (va_up (va_up (va_up (fun _ => none) (0 : Int32).toNatClampNeg (some q_59)) (1 : Int32).toNatClampNeg (some q_65)) (2 : Int32).toNatClampNeg (some q_71))))))), (q_59, .inr (13, [.ref q_60, .ref q_61, .ref q_62, .ref q_63, .int 0])), (q_65, .inr (13, [.ref q_66, .ref q_67, .ref q_68, .ref q_69, .int 0])), (q_71, .inr (13, [.ref q_72, .ref q_73, .ref q_74, .ref q_75, .int 0])), (q_78, .inl (k_79, 3, .inr (.inr (.inr (.inr (va_up (fun _ => none) (0 : Int32).toNatClampNeg (some q_80))))))), (q_80, .inr (13, [.ref q_81, .ref q_82, .ref q_83, .ref q_84, .int 0])), (q_83, .inl (k_85, 128, .inl (fun _ => 0))), (q_86, .inr (13, [.null, .null, .null, .null, .int 0]))] ++ pl) := hD
  refine lv_dup hx hb dX15_init_295 rfl ?_
  refine lv_bipush (v := 64) hx hb dX15_init_296 (by decide) ?_
  have hPc := hP.sub (ws' := [(q_86, .inr (13, [.null, .null, .null, .null, .int 0]))]) [8] rfl
  have hDc := hD.sub (ws' := [(q_86, .inr (13, [.null, .null, .null, .null, .int 0]))]) [8] (by decide) rfl
  have hKc := hK.sub (tys' := []) [] rfl
  have hFc := va_free (wc := [(q_86, .inr (13, [.null, .null, .null, .null, .int 0]))]) hD hS hA [8] rfl
  refine va_callv (va_runIN (As := [.int 64]) (rest := [.ref q_86, .int 1, .ref q_78, .ref q_78, .ref h0]) ⟨hx, hb, hml, hown, hts⟩ (c_X13_init_64 l dC dI q_86 H.size) ⟨va_cnB 1 hts gM15_X13 rfl rfl rfl (hN.1 (RX15, 129, yX13_init, RX15) (List.mem_of_getElem? (i := 28) rfl)) (hts (.initialized RX13) (List.mem_of_getElem? (i := 31) rfl)) hd_X13_init ⟨Nat.le_of_ble_eq_true rfl, Nat.le_of_ble_eq_true rfl⟩, rfl, (hts (.instanceMethod yX13_init) (List.mem_of_getElem? (i := 100) rfl))⟩ ⟨fun a U g mk q => by obtain ⟨q0, q1, qP, qK, qD, qE0⟩ := q; exact ⟨q0, q1, qP, va_K.moved (u := U) (U := U.calling g mk a) (Vm.Alike.refl U.vm) qK, qD, w_N.same rfl qE0⟩, fun U hU hW => ⟨rfl, by rw [hU], by rw [hU]; exact hPc, va_K.moved hW.alike hKc, hDc.weaken (fun _ _ _ _ => trivial), w_N.warm hW hN⟩⟩ rfl rfl hl.1 rfl (lv_room (Nat.le_of_ble_eq_true rfl)) dX15_init_298 ⟨(Nat.le_of_ble_eq_true rfl), (Nat.le_of_ble_eq_true rfl)⟩) hS (fun q _ h => hFc q h) hFc (fun u t H1 locs1 ht hvm hw hB hz1 hk1 hS1 => ?_)
  obtain ⟨q_87, q_88, q_89, q_90, k_91, hP1, hK1, hD1⟩ := hB
  rw [ht] at hP1
  have hK1 := va_K.moved hvm.symm hK1
  have hJ := va_joinQ (wr := [(h0, .inr (15, fs_77)), (q_57, .inl (k_58, 3, .inr (.inr (.inr (.inr (va_up (va_up (va_up (fun _ => none) (0 : Int32).toNatClampNeg (some q_59)) (1 : Int32).toNatClampNeg (some q_65)) (2 : Int32).toNatClampNeg (some q_71))))))), (q_59, .inr (13, [.ref q_60, .ref q_61, .ref q_62, .ref q_63, .int 0])), (q_65, .inr (13, [.ref q_66, .ref q_67, .ref q_68, .ref q_69, .int 0])), (q_71, .inr (13, [.ref q_72, .ref q_73, .ref q_74, .ref q_75, .int 0])), (q_78, .inl (k_79, 3, .inr (.inr (.inr (.inr (va_up (fun _ => none) (0 : Int32).toNatClampNeg (some q_80))))))), (q_80, .inr (13, [.ref q_81, .ref q_82, .ref q_83, .ref q_84, .int 0])), (q_83, .inl (k_85, 128, .inl (fun _ => 0)))]) (w1 := [(q_86, .inr (13, [.ref q_87, .ref q_88, .ref q_89, .ref q_90, .int 0])), (q_89, .inl (k_91, 128, .inl (fun _ => 0)))]) hP hD [8] [0, 1, 2, 3, 4, 5, 6, 7] rfl rfl (by decide) (by decide) hk1 hFc hP1 hD1
  clear hP hD hPc hDc hKc hFc hz1 hw; try clear hk1
  obtain ⟨hP, hD⟩ := hJ
  replace hK := (hK.sub (tys' := [(k_58, .object RX13), (k_79, .object RX13), (k_85, .int)]) [0, 1, 2] rfl).app (hK1.sub (tys' := [(k_91, .int)]) [0] rfl)
  clear hP1 hK1 hD1 hvm ht hS; try clear t
  try clear H
  revert hS1
  intro hS
  generalize H1 = H at hP hS ⊢; try clear H1
  replace hP : va_P (dC, dI) vwCl ([(h0, .inr (15, fs_77)), (q_57, .inl (k_58, 3, .inr (.inr (.inr (.inr (va_up (va_up (va_up (fun _ => none) (0 : Int32).toNatClampNeg (some q_59)) (1 : Int32).toNatClampNeg (some q_65)) (2 : Int32).toNatClampNeg (some q_71))))))), (q_59, .inr (13, [.ref q_60, .ref q_61, .ref q_62, .ref q_63, .int 0])), (q_65, .inr (13, [.ref q_66, .ref q_67, .ref q_68, .ref q_69, .int 0])), (q_71, .inr (13, [.ref q_72, .ref q_73, .ref q_74, .ref q_75, .int 0])), (q_78, .inl (k_79, 3, .inr (.inr (.inr (.inr (va_up (fun _ => none) (0 : Int32).toNatClampNeg (some q_80))))))), (q_80, .inr (13, [.ref q_81, .ref q_82, .ref q_83, .ref q_84, .int 0])), (q_83, .inl (k_85, 128, .inl (fun _ => 0))), (q_86, .inr (13, [.ref q_87, .ref q_88, .ref q_89, .ref q_90, .int 0])), (q_89, .inl (k_91, 128, .inl (fun _ => 0)))] ++ pl) H := hP
  replace hD : va_D A ([(h0, .inr (15, fs_77)), (q_57, .inl (k_58, 3, .inr (.inr (.inr (.inr (va_up (va_up (va_up (fun _ => none) (0 : Int32).toNatClampNeg (some q_59)) (1 : Int32).toNatClampNeg (some q_65)) (2 : Int32).toNatClampNeg (some q_71))))))), (q_59, .inr (13, [.ref q_60, .ref q_61, .ref q_62, .ref q_63, .int 0])), (q_65, .inr (13, [.ref q_66, .ref q_67, .ref q_68, .ref q_69, .int 0])), (q_71, .inr (13, [.ref q_72, .ref q_73, .ref q_74, .ref q_75, .int 0])), (q_78, .inl (k_79, 3, .inr (.inr (.inr (.inr (va_up (fun _ => none) (0 : Int32).toNatClampNeg (some q_80))))))), (q_80, .inr (13, [.ref q_81, .ref q_82, .ref q_83, .ref q_84, .int 0])), (q_83, .inl (k_85, 128, .inl (fun _ => 0))), (q_86, .inr (13, [.ref q_87, .ref q_88, .ref q_89, .ref q_90, .int 0])), (q_89, .inl (k_91, 128, .inl (fun _ => 0)))] ++ pl) := hD
  replace hK : va_K (dC, dI) vwCl [(k_58, .object RX13), (k_79, .object RX13), (k_85, .int), (k_91, .int)] s := hK
  refine va_astq hx hb hK hP hD hS 5 1 8 13 rfl rfl rfl rfl (by exact fun h => by rcases h with h | h <;> revert h <;> decide) dX15_init_301 ?_
  clear hP hD hS; try clear H
  intro H locs hP hD hS
  replace hP : va_P (dC, dI) vwCl ([(h0, .inr (15, fs_77)), (q_57, .inl (k_58, 3, .inr (.inr (.inr (.inr (va_up (va_up (va_up (fun _ => none) (0 : Int32).toNatClampNeg (some q_59)) (1 : Int32).toNatClampNeg (some q_65)) (2 : Int32).toNatClampNeg (some q_71))))))), (q_59, .inr (13, [.ref q_60, .ref q_61, .ref q_62, .ref q_63, .int 0])), (q_65, .inr (13, [.ref q_66, .ref q_67, .ref q_68, .ref q_69, .int 0])), (q_71, .inr (13, [.ref q_72, .ref q_73, .ref q_74, .ref q_75, .int 0])), (q_78, .inl (k_79, 3, .inr (.inr (.inr (.inr (va_up (va_up (fun _ => none) (0 : Int32).toNatClampNeg (some q_80)) (1 : Int32).toNatClampNeg (some q_86))))))), (q_80, .inr (13, [.ref q_81, .ref q_82, .ref q_83, .ref q_84, .int 0])), (q_83, .inl (k_85, 128, .inl (fun _ => 0))), (q_86, .inr (13, [.ref q_87, .ref q_88, .ref q_89, .ref q_90, .int 0])), (q_89, .inl (k_91, 128, .inl (fun _ => 0)))] ++ pl) H := hP
  replace hD : va_D A ([(h0, .inr (15, fs_77)), (q_57, .inl (k_58, 3, .inr (.inr (.inr (.inr (va_up (va_up (va_up (fun _ => none) (0 : Int32).toNatClampNeg (some q_59)) (1 : Int32).toNatClampNeg (some q_65)) (2 : Int32).toNatClampNeg (some q_71))))))), (q_59, .inr (13, [.ref q_60, .ref q_61, .ref q_62, .ref q_63, .int 0])), (q_65, .inr (13, [.ref q_66, .ref q_67, .ref q_68, .ref q_69, .int 0])), (q_71, .inr (13, [.ref q_72, .ref q_73, .ref q_74, .ref q_75, .int 0])), (q_78, .inl (k_79, 3, .inr (.inr (.inr (.inr (va_up (va_up (fun _ => none) (0 : Int32).toNatClampNeg (some q_80)) (1 : Int32).toNatClampNeg (some q_86))))))), (q_80, .inr (13, [.ref q_81, .ref q_82, .ref q_83, .ref q_84, .int 0])), (q_83, .inl (k_85, 128, .inl (fun _ => 0))), (q_86, .inr (13, [.ref q_87, .ref q_88, .ref q_89, .ref q_90, .int 0])), (q_89, .inl (k_91, 128, .inl (fun _ => 0)))] ++ pl) := hD
  refine lv_dup hx hb dX15_init_302 rfl ?_
  refine lv_iconst (v := 2) hx hb dX15_init_303 (by decide) ?_
  refine va_new (ci := 13) (fs := [.null, .null, .null, .null, .int 0]) (C := RX13) (T := TX13) (N := 5) hx hb hts (in_X15_init_X13) tyX13 tyX13_ok hown (hts (.classLink RX15 127 RX13) (List.mem_of_getElem? (i := 29) rfl)) (hts (.instantiable RX13 5) (List.mem_of_getElem? (i := 30) rfl)) (hts (.initialized RX13) (List.mem_of_getElem? (i := 31) rfl)) hK hP hD hS hA rfl (fun j hj => by rcases (show j = 0 ∨ j = 1 ∨ j = 2 ∨ j = 3 ∨ j = 4 by omega) with rfl | rfl | rfl | rfl | rfl <;> rfl) (Nat.le_of_ble_eq_true rfl) (Nat.le_of_ble_eq_true rfl) dX15_init_304 ?_
  clear hP hD hS; try clear H
  intro q_92 H hP hD hS
  replace hP := va_P.swap hP; replace hD := va_D.swap hD
  replace hP : va_P (dC, dI) vwCl ([(h0, .inr (15, fs_77)), (q_57, .inl (k_58, 3, .inr (.inr (.inr (.inr (va_up (va_up (va_up (fun _ => none) (0 : Int32).toNatClampNeg (some q_59)) (1 : Int32).toNatClampNeg (some q_65)) (2 : Int32).toNatClampNeg (some q_71))))))), (q_59, .inr (13, [.ref q_60, .ref q_61, .ref q_62, .ref q_63, .int 0])), (q_65, .inr (13, [.ref q_66, .ref q_67, .ref q_68, .ref q_69, .int 0])), (q_71, .inr (13, [.ref q_72, .ref q_73, .ref q_74, .ref q_75, .int 0])), (q_78, .inl (k_79, 3, .inr (.inr (.inr (.inr (va_up (va_up (fun _ => none) (0 : Int32).toNatClampNeg (some q_80)) (1 : Int32).toNatClampNeg (some q_86))))))), (q_80, .inr (13, [.ref q_81, .ref q_82, .ref q_83, .ref q_84, .int 0])), (q_83, .inl (k_85, 128, .inl (fun _ => 0))), (q_86, .inr (13, [.ref q_87, .ref q_88, .ref q_89, .ref q_90, .int 0])), (q_89, .inl (k_91, 128, .inl (fun _ => 0))), (q_92, .inr (13, [.null, .null, .null, .null, .int 0]))] ++ pl) H := hP
  replace hD : va_D A ([(h0, .inr (15, fs_77)), (q_57, .inl (k_58, 3, .inr (.inr (.inr (.inr (va_up (va_up (va_up (fun _ => none) (0 : Int32).toNatClampNeg (some q_59)) (1 : Int32).toNatClampNeg (some q_65)) (2 : Int32).toNatClampNeg (some q_71))))))), (q_59, .inr (13, [.ref q_60, .ref q_61, .ref q_62, .ref q_63, .int 0])), (q_65, .inr (13, [.ref q_66, .ref q_67, .ref q_68, .ref q_69, .int 0])), (q_71, .inr (13, [.ref q_72, .ref q_73, .ref q_74, .ref q_75, .int 0])), (q_78, .inl (k_79, 3, .inr (.inr (.inr (.inr (va_up (va_up (fun _ => none) (0 : Int32).toNatClampNeg (some q_80)) (1 : Int32).toNatClampNeg (some q_86))))))), (q_80, .inr (13, [.ref q_81, .ref q_82, .ref q_83, .ref q_84, .int 0])), (q_83, .inl (k_85, 128, .inl (fun _ => 0))), (q_86, .inr (13, [.ref q_87, .ref q_88, .ref q_89, .ref q_90, .int 0])), (q_89, .inl (k_91, 128, .inl (fun _ => 0))), (q_92, .inr (13, [.null, .null, .null, .null, .int 0]))] ++ pl) := hD
  refine lv_dup hx hb dX15_init_307 rfl ?_
  refine lv_bipush (v := 64) hx hb dX15_init_308 (by decide) ?_
  have hPc := hP.sub (ws' := [(q_92, .inr (13, [.null, .null, .null, .null, .int 0]))]) [10] rfl
  have hDc := hD.sub (ws' := [(q_92, .inr (13, [.null, .null, .null, .null, .int 0]))]) [10] (by decide) rfl
  have hKc := hK.sub (tys' := []) [] rfl
  have hFc := va_free (wc := [(q_92, .inr (13, [.null, .null, .null, .null, .int 0]))]) hD hS hA [10] rfl
  refine va_callv (va_runIN (As := [.int 64]) (rest := [.ref q_92, .int 2, .ref q_78, .ref q_78, .ref h0]) ⟨hx, hb, hml, hown, hts⟩ (c_X13_init_64 l dC dI q_92 H.size) ⟨va_cnB 1 hts gM15_X13 rfl rfl rfl (hN.1 (RX15, 129, yX13_init, RX15) (List.mem_of_getElem? (i := 28) rfl)) (hts (.initialized RX13) (List.mem_of_getElem? (i := 31) rfl)) hd_X13_init ⟨Nat.le_of_ble_eq_true rfl, Nat.le_of_ble_eq_true rfl⟩, rfl, (hts (.instanceMethod yX13_init) (List.mem_of_getElem? (i := 100) rfl))⟩ ⟨fun a U g mk q => by obtain ⟨q0, q1, qP, qK, qD, qE0⟩ := q; exact ⟨q0, q1, qP, va_K.moved (u := U) (U := U.calling g mk a) (Vm.Alike.refl U.vm) qK, qD, w_N.same rfl qE0⟩, fun U hU hW => ⟨rfl, by rw [hU], by rw [hU]; exact hPc, va_K.moved hW.alike hKc, hDc.weaken (fun _ _ _ _ => trivial), w_N.warm hW hN⟩⟩ rfl rfl hl.1 rfl (lv_room (Nat.le_of_ble_eq_true rfl)) dX15_init_310 ⟨(Nat.le_of_ble_eq_true rfl), (Nat.le_of_ble_eq_true rfl)⟩) hS (fun q _ h => hFc q h) hFc (fun u t H1 locs1 ht hvm hw hB hz1 hk1 hS1 => ?_)
  obtain ⟨q_93, q_94, q_95, q_96, k_97, hP1, hK1, hD1⟩ := hB
  rw [ht] at hP1
  have hK1 := va_K.moved hvm.symm hK1
  have hJ := va_joinQ (wr := [(h0, .inr (15, fs_77)), (q_57, .inl (k_58, 3, .inr (.inr (.inr (.inr (va_up (va_up (va_up (fun _ => none) (0 : Int32).toNatClampNeg (some q_59)) (1 : Int32).toNatClampNeg (some q_65)) (2 : Int32).toNatClampNeg (some q_71))))))), (q_59, .inr (13, [.ref q_60, .ref q_61, .ref q_62, .ref q_63, .int 0])), (q_65, .inr (13, [.ref q_66, .ref q_67, .ref q_68, .ref q_69, .int 0])), (q_71, .inr (13, [.ref q_72, .ref q_73, .ref q_74, .ref q_75, .int 0])), (q_78, .inl (k_79, 3, .inr (.inr (.inr (.inr (va_up (va_up (fun _ => none) (0 : Int32).toNatClampNeg (some q_80)) (1 : Int32).toNatClampNeg (some q_86))))))), (q_80, .inr (13, [.ref q_81, .ref q_82, .ref q_83, .ref q_84, .int 0])), (q_83, .inl (k_85, 128, .inl (fun _ => 0))), (q_86, .inr (13, [.ref q_87, .ref q_88, .ref q_89, .ref q_90, .int 0])), (q_89, .inl (k_91, 128, .inl (fun _ => 0)))]) (w1 := [(q_92, .inr (13, [.ref q_93, .ref q_94, .ref q_95, .ref q_96, .int 0])), (q_95, .inl (k_97, 128, .inl (fun _ => 0)))]) hP hD [10] [0, 1, 2, 3, 4, 5, 6, 7, 8, 9] rfl rfl (by decide) (by decide) hk1 hFc hP1 hD1
  clear hP hD hPc hDc hKc hFc hz1 hw; try clear hk1
  obtain ⟨hP, hD⟩ := hJ
  replace hK := (hK.sub (tys' := [(k_58, .object RX13), (k_79, .object RX13), (k_85, .int), (k_91, .int)]) [0, 1, 2, 3] rfl).app (hK1.sub (tys' := [(k_97, .int)]) [0] rfl)
  clear hP1 hK1 hD1 hvm ht hS; try clear t
  try clear H
  revert hS1
  intro hS
  generalize H1 = H at hP hS ⊢; try clear H1
  replace hP : va_P (dC, dI) vwCl ([(h0, .inr (15, fs_77)), (q_57, .inl (k_58, 3, .inr (.inr (.inr (.inr (va_up (va_up (va_up (fun _ => none) (0 : Int32).toNatClampNeg (some q_59)) (1 : Int32).toNatClampNeg (some q_65)) (2 : Int32).toNatClampNeg (some q_71))))))), (q_59, .inr (13, [.ref q_60, .ref q_61, .ref q_62, .ref q_63, .int 0])), (q_65, .inr (13, [.ref q_66, .ref q_67, .ref q_68, .ref q_69, .int 0])), (q_71, .inr (13, [.ref q_72, .ref q_73, .ref q_74, .ref q_75, .int 0])), (q_78, .inl (k_79, 3, .inr (.inr (.inr (.inr (va_up (va_up (fun _ => none) (0 : Int32).toNatClampNeg (some q_80)) (1 : Int32).toNatClampNeg (some q_86))))))), (q_80, .inr (13, [.ref q_81, .ref q_82, .ref q_83, .ref q_84, .int 0])), (q_83, .inl (k_85, 128, .inl (fun _ => 0))), (q_86, .inr (13, [.ref q_87, .ref q_88, .ref q_89, .ref q_90, .int 0])), (q_89, .inl (k_91, 128, .inl (fun _ => 0))), (q_92, .inr (13, [.ref q_93, .ref q_94, .ref q_95, .ref q_96, .int 0])), (q_95, .inl (k_97, 128, .inl (fun _ => 0)))] ++ pl) H := hP
  replace hD : va_D A ([(h0, .inr (15, fs_77)), (q_57, .inl (k_58, 3, .inr (.inr (.inr (.inr (va_up (va_up (va_up (fun _ => none) (0 : Int32).toNatClampNeg (some q_59)) (1 : Int32).toNatClampNeg (some q_65)) (2 : Int32).toNatClampNeg (some q_71))))))), (q_59, .inr (13, [.ref q_60, .ref q_61, .ref q_62, .ref q_63, .int 0])), (q_65, .inr (13, [.ref q_66, .ref q_67, .ref q_68, .ref q_69, .int 0])), (q_71, .inr (13, [.ref q_72, .ref q_73, .ref q_74, .ref q_75, .int 0])), (q_78, .inl (k_79, 3, .inr (.inr (.inr (.inr (va_up (va_up (fun _ => none) (0 : Int32).toNatClampNeg (some q_80)) (1 : Int32).toNatClampNeg (some q_86))))))), (q_80, .inr (13, [.ref q_81, .ref q_82, .ref q_83, .ref q_84, .int 0])), (q_83, .inl (k_85, 128, .inl (fun _ => 0))), (q_86, .inr (13, [.ref q_87, .ref q_88, .ref q_89, .ref q_90, .int 0])), (q_89, .inl (k_91, 128, .inl (fun _ => 0))), (q_92, .inr (13, [.ref q_93, .ref q_94, .ref q_95, .ref q_96, .int 0])), (q_95, .inl (k_97, 128, .inl (fun _ => 0)))] ++ pl) := hD
  replace hK : va_K (dC, dI) vwCl [(k_58, .object RX13), (k_79, .object RX13), (k_85, .int), (k_91, .int), (k_97, .int)] s := hK
  refine va_astq hx hb hK hP hD hS 5 1 10 13 rfl rfl rfl rfl (by exact fun h => by rcases h with h | h <;> revert h <;> decide) dX15_init_313 ?_
  clear hP hD hS; try clear H
  intro H locs hP hD hS
  replace hP : va_P (dC, dI) vwCl ([(h0, .inr (15, fs_77)), (q_57, .inl (k_58, 3, .inr (.inr (.inr (.inr (va_up (va_up (va_up (fun _ => none) (0 : Int32).toNatClampNeg (some q_59)) (1 : Int32).toNatClampNeg (some q_65)) (2 : Int32).toNatClampNeg (some q_71))))))), (q_59, .inr (13, [.ref q_60, .ref q_61, .ref q_62, .ref q_63, .int 0])), (q_65, .inr (13, [.ref q_66, .ref q_67, .ref q_68, .ref q_69, .int 0])), (q_71, .inr (13, [.ref q_72, .ref q_73, .ref q_74, .ref q_75, .int 0])), (q_78, .inl (k_79, 3, .inr (.inr (.inr (.inr (va_up (va_up (va_up (fun _ => none) (0 : Int32).toNatClampNeg (some q_80)) (1 : Int32).toNatClampNeg (some q_86)) (2 : Int32).toNatClampNeg (some q_92))))))), (q_80, .inr (13, [.ref q_81, .ref q_82, .ref q_83, .ref q_84, .int 0])), (q_83, .inl (k_85, 128, .inl (fun _ => 0))), (q_86, .inr (13, [.ref q_87, .ref q_88, .ref q_89, .ref q_90, .int 0])), (q_89, .inl (k_91, 128, .inl (fun _ => 0))), (q_92, .inr (13, [.ref q_93, .ref q_94, .ref q_95, .ref q_96, .int 0])), (q_95, .inl (k_97, 128, .inl (fun _ => 0)))] ++ pl) H := hP
  replace hD : va_D A ([(h0, .inr (15, fs_77)), (q_57, .inl (k_58, 3, .inr (.inr (.inr (.inr (va_up (va_up (va_up (fun _ => none) (0 : Int32).toNatClampNeg (some q_59)) (1 : Int32).toNatClampNeg (some q_65)) (2 : Int32).toNatClampNeg (some q_71))))))), (q_59, .inr (13, [.ref q_60, .ref q_61, .ref q_62, .ref q_63, .int 0])), (q_65, .inr (13, [.ref q_66, .ref q_67, .ref q_68, .ref q_69, .int 0])), (q_71, .inr (13, [.ref q_72, .ref q_73, .ref q_74, .ref q_75, .int 0])), (q_78, .inl (k_79, 3, .inr (.inr (.inr (.inr (va_up (va_up (va_up (fun _ => none) (0 : Int32).toNatClampNeg (some q_80)) (1 : Int32).toNatClampNeg (some q_86)) (2 : Int32).toNatClampNeg (some q_92))))))), (q_80, .inr (13, [.ref q_81, .ref q_82, .ref q_83, .ref q_84, .int 0])), (q_83, .inl (k_85, 128, .inl (fun _ => 0))), (q_86, .inr (13, [.ref q_87, .ref q_88, .ref q_89, .ref q_90, .int 0])), (q_89, .inl (k_91, 128, .inl (fun _ => 0))), (q_92, .inr (13, [.ref q_93, .ref q_94, .ref q_95, .ref q_96, .int 0])), (q_95, .inl (k_97, 128, .inl (fun _ => 0)))] ++ pl) := hD
  refine va_putF (D := (dC, dI)) (ci := 15) (v := .ref q_78) (ty := .array (.object "MotionSignsModel$Poly")) (C := RX15) (T := TX15) (N := 89) hx hb hts (in_X15_init_X15) tyX15 tyX15_ok nmX15 hown hK hP hD hS 0 rfl rfl 32 (by decide) (hts (.fieldLink RX15 138 "MotionSignsModel" "readField" "[LMotionSignsModel$Poly;") (List.mem_of_getElem? (i := 34) rfl)) (fun _ h9 => h9) rfl hin rfl (tyX15_ok 32 (by decide)) rfl rfl (mF.lt hF (by decide)) dX15_init_314 ?_
  clear hP hD hS; try clear H
  intro H locs hP hD hS
  have hF1 := mF.pass hF 32 (.ref q_78) (by decide) rfl
  replace hP : va_P (dC, dI) vwCl ([(h0, .inr (15, (fs_77.set 32 (.ref q_78)))), (q_57, .inl (k_58, 3, .inr (.inr (.inr (.inr (va_up (va_up (va_up (fun _ => none) (0 : Int32).toNatClampNeg (some q_59)) (1 : Int32).toNatClampNeg (some q_65)) (2 : Int32).toNatClampNeg (some q_71))))))), (q_59, .inr (13, [.ref q_60, .ref q_61, .ref q_62, .ref q_63, .int 0])), (q_65, .inr (13, [.ref q_66, .ref q_67, .ref q_68, .ref q_69, .int 0])), (q_71, .inr (13, [.ref q_72, .ref q_73, .ref q_74, .ref q_75, .int 0])), (q_78, .inl (k_79, 3, .inr (.inr (.inr (.inr (va_up (va_up (va_up (fun _ => none) (0 : Int32).toNatClampNeg (some q_80)) (1 : Int32).toNatClampNeg (some q_86)) (2 : Int32).toNatClampNeg (some q_92))))))), (q_80, .inr (13, [.ref q_81, .ref q_82, .ref q_83, .ref q_84, .int 0])), (q_83, .inl (k_85, 128, .inl (fun _ => 0))), (q_86, .inr (13, [.ref q_87, .ref q_88, .ref q_89, .ref q_90, .int 0])), (q_89, .inl (k_91, 128, .inl (fun _ => 0))), (q_92, .inr (13, [.ref q_93, .ref q_94, .ref q_95, .ref q_96, .int 0])), (q_95, .inl (k_97, 128, .inl (fun _ => 0)))] ++ pl) H := hP
  replace hD : va_D A ([(h0, .inr (15, (fs_77.set 32 (.ref q_78)))), (q_57, .inl (k_58, 3, .inr (.inr (.inr (.inr (va_up (va_up (va_up (fun _ => none) (0 : Int32).toNatClampNeg (some q_59)) (1 : Int32).toNatClampNeg (some q_65)) (2 : Int32).toNatClampNeg (some q_71))))))), (q_59, .inr (13, [.ref q_60, .ref q_61, .ref q_62, .ref q_63, .int 0])), (q_65, .inr (13, [.ref q_66, .ref q_67, .ref q_68, .ref q_69, .int 0])), (q_71, .inr (13, [.ref q_72, .ref q_73, .ref q_74, .ref q_75, .int 0])), (q_78, .inl (k_79, 3, .inr (.inr (.inr (.inr (va_up (va_up (va_up (fun _ => none) (0 : Int32).toNatClampNeg (some q_80)) (1 : Int32).toNatClampNeg (some q_86)) (2 : Int32).toNatClampNeg (some q_92))))))), (q_80, .inr (13, [.ref q_81, .ref q_82, .ref q_83, .ref q_84, .int 0])), (q_83, .inl (k_85, 128, .inl (fun _ => 0))), (q_86, .inr (13, [.ref q_87, .ref q_88, .ref q_89, .ref q_90, .int 0])), (q_89, .inl (k_91, 128, .inl (fun _ => 0))), (q_92, .inr (13, [.ref q_93, .ref q_94, .ref q_95, .ref q_96, .int 0])), (q_95, .inl (k_97, 128, .inl (fun _ => 0)))] ++ pl) := hD
  generalize fs_77.set 32 (.ref q_78) = fs_98 at hP hD hF1
  replace hF : mF 89 [(31, .ref q_57), (30, .ref q_50), (26, .ref q_47), (20, .int (-1)), (17, .int (-1)), (14, .ref q_39), (13, .ref q_35), (0, .int 0), (18, .int 0), (19, .int 0), (21, .int 0), (22, .int 0), (23, .int 0), (24, .int 0), (25, .int 0), (27, .int 0), (28, .int 0), (29, .int 0), (35, .int 0)] fs_98 := hF1
  clear hF1
  replace hP : va_P (dC, dI) vwCl ([(h0, .inr (15, fs_98)), (q_57, .inl (k_58, 3, .inr (.inr (.inr (.inr (va_up (va_up (va_up (fun _ => none) (0 : Int32).toNatClampNeg (some q_59)) (1 : Int32).toNatClampNeg (some q_65)) (2 : Int32).toNatClampNeg (some q_71))))))), (q_59, .inr (13, [.ref q_60, .ref q_61, .ref q_62, .ref q_63, .int 0])), (q_65, .inr (13, [.ref q_66, .ref q_67, .ref q_68, .ref q_69, .int 0])), (q_71, .inr (13, [.ref q_72, .ref q_73, .ref q_74, .ref q_75, .int 0])), (q_78, .inl (k_79, 3, .inr (.inr (.inr (.inr (va_up (va_up (va_up (fun _ => none) (0 : Int32).toNatClampNeg (some q_80)) (1 : Int32).toNatClampNeg (some q_86)) (2 : Int32).toNatClampNeg (some q_92))))))), (q_80, .inr (13, [.ref q_81, .ref q_82, .ref q_83, .ref q_84, .int 0])), (q_83, .inl (k_85, 128, .inl (fun _ => 0))), (q_86, .inr (13, [.ref q_87, .ref q_88, .ref q_89, .ref q_90, .int 0])), (q_89, .inl (k_91, 128, .inl (fun _ => 0))), (q_92, .inr (13, [.ref q_93, .ref q_94, .ref q_95, .ref q_96, .int 0])), (q_95, .inl (k_97, 128, .inl (fun _ => 0)))] ++ pl) H := hP
  replace hD : va_D A ([(h0, .inr (15, fs_98)), (q_57, .inl (k_58, 3, .inr (.inr (.inr (.inr (va_up (va_up (va_up (fun _ => none) (0 : Int32).toNatClampNeg (some q_59)) (1 : Int32).toNatClampNeg (some q_65)) (2 : Int32).toNatClampNeg (some q_71))))))), (q_59, .inr (13, [.ref q_60, .ref q_61, .ref q_62, .ref q_63, .int 0])), (q_65, .inr (13, [.ref q_66, .ref q_67, .ref q_68, .ref q_69, .int 0])), (q_71, .inr (13, [.ref q_72, .ref q_73, .ref q_74, .ref q_75, .int 0])), (q_78, .inl (k_79, 3, .inr (.inr (.inr (.inr (va_up (va_up (va_up (fun _ => none) (0 : Int32).toNatClampNeg (some q_80)) (1 : Int32).toNatClampNeg (some q_86)) (2 : Int32).toNatClampNeg (some q_92))))))), (q_80, .inr (13, [.ref q_81, .ref q_82, .ref q_83, .ref q_84, .int 0])), (q_83, .inl (k_85, 128, .inl (fun _ => 0))), (q_86, .inr (13, [.ref q_87, .ref q_88, .ref q_89, .ref q_90, .int 0])), (q_89, .inl (k_91, 128, .inl (fun _ => 0))), (q_92, .inr (13, [.ref q_93, .ref q_94, .ref q_95, .ref q_96, .int 0])), (q_95, .inl (k_97, 128, .inl (fun _ => 0)))] ++ pl) := hD
  replace hP := wm_subP (X' := [(h0, .inr (15, fs_98)), (q_57, .inl (k_58, 3, .inr (.inr (.inr (.inr (va_up (va_up (va_up (fun _ => none) (0 : Int32).toNatClampNeg (some q_59)) (1 : Int32).toNatClampNeg (some q_65)) (2 : Int32).toNatClampNeg (some q_71))))))), (q_59, .inr (13, [.ref q_60, .ref q_61, .ref q_62, .ref q_63, .int 0])), (q_65, .inr (13, [.ref q_66, .ref q_67, .ref q_68, .ref q_69, .int 0])), (q_71, .inr (13, [.ref q_72, .ref q_73, .ref q_74, .ref q_75, .int 0]))]) hP [0, 1, 2, 3, 4] rfl
  replace hD := wm_subD (X' := [(h0, .inr (15, fs_98)), (q_57, .inl (k_58, 3, .inr (.inr (.inr (.inr (va_up (va_up (va_up (fun _ => none) (0 : Int32).toNatClampNeg (some q_59)) (1 : Int32).toNatClampNeg (some q_65)) (2 : Int32).toNatClampNeg (some q_71))))))), (q_59, .inr (13, [.ref q_60, .ref q_61, .ref q_62, .ref q_63, .int 0])), (q_65, .inr (13, [.ref q_66, .ref q_67, .ref q_68, .ref q_69, .int 0])), (q_71, .inr (13, [.ref q_72, .ref q_73, .ref q_74, .ref q_75, .int 0]))]) hD [0, 1, 2, 3, 4] (by decide) rfl
  replace hK := hK.sub (tys' := [(k_58, .object RX13)]) [0] rfl
  exact kont fs_98 q_57 k_58 q_59 q_65 q_71 q_60 q_61 q_62 q_63 q_66 q_67 q_68 q_69 q_72 q_73 q_74 q_75 H locs ls hP hD hK hS hl hF
set_option maxHeartbeats 40000000 in
set_option maxRecDepth 100000 in
/-- the reference: MotionSignsModel(), rows 317 to 354 -/
theorem c_X15_init_s3 {p : Program} {l : Launch} {e : Env} {s : State} {m : MethodId} {below : List Frame} {meth : Method} {c : Code} {A : Nat → Prop} {Q0 : State → Prop} {dC : Nat → ClassId} {dI : Nat → Nat → Nat} {h0 : Nat} {fs_98 : List Value} {q_57 : Nat} {q_50 : Nat} {q_47 : Nat} {q_39 : Nat} {q_35 : Nat} (hx : p.tables.exec = Jvm.exec) (hb : c.code = cX15_init) (hml : c.maxLocals = 3) (hts : ∀ w ∈ wsM15, w.before ([.ref h0] : List Value).toArray s = true) (hown : s.vm.findClass RX15 = some m.cls) (hin : meth.name = "<init>") (hA : ∀ q : Nat, s.heap.size ≤ q → A q) (hN : w_N s) (pl : va_W) {H : Heap} {locs : List Loc} {ls : Array Slot} (hP : va_P (dC, dI) vwCl ([(h0, .inr (15, fs_98))] ++ pl) H) (hD : va_D A ([(h0, .inr (15, fs_98))] ++ pl)) (hK : va_K (dC, dI) vwCl [] s) (hS : va_S A s.heap H locs) (hl : lv_has ls 3 [(0, .ref h0)]) (hF : mF 89 [(31, .ref q_57), (30, .ref q_50), (26, .ref q_47), (20, .int (-1)), (17, .int (-1)), (14, .ref q_39), (13, .ref q_35), (0, .int 0), (18, .int 0), (19, .int 0), (21, .int 0), (22, .int 0), (23, .int 0), (24, .int 0), (25, .int 0), (27, .int 0), (28, .int 0), (29, .int 0), (35, .int 0)] fs_98) (kont : ∀ (fs_116 : List Value) (q_99 : Nat) (q_100 : Nat) (q_101 : Nat) (q_102 : Nat) (q_103 : Nat) (q_113 : Nat) (k_114 : Nat) (k_115 : Nat) (H : Heap) (locs : List Loc) (ls : Array Slot), va_P (dC, dI) vwCl ([(h0, .inr (15, fs_116)), (q_99, .inr (13, [.ref q_100, .ref q_101, .ref q_102, .ref q_103, .int 0])), (q_113, .inl (k_114, 3, .inr (.inr (.inr (.inr (fun i => if i < 3 then some (q_113 + 1 + i) else none)))))), ((q_113 + 1 + 0), .inl (k_115, 4, .inr (.inr (.inr (.inr (fun _ => none)))))), ((q_113 + 1 + 1), .inl (k_115, 4, .inr (.inr (.inr (.inr (fun _ => none)))))), ((q_113 + 1 + 2), .inl (k_115, 4, .inr (.inr (.inr (.inr (fun _ => none))))))] ++ pl) H → va_D A ([(h0, .inr (15, fs_116)), (q_99, .inr (13, [.ref q_100, .ref q_101, .ref q_102, .ref q_103, .int 0])), (q_113, .inl (k_114, 3, .inr (.inr (.inr (.inr (fun i => if i < 3 then some (q_113 + 1 + i) else none)))))), ((q_113 + 1 + 0), .inl (k_115, 4, .inr (.inr (.inr (.inr (fun _ => none)))))), ((q_113 + 1 + 1), .inl (k_115, 4, .inr (.inr (.inr (.inr (fun _ => none)))))), ((q_113 + 1 + 2), .inl (k_115, 4, .inr (.inr (.inr (.inr (fun _ => none))))))] ++ pl) → va_K (dC, dI) vwCl [(k_114, .array (.object RX13)), (k_115, .object RX13)] s → va_S A s.heap H locs → lv_has ls 3 [(0, .ref h0)] → mF 89 [(36, .ref q_113), (33, .ref q_99), (31, .ref q_57), (30, .ref q_50), (26, .ref q_47), (20, .int (-1)), (17, .int (-1)), (14, .ref q_39), (13, .ref q_35), (0, .int 0), (18, .int 0), (19, .int 0), (21, .int 0), (22, .int 0), (23, .int 0), (24, .int 0), (25, .int 0), (27, .int 0), (28, .int 0), (29, .int 0), (35, .int 0)] fs_116 → W p l e ({ frames := 3, cells := 7193, slots := 3261971, locals := 56 } : Room) s m ([.ref h0] : List Value).toArray below meth c H locs 3771 520356 Q0 (F0 m 354 ls [])) : W p l e ({ frames := 3, cells := 7193, slots := 3261971, locals := 56 } : Room) s m ([.ref h0] : List Value).toArray below meth c H locs 3757 499531 Q0 (F0 m 317 ls []) := by
  refine lv_aload_n hx hb dX15_init_317 rfl (lv_at hl 0 rfl) ?_
  refine va_new (ci := 13) (fs := [.null, .null, .null, .null, .int 0]) (C := RX13) (T := TX13) (N := 5) hx hb hts (in_X15_init_X13) tyX13 tyX13_ok hown (hts (.classLink RX15 127 RX13) (List.mem_of_getElem? (i := 29) rfl)) (hts (.instantiable RX13 5) (List.mem_of_getElem? (i := 30) rfl)) (hts (.initialized RX13) (List.mem_of_getElem? (i := 31) rfl)) hK hP hD hS hA rfl (fun j hj => by rcases (show j = 0 ∨ j = 1 ∨ j = 2 ∨ j = 3 ∨ j = 4 by omega) with rfl | rfl | rfl | rfl | rfl <;> rfl) (Nat.le_of_ble_eq_true rfl) (Nat.le_of_ble_eq_true rfl) dX15_init_318 ?_
  clear hP hD hS; try clear H
  intro q_99 H hP hD hS
  replace hP := va_P.swap hP; replace hD := va_D.swap hD
  replace hP : va_P (dC, dI) vwCl ([(h0, .inr (15, fs_98)), (q_99, .inr (13, [.null, .null, .null, .null, .int 0]))] ++ pl) H := hP
  replace hD : va_D A ([(h0, .inr (15, fs_98)), (q_99, .inr (13, [.null, .null, .null, .null, .int 0]))] ++ pl) := hD
  refine lv_dup hx hb dX15_init_321 rfl ?_
  refine lv_bipush (v := 64) hx hb dX15_init_322 (by decide) ?_
  have hPc := hP.sub (ws' := [(q_99, .inr (13, [.null, .null, .null, .null, .int 0]))]) [1] rfl
  have hDc := hD.sub (ws' := [(q_99, .inr (13, [.null, .null, .null, .null, .int 0]))]) [1] (by decide) rfl
  have hKc := hK.sub (tys' := []) [] rfl
  have hFc := va_free (wc := [(q_99, .inr (13, [.null, .null, .null, .null, .int 0]))]) hD hS hA [1] rfl
  refine va_callv (va_runIN (As := [.int 64]) (rest := [.ref q_99, .ref h0]) ⟨hx, hb, hml, hown, hts⟩ (c_X13_init_64 l dC dI q_99 H.size) ⟨va_cnB 1 hts gM15_X13 rfl rfl rfl (hN.1 (RX15, 129, yX13_init, RX15) (List.mem_of_getElem? (i := 28) rfl)) (hts (.initialized RX13) (List.mem_of_getElem? (i := 31) rfl)) hd_X13_init ⟨Nat.le_of_ble_eq_true rfl, Nat.le_of_ble_eq_true rfl⟩, rfl, (hts (.instanceMethod yX13_init) (List.mem_of_getElem? (i := 100) rfl))⟩ ⟨fun a U g mk q => by obtain ⟨q0, q1, qP, qK, qD, qE0⟩ := q; exact ⟨q0, q1, qP, va_K.moved (u := U) (U := U.calling g mk a) (Vm.Alike.refl U.vm) qK, qD, w_N.same rfl qE0⟩, fun U hU hW => ⟨rfl, by rw [hU], by rw [hU]; exact hPc, va_K.moved hW.alike hKc, hDc.weaken (fun _ _ _ _ => trivial), w_N.warm hW hN⟩⟩ rfl rfl hl.1 rfl (lv_room (Nat.le_of_ble_eq_true rfl)) dX15_init_324 ⟨(Nat.le_of_ble_eq_true rfl), (Nat.le_of_ble_eq_true rfl)⟩) hS (fun q _ h => hFc q h) hFc (fun u t H1 locs1 ht hvm hw hB hz1 hk1 hS1 => ?_)
  obtain ⟨q_100, q_101, q_102, q_103, k_104, hP1, hK1, hD1⟩ := hB
  rw [ht] at hP1
  have hK1 := va_K.moved hvm.symm hK1
  have hJ := va_joinQ (wr := [(h0, .inr (15, fs_98))]) (w1 := [(q_99, .inr (13, [.ref q_100, .ref q_101, .ref q_102, .ref q_103, .int 0])), (q_102, .inl (k_104, 128, .inl (fun _ => 0)))]) hP hD [1] [0] rfl rfl (by decide) (by decide) hk1 hFc hP1 hD1
  clear hP hD hPc hDc hKc hFc hz1 hw; try clear hk1
  obtain ⟨hP, hD⟩ := hJ
  replace hK := (hK.sub (tys' := []) [] rfl).app (hK1.sub (tys' := [(k_104, .int)]) [0] rfl)
  clear hP1 hK1 hD1 hvm ht hS; try clear t
  try clear H
  revert hS1
  intro hS
  generalize H1 = H at hP hS ⊢; try clear H1
  replace hP : va_P (dC, dI) vwCl ([(h0, .inr (15, fs_98)), (q_99, .inr (13, [.ref q_100, .ref q_101, .ref q_102, .ref q_103, .int 0])), (q_102, .inl (k_104, 128, .inl (fun _ => 0)))] ++ pl) H := hP
  replace hD : va_D A ([(h0, .inr (15, fs_98)), (q_99, .inr (13, [.ref q_100, .ref q_101, .ref q_102, .ref q_103, .int 0])), (q_102, .inl (k_104, 128, .inl (fun _ => 0)))] ++ pl) := hD
  replace hK : va_K (dC, dI) vwCl [(k_104, .int)] s := hK
  refine va_putF (D := (dC, dI)) (ci := 15) (v := .ref q_99) (ty := .object "MotionSignsModel$Poly") (C := RX15) (T := TX15) (N := 89) hx hb hts (in_X15_init_X15) tyX15 tyX15_ok nmX15 hown hK hP hD hS 0 rfl rfl 33 (by decide) (hts (.fieldLink RX15 141 "MotionSignsModel" "solution" "LMotionSignsModel$Poly;") (List.mem_of_getElem? (i := 35) rfl)) (fun _ h9 => h9) rfl hin rfl (tyX15_ok 33 (by decide)) rfl rfl (mF.lt hF (by decide)) dX15_init_327 ?_
  clear hP hD hS; try clear H
  intro H locs hP hD hS
  have hF1 := mF.put hF 33 (.ref q_99) (by decide) rfl
  replace hP : va_P (dC, dI) vwCl ([(h0, .inr (15, (fs_98.set 33 (.ref q_99)))), (q_99, .inr (13, [.ref q_100, .ref q_101, .ref q_102, .ref q_103, .int 0])), (q_102, .inl (k_104, 128, .inl (fun _ => 0)))] ++ pl) H := hP
  replace hD : va_D A ([(h0, .inr (15, (fs_98.set 33 (.ref q_99)))), (q_99, .inr (13, [.ref q_100, .ref q_101, .ref q_102, .ref q_103, .int 0])), (q_102, .inl (k_104, 128, .inl (fun _ => 0)))] ++ pl) := hD
  generalize fs_98.set 33 (.ref q_99) = fs_105 at hP hD hF1
  replace hF : mF 89 [(33, .ref q_99), (31, .ref q_57), (30, .ref q_50), (26, .ref q_47), (20, .int (-1)), (17, .int (-1)), (14, .ref q_39), (13, .ref q_35), (0, .int 0), (18, .int 0), (19, .int 0), (21, .int 0), (22, .int 0), (23, .int 0), (24, .int 0), (25, .int 0), (27, .int 0), (28, .int 0), (29, .int 0), (35, .int 0)] fs_105 := hF1
  clear hF1
  replace hP : va_P (dC, dI) vwCl ([(h0, .inr (15, fs_105)), (q_99, .inr (13, [.ref q_100, .ref q_101, .ref q_102, .ref q_103, .int 0])), (q_102, .inl (k_104, 128, .inl (fun _ => 0)))] ++ pl) H := hP
  replace hD : va_D A ([(h0, .inr (15, fs_105)), (q_99, .inr (13, [.ref q_100, .ref q_101, .ref q_102, .ref q_103, .int 0])), (q_102, .inl (k_104, 128, .inl (fun _ => 0)))] ++ pl) := hD
  replace hP := wm_subP (X' := [(h0, .inr (15, fs_105)), (q_99, .inr (13, [.ref q_100, .ref q_101, .ref q_102, .ref q_103, .int 0]))]) hP [0, 1] rfl
  replace hD := wm_subD (X' := [(h0, .inr (15, fs_105)), (q_99, .inr (13, [.ref q_100, .ref q_101, .ref q_102, .ref q_103, .int 0]))]) hD [0, 1] (by decide) rfl
  replace hK := hK.sub (tys' := []) [] rfl
  refine lv_aload_n hx hb dX15_init_330 rfl (lv_at hl 0 rfl) ?_
  refine va_new (ci := 13) (fs := [.null, .null, .null, .null, .int 0]) (C := RX13) (T := TX13) (N := 5) hx hb hts (in_X15_init_X13) tyX13 tyX13_ok hown (hts (.classLink RX15 127 RX13) (List.mem_of_getElem? (i := 29) rfl)) (hts (.instantiable RX13 5) (List.mem_of_getElem? (i := 30) rfl)) (hts (.initialized RX13) (List.mem_of_getElem? (i := 31) rfl)) hK hP hD hS hA rfl (fun j hj => by rcases (show j = 0 ∨ j = 1 ∨ j = 2 ∨ j = 3 ∨ j = 4 by omega) with rfl | rfl | rfl | rfl | rfl <;> rfl) (Nat.le_of_ble_eq_true rfl) (Nat.le_of_ble_eq_true rfl) dX15_init_331 ?_
  clear hP hD hS; try clear H
  intro q_106 H hP hD hS
  replace hP := va_P.swap hP; replace hD := va_D.swap hD
  replace hP : va_P (dC, dI) vwCl ([(h0, .inr (15, fs_105)), (q_99, .inr (13, [.ref q_100, .ref q_101, .ref q_102, .ref q_103, .int 0])), (q_106, .inr (13, [.null, .null, .null, .null, .int 0]))] ++ pl) H := hP
  replace hD : va_D A ([(h0, .inr (15, fs_105)), (q_99, .inr (13, [.ref q_100, .ref q_101, .ref q_102, .ref q_103, .int 0])), (q_106, .inr (13, [.null, .null, .null, .null, .int 0]))] ++ pl) := hD
  refine lv_dup hx hb dX15_init_334 rfl ?_
  refine lv_sipush (v := 4096) hx hb dX15_init_335 (by decide) ?_
  have hPc := hP.sub (ws' := [(q_106, .inr (13, [.null, .null, .null, .null, .int 0]))]) [2] rfl
  have hDc := hD.sub (ws' := [(q_106, .inr (13, [.null, .null, .null, .null, .int 0]))]) [2] (by decide) rfl
  have hKc := hK.sub (tys' := []) [] rfl
  have hFc := va_free (wc := [(q_106, .inr (13, [.null, .null, .null, .null, .int 0]))]) hD hS hA [2] rfl
  refine va_callv (va_runIN (As := [.int 4096]) (rest := [.ref q_106, .ref h0]) ⟨hx, hb, hml, hown, hts⟩ (c_X13_init_4096 l dC dI q_106 H.size) ⟨va_cnB 1 hts gM15_X13 rfl rfl rfl (hN.1 (RX15, 129, yX13_init, RX15) (List.mem_of_getElem? (i := 28) rfl)) (hts (.initialized RX13) (List.mem_of_getElem? (i := 31) rfl)) hd_X13_init ⟨Nat.le_of_ble_eq_true rfl, Nat.le_of_ble_eq_true rfl⟩, rfl, (hts (.instanceMethod yX13_init) (List.mem_of_getElem? (i := 100) rfl))⟩ ⟨fun a U g mk q => by obtain ⟨q0, q1, qP, qK, qD, qE0⟩ := q; exact ⟨q0, q1, qP, va_K.moved (u := U) (U := U.calling g mk a) (Vm.Alike.refl U.vm) qK, qD, w_N.same rfl qE0⟩, fun U hU hW => ⟨rfl, by rw [hU], by rw [hU]; exact hPc, va_K.moved hW.alike hKc, hDc.weaken (fun _ _ _ _ => trivial), w_N.warm hW hN⟩⟩ rfl rfl hl.1 rfl (lv_room (Nat.le_of_ble_eq_true rfl)) dX15_init_338 ⟨(Nat.le_of_ble_eq_true rfl), (Nat.le_of_ble_eq_true rfl)⟩) hS (fun q _ h => hFc q h) hFc (fun u t H1 locs1 ht hvm hw hB hz1 hk1 hS1 => ?_)
  obtain ⟨q_107, q_108, q_109, q_110, k_111, hP1, hK1, hD1⟩ := hB
  rw [ht] at hP1
  have hK1 := va_K.moved hvm.symm hK1
  have hJ := va_joinQ (wr := [(h0, .inr (15, fs_105)), (q_99, .inr (13, [.ref q_100, .ref q_101, .ref q_102, .ref q_103, .int 0]))]) (w1 := [(q_106, .inr (13, [.ref q_107, .ref q_108, .ref q_109, .ref q_110, .int 0])), (q_109, .inl (k_111, 8192, .inl (fun _ => 0)))]) hP hD [2] [0, 1] rfl rfl (by decide) (by decide) hk1 hFc hP1 hD1
  clear hP hD hPc hDc hKc hFc hz1 hw; try clear hk1
  obtain ⟨hP, hD⟩ := hJ
  replace hK := (hK.sub (tys' := []) [] rfl).app (hK1.sub (tys' := [(k_111, .int)]) [0] rfl)
  clear hP1 hK1 hD1 hvm ht hS; try clear t
  try clear H
  revert hS1
  intro hS
  generalize H1 = H at hP hS ⊢; try clear H1
  replace hP : va_P (dC, dI) vwCl ([(h0, .inr (15, fs_105)), (q_99, .inr (13, [.ref q_100, .ref q_101, .ref q_102, .ref q_103, .int 0])), (q_106, .inr (13, [.ref q_107, .ref q_108, .ref q_109, .ref q_110, .int 0])), (q_109, .inl (k_111, 8192, .inl (fun _ => 0)))] ++ pl) H := hP
  replace hD : va_D A ([(h0, .inr (15, fs_105)), (q_99, .inr (13, [.ref q_100, .ref q_101, .ref q_102, .ref q_103, .int 0])), (q_106, .inr (13, [.ref q_107, .ref q_108, .ref q_109, .ref q_110, .int 0])), (q_109, .inl (k_111, 8192, .inl (fun _ => 0)))] ++ pl) := hD
  replace hK : va_K (dC, dI) vwCl [(k_111, .int)] s := hK
  refine va_putF (D := (dC, dI)) (ci := 15) (v := .ref q_106) (ty := .object "MotionSignsModel$Poly") (C := RX15) (T := TX15) (N := 89) hx hb hts (in_X15_init_X15) tyX15 tyX15_ok nmX15 hown hK hP hD hS 0 rfl rfl 34 (by decide) (hts (.fieldLink RX15 144 "MotionSignsModel" "work" "LMotionSignsModel$Poly;") (List.mem_of_getElem? (i := 36) rfl)) (fun _ h9 => h9) rfl hin rfl (tyX15_ok 34 (by decide)) rfl rfl (mF.lt hF (by decide)) dX15_init_341 ?_
  clear hP hD hS; try clear H
  intro H locs hP hD hS
  have hF1 := mF.pass hF 34 (.ref q_106) (by decide) rfl
  replace hP : va_P (dC, dI) vwCl ([(h0, .inr (15, (fs_105.set 34 (.ref q_106)))), (q_99, .inr (13, [.ref q_100, .ref q_101, .ref q_102, .ref q_103, .int 0])), (q_106, .inr (13, [.ref q_107, .ref q_108, .ref q_109, .ref q_110, .int 0])), (q_109, .inl (k_111, 8192, .inl (fun _ => 0)))] ++ pl) H := hP
  replace hD : va_D A ([(h0, .inr (15, (fs_105.set 34 (.ref q_106)))), (q_99, .inr (13, [.ref q_100, .ref q_101, .ref q_102, .ref q_103, .int 0])), (q_106, .inr (13, [.ref q_107, .ref q_108, .ref q_109, .ref q_110, .int 0])), (q_109, .inl (k_111, 8192, .inl (fun _ => 0)))] ++ pl) := hD
  generalize fs_105.set 34 (.ref q_106) = fs_112 at hP hD hF1
  replace hF : mF 89 [(33, .ref q_99), (31, .ref q_57), (30, .ref q_50), (26, .ref q_47), (20, .int (-1)), (17, .int (-1)), (14, .ref q_39), (13, .ref q_35), (0, .int 0), (18, .int 0), (19, .int 0), (21, .int 0), (22, .int 0), (23, .int 0), (24, .int 0), (25, .int 0), (27, .int 0), (28, .int 0), (29, .int 0), (35, .int 0)] fs_112 := hF1
  clear hF1
  replace hP : va_P (dC, dI) vwCl ([(h0, .inr (15, fs_112)), (q_99, .inr (13, [.ref q_100, .ref q_101, .ref q_102, .ref q_103, .int 0])), (q_106, .inr (13, [.ref q_107, .ref q_108, .ref q_109, .ref q_110, .int 0])), (q_109, .inl (k_111, 8192, .inl (fun _ => 0)))] ++ pl) H := hP
  replace hD : va_D A ([(h0, .inr (15, fs_112)), (q_99, .inr (13, [.ref q_100, .ref q_101, .ref q_102, .ref q_103, .int 0])), (q_106, .inr (13, [.ref q_107, .ref q_108, .ref q_109, .ref q_110, .int 0])), (q_109, .inl (k_111, 8192, .inl (fun _ => 0)))] ++ pl) := hD
  replace hP := wm_subP (X' := [(h0, .inr (15, fs_112)), (q_99, .inr (13, [.ref q_100, .ref q_101, .ref q_102, .ref q_103, .int 0]))]) hP [0, 1] rfl
  replace hD := wm_subD (X' := [(h0, .inr (15, fs_112)), (q_99, .inr (13, [.ref q_100, .ref q_101, .ref q_102, .ref q_103, .int 0]))]) hD [0, 1] (by decide) rfl
  replace hK := hK.sub (tys' := []) [] rfl
  refine lv_aload_n hx hb dX15_init_344 rfl (lv_at hl 0 rfl) ?_
  refine lv_iconst (v := 3) hx hb dX15_init_345 (by decide) ?_
  refine lv_iconst (v := 4) hx hb dX15_init_346 (by decide) ?_
  refine wm_mnaO (C := RX13) (N' := 3) (K' := 4) hx hb (by decide +kernel) (by decide +kernel) hown (hts (.classLink RX15 147 "[[LMotionSignsModel$Poly;") (List.mem_of_getElem? (i := 210) rfl)) (hN.2.2.2.2.2.2.2.2.2.2) (hN.2.2.1 RX13 (List.mem_of_getElem? (i := 5) rfl)) hK hP hD hS hA (by decide) (by decide) (by decide) (by decide) (Nat.le_of_ble_eq_true rfl) (Nat.le_of_ble_eq_true rfl) (Nat.le_of_ble_eq_true rfl) (Nat.le_of_ble_eq_true rfl) dX15_init_347 ?_
  clear hP hD hS hK; try clear H
  intro q_113 k_114 k_115 H hK hP hD hS
  replace hP := wm_layP hP; replace hD := wm_layD hD
  replace hP : va_P (dC, dI) vwCl ([(h0, .inr (15, fs_112)), (q_99, .inr (13, [.ref q_100, .ref q_101, .ref q_102, .ref q_103, .int 0])), (q_113, .inl (k_114, 3, .inr (.inr (.inr (.inr (fun i => if i < 3 then some (q_113 + 1 + i) else none)))))), ((q_113 + 1 + 0), .inl (k_115, 4, .inr (.inr (.inr (.inr (fun _ => none)))))), ((q_113 + 1 + 1), .inl (k_115, 4, .inr (.inr (.inr (.inr (fun _ => none)))))), ((q_113 + 1 + 2), .inl (k_115, 4, .inr (.inr (.inr (.inr (fun _ => none))))))] ++ pl) H := hP
  replace hD : va_D A ([(h0, .inr (15, fs_112)), (q_99, .inr (13, [.ref q_100, .ref q_101, .ref q_102, .ref q_103, .int 0])), (q_113, .inl (k_114, 3, .inr (.inr (.inr (.inr (fun i => if i < 3 then some (q_113 + 1 + i) else none)))))), ((q_113 + 1 + 0), .inl (k_115, 4, .inr (.inr (.inr (.inr (fun _ => none)))))), ((q_113 + 1 + 1), .inl (k_115, 4, .inr (.inr (.inr (.inr (fun _ => none)))))), ((q_113 + 1 + 2), .inl (k_115, 4, .inr (.inr (.inr (.inr (fun _ => none))))))] ++ pl) := hD
  replace hK : va_K (dC, dI) vwCl [(k_114, .array (.object RX13)), (k_115, .object RX13)] s := hK
  refine va_putF (D := (dC, dI)) (ci := 15) (v := .ref q_113) (ty := .array (.array (.object "MotionSignsModel$Poly"))) (C := RX15) (T := TX15) (N := 89) hx hb hts (in_X15_init_X15) tyX15 tyX15_ok nmX15 hown hK hP hD hS 0 rfl rfl 36 (by decide) (hts (.fieldLink RX15 149 "MotionSignsModel" "kept" "[[LMotionSignsModel$Poly;") (List.mem_of_getElem? (i := 37) rfl)) (fun _ h9 => h9) rfl hin rfl (tyX15_ok 36 (by decide)) rfl rfl (mF.lt hF (by decide)) dX15_init_351 ?_
  clear hP hD hS; try clear H
  intro H locs hP hD hS
  have hF1 := mF.put hF 36 (.ref q_113) (by decide) rfl
  replace hP : va_P (dC, dI) vwCl ([(h0, .inr (15, (fs_112.set 36 (.ref q_113)))), (q_99, .inr (13, [.ref q_100, .ref q_101, .ref q_102, .ref q_103, .int 0])), (q_113, .inl (k_114, 3, .inr (.inr (.inr (.inr (fun i => if i < 3 then some (q_113 + 1 + i) else none)))))), ((q_113 + 1 + 0), .inl (k_115, 4, .inr (.inr (.inr (.inr (fun _ => none)))))), ((q_113 + 1 + 1), .inl (k_115, 4, .inr (.inr (.inr (.inr (fun _ => none)))))), ((q_113 + 1 + 2), .inl (k_115, 4, .inr (.inr (.inr (.inr (fun _ => none))))))] ++ pl) H := hP
  replace hD : va_D A ([(h0, .inr (15, (fs_112.set 36 (.ref q_113)))), (q_99, .inr (13, [.ref q_100, .ref q_101, .ref q_102, .ref q_103, .int 0])), (q_113, .inl (k_114, 3, .inr (.inr (.inr (.inr (fun i => if i < 3 then some (q_113 + 1 + i) else none)))))), ((q_113 + 1 + 0), .inl (k_115, 4, .inr (.inr (.inr (.inr (fun _ => none)))))), ((q_113 + 1 + 1), .inl (k_115, 4, .inr (.inr (.inr (.inr (fun _ => none)))))), ((q_113 + 1 + 2), .inl (k_115, 4, .inr (.inr (.inr (.inr (fun _ => none))))))] ++ pl) := hD
  generalize fs_112.set 36 (.ref q_113) = fs_116 at hP hD hF1
  replace hF : mF 89 [(36, .ref q_113), (33, .ref q_99), (31, .ref q_57), (30, .ref q_50), (26, .ref q_47), (20, .int (-1)), (17, .int (-1)), (14, .ref q_39), (13, .ref q_35), (0, .int 0), (18, .int 0), (19, .int 0), (21, .int 0), (22, .int 0), (23, .int 0), (24, .int 0), (25, .int 0), (27, .int 0), (28, .int 0), (29, .int 0), (35, .int 0)] fs_116 := hF1
  clear hF1
  replace hP : va_P (dC, dI) vwCl ([(h0, .inr (15, fs_116)), (q_99, .inr (13, [.ref q_100, .ref q_101, .ref q_102, .ref q_103, .int 0])), (q_113, .inl (k_114, 3, .inr (.inr (.inr (.inr (fun i => if i < 3 then some (q_113 + 1 + i) else none)))))), ((q_113 + 1 + 0), .inl (k_115, 4, .inr (.inr (.inr (.inr (fun _ => none)))))), ((q_113 + 1 + 1), .inl (k_115, 4, .inr (.inr (.inr (.inr (fun _ => none)))))), ((q_113 + 1 + 2), .inl (k_115, 4, .inr (.inr (.inr (.inr (fun _ => none))))))] ++ pl) H := hP
  replace hD : va_D A ([(h0, .inr (15, fs_116)), (q_99, .inr (13, [.ref q_100, .ref q_101, .ref q_102, .ref q_103, .int 0])), (q_113, .inl (k_114, 3, .inr (.inr (.inr (.inr (fun i => if i < 3 then some (q_113 + 1 + i) else none)))))), ((q_113 + 1 + 0), .inl (k_115, 4, .inr (.inr (.inr (.inr (fun _ => none)))))), ((q_113 + 1 + 1), .inl (k_115, 4, .inr (.inr (.inr (.inr (fun _ => none)))))), ((q_113 + 1 + 2), .inl (k_115, 4, .inr (.inr (.inr (.inr (fun _ => none))))))] ++ pl) := hD
  exact kont fs_116 q_99 q_100 q_101 q_102 q_103 q_113 k_114 k_115 H locs ls hP hD hK hS hl hF
