set_option maxHeartbeats 40000000 in
set_option maxRecDepth 100000 in
/-- the reference: MotionSignsModel(), rows 1020 to 1112 -/
theorem c_X15_init_s12 {p : Program} {l : Launch} {e : Env} {s : State} {m : MethodId} {below : List Frame} {meth : Method} {c : Code} {A : Nat → Prop} {Q0 : State → Prop} {dC : Nat → ClassId} {dI : Nat → Nat → Nat} {h0 : Nat} {fs_386 : List Value} {q_113 : Nat} {q_99 : Nat} {q_57 : Nat} {q_50 : Nat} {q_47 : Nat} {q_39 : Nat} {q_35 : Nat} (hx : p.tables.exec = Jvm.exec) (hb : c.code = cX15_init) (hml : c.maxLocals = 3) (hts : ∀ w ∈ wsM15, w.before ([.ref h0] : List Value).toArray s = true) (hown : s.vm.findClass RX15 = some m.cls) (hin : meth.name = "<init>") (hA : ∀ q : Nat, s.heap.size ≤ q → A q) (hN : w_N s) (pl : va_W) {H : Heap} {locs : List Loc} {ls : Array Slot} (hP : va_P (dC, dI) vwCl ([(h0, .inr (15, fs_386))] ++ pl) H) (hD : va_D A ([(h0, .inr (15, fs_386))] ++ pl)) (hK : va_K (dC, dI) vwCl [] s) (hS : va_S A s.heap H locs) (hl : lv_has ls 3 [(0, .ref h0)]) (hF : mF 89 [(36, .ref q_113), (33, .ref q_99), (31, .ref q_57), (30, .ref q_50), (26, .ref q_47), (20, .int (-1)), (17, .int (-1)), (14, .ref q_39), (13, .ref q_35), (0, .int 0), (18, .int 0), (19, .int 0), (21, .int 0), (22, .int 0), (23, .int 0), (24, .int 0), (25, .int 0), (27, .int 0), (28, .int 0), (29, .int 0), (35, .int 0)] fs_386) (kont : ∀ (fs_419 : List Value) (H : Heap) (locs : List Loc) (ls : Array Slot), va_P (dC, dI) vwCl ([(h0, .inr (15, fs_419))] ++ pl) H → va_D A ([(h0, .inr (15, fs_419))] ++ pl) → va_K (dC, dI) vwCl [] s → va_S A s.heap H locs → lv_has ls 3 [(0, .ref h0)] → mF 89 [(36, .ref q_113), (33, .ref q_99), (31, .ref q_57), (30, .ref q_50), (26, .ref q_47), (20, .int (-1)), (17, .int (-1)), (14, .ref q_39), (13, .ref q_35), (0, .int 0), (18, .int 0), (19, .int 0), (21, .int 0), (22, .int 0), (23, .int 0), (24, .int 0), (25, .int 0), (27, .int 0), (28, .int 0), (29, .int 0), (35, .int 0)] fs_419 → W p l e ({ frames := 3, cells := 7193, slots := 3261971, locals := 56 } : Room) s m ([.ref h0] : List Value).toArray below meth c H locs 5258 2942726 Q0 (F0 m 1112 ls [])) : W p l e ({ frames := 3, cells := 7193, slots := 3261971, locals := 56 } : Room) s m ([.ref h0] : List Value).toArray below meth c H locs 4988 2921004 Q0 (F0 m 1020 ls []) := by
  refine lv_aload_n hx hb dX15_init_1020 rfl (lv_at hl 0 rfl) ?_
  refine lv_bipush (v := 82) hx hb dX15_init_1021 (by decide) ?_
  refine lv_bipush (v := 82) hx hb dX15_init_1023 (by decide) ?_
  refine wm_mna2 (nm1 := "[J") (t0 := .array (.long)) (type := .long) (N' := 82) (K' := 82) hx hb hown (hts (.classLink RX15 207 "[[J") (List.mem_of_getElem? (i := 59) rfl)) (hN.2.2.2.2.1) (hN.2.2.2.1) rfl rfl hP hD hS (by decide) (by decide) (by decide) (by decide) (Nat.le_of_ble_eq_true rfl) (Nat.le_of_ble_eq_true rfl) (Nat.le_of_ble_eq_true rfl) rfl rfl (Nat.le_of_ble_eq_true rfl) (Nat.le_of_ble_eq_true rfl) dX15_init_1025 ?_
  clear hP hD hS; try clear H
  intro q_387 H hP hD hS
  replace hP : va_P (dC, dI) vwCl ([(h0, .inr (15, fs_386))] ++ pl) H := hP
  replace hD : va_D A ([(h0, .inr (15, fs_386))] ++ pl) := hD
  refine va_putF (D := (dC, dI)) (ci := 15) (v := .ref q_387) (ty := .array (.array .long)) (C := RX15) (T := TX15) (N := 89) hx hb hts (in_X15_init_X15) tyX15 tyX15_ok nmX15 hown hK hP hD hS 0 rfl rfl 80 (by decide) (hts (.fieldLink RX15 275 "MotionSignsModel" "sofar" "[[J") (List.mem_of_getElem? (i := 82) rfl)) (fun _ h9 => h9) rfl hin rfl (tyX15_ok 80 (by decide)) rfl rfl (mF.lt hF (by decide)) dX15_init_1029 ?_
  clear hP hD hS; try clear H
  intro H locs hP hD hS
  have hF1 := mF.pass hF 80 (.ref q_387) (by decide) rfl
  replace hP : va_P (dC, dI) vwCl ([(h0, .inr (15, (fs_386.set 80 (.ref q_387))))] ++ pl) H := hP
  replace hD : va_D A ([(h0, .inr (15, (fs_386.set 80 (.ref q_387))))] ++ pl) := hD
  generalize fs_386.set 80 (.ref q_387) = fs_388 at hP hD hF1
  replace hF : mF 89 [(36, .ref q_113), (33, .ref q_99), (31, .ref q_57), (30, .ref q_50), (26, .ref q_47), (20, .int (-1)), (17, .int (-1)), (14, .ref q_39), (13, .ref q_35), (0, .int 0), (18, .int 0), (19, .int 0), (21, .int 0), (22, .int 0), (23, .int 0), (24, .int 0), (25, .int 0), (27, .int 0), (28, .int 0), (29, .int 0), (35, .int 0)] fs_388 := hF1
  clear hF1
  replace hP : va_P (dC, dI) vwCl ([(h0, .inr (15, fs_388))] ++ pl) H := hP
  replace hD : va_D A ([(h0, .inr (15, fs_388))] ++ pl) := hD
  refine lv_aload_n hx hb dX15_init_1032 rfl (lv_at hl 0 rfl) ?_
  refine lv_bipush (v := 82) hx hb dX15_init_1033 (by decide) ?_
  refine lv_bipush (v := 82) hx hb dX15_init_1035 (by decide) ?_
  refine wm_mna2 (nm1 := "[J") (t0 := .array (.long)) (type := .long) (N' := 82) (K' := 82) hx hb hown (hts (.classLink RX15 207 "[[J") (List.mem_of_getElem? (i := 59) rfl)) (hN.2.2.2.2.1) (hN.2.2.2.1) rfl rfl hP hD hS (by decide) (by decide) (by decide) (by decide) (Nat.le_of_ble_eq_true rfl) (Nat.le_of_ble_eq_true rfl) (Nat.le_of_ble_eq_true rfl) rfl rfl (Nat.le_of_ble_eq_true rfl) (Nat.le_of_ble_eq_true rfl) dX15_init_1037 ?_
  clear hP hD hS; try clear H
  intro q_389 H hP hD hS
  replace hP : va_P (dC, dI) vwCl ([(h0, .inr (15, fs_388))] ++ pl) H := hP
  replace hD : va_D A ([(h0, .inr (15, fs_388))] ++ pl) := hD
  refine va_putF (D := (dC, dI)) (ci := 15) (v := .ref q_389) (ty := .array (.array .long)) (C := RX15) (T := TX15) (N := 89) hx hb hts (in_X15_init_X15) tyX15 tyX15_ok nmX15 hown hK hP hD hS 0 rfl rfl 81 (by decide) (hts (.fieldLink RX15 278 "MotionSignsModel" "next" "[[J") (List.mem_of_getElem? (i := 83) rfl)) (fun _ h9 => h9) rfl hin rfl (tyX15_ok 81 (by decide)) rfl rfl (mF.lt hF (by decide)) dX15_init_1041 ?_
  clear hP hD hS; try clear H
  intro H locs hP hD hS
  have hF1 := mF.pass hF 81 (.ref q_389) (by decide) rfl
  replace hP : va_P (dC, dI) vwCl ([(h0, .inr (15, (fs_388.set 81 (.ref q_389))))] ++ pl) H := hP
  replace hD : va_D A ([(h0, .inr (15, (fs_388.set 81 (.ref q_389))))] ++ pl) := hD
  generalize fs_388.set 81 (.ref q_389) = fs_390 at hP hD hF1
  replace hF : mF 89 [(36, .ref q_113), (33, .ref q_99), (31, .ref q_57), (30, .ref q_50), (26, .ref q_47), (20, .int (-1)), (17, .int (-1)), (14, .ref q_39), (13, .ref q_35), (0, .int 0), (18, .int 0), (19, .int 0), (21, .int 0), (22, .int 0), (23, .int 0), (24, .int 0), (25, .int 0), (27, .int 0), (28, .int 0), (29, .int 0), (35, .int 0)] fs_390 := hF1
  clear hF1
  replace hP : va_P (dC, dI) vwCl ([(h0, .inr (15, fs_390))] ++ pl) H := hP
  replace hD : va_D A ([(h0, .inr (15, fs_390))] ++ pl) := hD
  refine lv_aload_n hx hb dX15_init_1044 rfl (lv_at hl 0 rfl) ?_
  refine lv_bipush (v := 82) hx hb dX15_init_1045 (by decide) ?_
  refine lv_bipush (v := 82) hx hb dX15_init_1047 (by decide) ?_
  refine wm_mna2 (nm1 := "[J") (t0 := .array (.long)) (type := .long) (N' := 82) (K' := 82) hx hb hown (hts (.classLink RX15 207 "[[J") (List.mem_of_getElem? (i := 59) rfl)) (hN.2.2.2.2.1) (hN.2.2.2.1) rfl rfl hP hD hS (by decide) (by decide) (by decide) (by decide) (Nat.le_of_ble_eq_true rfl) (Nat.le_of_ble_eq_true rfl) (Nat.le_of_ble_eq_true rfl) rfl rfl (Nat.le_of_ble_eq_true rfl) (Nat.le_of_ble_eq_true rfl) dX15_init_1049 ?_
  clear hP hD hS; try clear H
  intro q_391 H hP hD hS
  replace hP : va_P (dC, dI) vwCl ([(h0, .inr (15, fs_390))] ++ pl) H := hP
  replace hD : va_D A ([(h0, .inr (15, fs_390))] ++ pl) := hD
  refine va_putF (D := (dC, dI)) (ci := 15) (v := .ref q_391) (ty := .array (.array .long)) (C := RX15) (T := TX15) (N := 89) hx hb hts (in_X15_init_X15) tyX15 tyX15_ok nmX15 hown hK hP hD hS 0 rfl rfl 82 (by decide) (hts (.fieldLink RX15 281 "MotionSignsModel" "left" "[[J") (List.mem_of_getElem? (i := 84) rfl)) (fun _ h9 => h9) rfl hin rfl (tyX15_ok 82 (by decide)) rfl rfl (mF.lt hF (by decide)) dX15_init_1053 ?_
  clear hP hD hS; try clear H
  intro H locs hP hD hS
  have hF1 := mF.pass hF 82 (.ref q_391) (by decide) rfl
  replace hP : va_P (dC, dI) vwCl ([(h0, .inr (15, (fs_390.set 82 (.ref q_391))))] ++ pl) H := hP
  replace hD : va_D A ([(h0, .inr (15, (fs_390.set 82 (.ref q_391))))] ++ pl) := hD
  generalize fs_390.set 82 (.ref q_391) = fs_392 at hP hD hF1
  replace hF : mF 89 [(36, .ref q_113), (33, .ref q_99), (31, .ref q_57), (30, .ref q_50), (26, .ref q_47), (20, .int (-1)), (17, .int (-1)), (14, .ref q_39), (13, .ref q_35), (0, .int 0), (18, .int 0), (19, .int 0), (21, .int 0), (22, .int 0), (23, .int 0), (24, .int 0), (25, .int 0), (27, .int 0), (28, .int 0), (29, .int 0), (35, .int 0)] fs_392 := hF1
  clear hF1
  replace hP : va_P (dC, dI) vwCl ([(h0, .inr (15, fs_392))] ++ pl) H := hP
  replace hD : va_D A ([(h0, .inr (15, fs_392))] ++ pl) := hD
  refine lv_aload_n hx hb dX15_init_1056 rfl (lv_at hl 0 rfl) ?_
  refine lv_iconst (v := 4) hx hb dX15_init_1057 (by decide) ?_
  refine va_newq (C := RX13) (N' := 4) hx hb hown (hts (.classLink RX15 127 RX13) (List.mem_of_getElem? (i := 29) rfl)) (hN.2.2.1 RX13 (List.mem_of_getElem? (i := 5) rfl)) hK hP hD hS hA (by decide) (by decide) (Nat.le_of_ble_eq_true rfl) (Nat.le_of_ble_eq_true rfl) (Nat.le_of_ble_eq_true rfl) dX15_init_1058 ?_
  clear hP hD hS hK; try clear H
  intro q_393 k_394 H hK hP hD hS
  replace hP := va_P.swap hP; replace hD := va_D.swap hD
  replace hP : va_P (dC, dI) vwCl ([(h0, .inr (15, fs_392)), (q_393, .inl (k_394, 4, .inr (.inr (.inr (.inr (fun _ => none))))))] ++ pl) H := hP
  replace hD : va_D A ([(h0, .inr (15, fs_392)), (q_393, .inl (k_394, 4, .inr (.inr (.inr (.inr (fun _ => none))))))] ++ pl) := hD
  replace hK : va_K (dC, dI) vwCl [(k_394, .object RX13)] s := hK
  refine lv_dup hx hb dX15_init_1061 rfl ?_
  refine lv_iconst (v := 0) hx hb dX15_init_1062 (by decide) ?_
  refine va_new (ci := 13) (fs := [.null, .null, .null, .null, .int 0]) (C := RX13) (T := TX13) (N := 5) hx hb hts (in_X15_init_X13) tyX13 tyX13_ok hown (hts (.classLink RX15 127 RX13) (List.mem_of_getElem? (i := 29) rfl)) (hts (.instantiable RX13 5) (List.mem_of_getElem? (i := 30) rfl)) (hts (.initialized RX13) (List.mem_of_getElem? (i := 31) rfl)) hK hP hD hS hA rfl (fun j hj => by rcases (show j = 0 ∨ j = 1 ∨ j = 2 ∨ j = 3 ∨ j = 4 by omega) with rfl | rfl | rfl | rfl | rfl <;> rfl) (Nat.le_of_ble_eq_true rfl) (Nat.le_of_ble_eq_true rfl) dX15_init_1063 ?_
  clear hP hD hS; try clear H
  intro q_395 H hP hD hS
  replace hP := va_P.swap hP; replace hD := va_D.swap hD
  replace hP : va_P (dC, dI) vwCl ([(h0, .inr (15, fs_392)), (q_393, .inl (k_394, 4, .inr (.inr (.inr (.inr (fun _ => none)))))), (q_395, .inr (13, [.null, .null, .null, .null, .int 0]))] ++ pl) H := hP
  replace hD : va_D A ([(h0, .inr (15, fs_392)), (q_393, .inl (k_394, 4, .inr (.inr (.inr (.inr (fun _ => none)))))), (q_395, .inr (13, [.null, .null, .null, .null, .int 0]))] ++ pl) := hD
  refine lv_dup hx hb dX15_init_1066 rfl ?_
  refine lv_bipush (v := 64) hx hb dX15_init_1067 (by decide) ?_
  have hPc := hP.sub (ws' := [(q_395, .inr (13, [.null, .null, .null, .null, .int 0]))]) [2] rfl
  have hDc := hD.sub (ws' := [(q_395, .inr (13, [.null, .null, .null, .null, .int 0]))]) [2] (by decide) rfl
  have hKc := hK.sub (tys' := []) [] rfl
  have hFc := va_free (wc := [(q_395, .inr (13, [.null, .null, .null, .null, .int 0]))]) hD hS hA [2] rfl
  refine va_callv (va_runIN (As := [.int 64]) (rest := [.ref q_395, .int 0, .ref q_393, .ref q_393, .ref h0]) ⟨hx, hb, hml, hown, hts⟩ (c_X13_init_64 l dC dI q_395 H.size) ⟨va_cnB 1 hts gM15_X13 rfl rfl rfl (hN.1 (RX15, 129, yX13_init, RX15) (List.mem_of_getElem? (i := 28) rfl)) (hts (.initialized RX13) (List.mem_of_getElem? (i := 31) rfl)) hd_X13_init ⟨Nat.le_of_ble_eq_true rfl, Nat.le_of_ble_eq_true rfl⟩, rfl, (hts (.instanceMethod yX13_init) (List.mem_of_getElem? (i := 100) rfl))⟩ ⟨fun a U g mk q => by obtain ⟨q0, q1, qP, qK, qD, qE0⟩ := q; exact ⟨q0, q1, qP, va_K.moved (u := U) (U := U.calling g mk a) (Vm.Alike.refl U.vm) qK, qD, w_N.same rfl qE0⟩, fun U hU hW => ⟨rfl, by rw [hU], by rw [hU]; exact hPc, va_K.moved hW.alike hKc, hDc.weaken (fun _ _ _ _ => trivial), w_N.warm hW hN⟩⟩ rfl rfl hl.1 rfl (lv_room (Nat.le_of_ble_eq_true rfl)) dX15_init_1069 ⟨(Nat.le_of_ble_eq_true rfl), (Nat.le_of_ble_eq_true rfl)⟩) hS (fun q _ h => hFc q h) hFc (fun u t H1 locs1 ht hvm hw hB hz1 hk1 hS1 => ?_)
  obtain ⟨q_396, q_397, q_398, q_399, k_400, hP1, hK1, hD1⟩ := hB
  rw [ht] at hP1
  have hK1 := va_K.moved hvm.symm hK1
  have hJ := va_joinQ (wr := [(h0, .inr (15, fs_392)), (q_393, .inl (k_394, 4, .inr (.inr (.inr (.inr (fun _ => none))))))]) (w1 := [(q_395, .inr (13, [.ref q_396, .ref q_397, .ref q_398, .ref q_399, .int 0])), (q_398, .inl (k_400, 128, .inl (fun _ => 0)))]) hP hD [2] [0, 1] rfl rfl (by decide) (by decide) hk1 hFc hP1 hD1
  clear hP hD hPc hDc hKc hFc hz1 hw; try clear hk1
  obtain ⟨hP, hD⟩ := hJ
  replace hK := (hK.sub (tys' := [(k_394, .object RX13)]) [0] rfl).app (hK1.sub (tys' := [(k_400, .int)]) [0] rfl)
  clear hP1 hK1 hD1 hvm ht hS; try clear t
  try clear H
  revert hS1
  intro hS
  generalize H1 = H at hP hS ⊢; try clear H1
  replace hP : va_P (dC, dI) vwCl ([(h0, .inr (15, fs_392)), (q_393, .inl (k_394, 4, .inr (.inr (.inr (.inr (fun _ => none)))))), (q_395, .inr (13, [.ref q_396, .ref q_397, .ref q_398, .ref q_399, .int 0])), (q_398, .inl (k_400, 128, .inl (fun _ => 0)))] ++ pl) H := hP
  replace hD : va_D A ([(h0, .inr (15, fs_392)), (q_393, .inl (k_394, 4, .inr (.inr (.inr (.inr (fun _ => none)))))), (q_395, .inr (13, [.ref q_396, .ref q_397, .ref q_398, .ref q_399, .int 0])), (q_398, .inl (k_400, 128, .inl (fun _ => 0)))] ++ pl) := hD
  replace hK : va_K (dC, dI) vwCl [(k_394, .object RX13), (k_400, .int)] s := hK
  refine va_astq hx hb hK hP hD hS 1 0 2 13 rfl rfl rfl rfl (by exact fun h => by rcases h with h | h <;> revert h <;> decide) dX15_init_1072 ?_
  clear hP hD hS; try clear H
  intro H locs hP hD hS
  replace hP : va_P (dC, dI) vwCl ([(h0, .inr (15, fs_392)), (q_393, .inl (k_394, 4, .inr (.inr (.inr (.inr (va_up (fun _ => none) (0 : Int32).toNatClampNeg (some q_395))))))), (q_395, .inr (13, [.ref q_396, .ref q_397, .ref q_398, .ref q_399, .int 0])), (q_398, .inl (k_400, 128, .inl (fun _ => 0)))] ++ pl) H := hP
  replace hD : va_D A ([(h0, .inr (15, fs_392)), (q_393, .inl (k_394, 4, .inr (.inr (.inr (.inr (va_up (fun _ => none) (0 : Int32).toNatClampNeg (some q_395))))))), (q_395, .inr (13, [.ref q_396, .ref q_397, .ref q_398, .ref q_399, .int 0])), (q_398, .inl (k_400, 128, .inl (fun _ => 0)))] ++ pl) := hD
  refine lv_dup hx hb dX15_init_1073 rfl ?_
  refine lv_iconst (v := 1) hx hb dX15_init_1074 (by decide) ?_
  refine va_new (ci := 13) (fs := [.null, .null, .null, .null, .int 0]) (C := RX13) (T := TX13) (N := 5) hx hb hts (in_X15_init_X13) tyX13 tyX13_ok hown (hts (.classLink RX15 127 RX13) (List.mem_of_getElem? (i := 29) rfl)) (hts (.instantiable RX13 5) (List.mem_of_getElem? (i := 30) rfl)) (hts (.initialized RX13) (List.mem_of_getElem? (i := 31) rfl)) hK hP hD hS hA rfl (fun j hj => by rcases (show j = 0 ∨ j = 1 ∨ j = 2 ∨ j = 3 ∨ j = 4 by omega) with rfl | rfl | rfl | rfl | rfl <;> rfl) (Nat.le_of_ble_eq_true rfl) (Nat.le_of_ble_eq_true rfl) dX15_init_1075 ?_
  clear hP hD hS; try clear H
  intro q_401 H hP hD hS
  replace hP := va_P.swap hP; replace hD := va_D.swap hD
  replace hP : va_P (dC, dI) vwCl ([(h0, .inr (15, fs_392)), (q_393, .inl (k_394, 4, .inr (.inr (.inr (.inr (va_up (fun _ => none) (0 : Int32).toNatClampNeg (some q_395))))))), (q_395, .inr (13, [.ref q_396, .ref q_397, .ref q_398, .ref q_399, .int 0])), (q_398, .inl (k_400, 128, .inl (fun _ => 0))), (q_401, .inr (13, [.null, .null, .null, .null, .int 0]))] ++ pl) H := hP
  replace hD : va_D A ([(h0, .inr (15, fs_392)), (q_393, .inl (k_394, 4, .inr (.inr (.inr (.inr (va_up (fun _ => none) (0 : Int32).toNatClampNeg (some q_395))))))), (q_395, .inr (13, [.ref q_396, .ref q_397, .ref q_398, .ref q_399, .int 0])), (q_398, .inl (k_400, 128, .inl (fun _ => 0))), (q_401, .inr (13, [.null, .null, .null, .null, .int 0]))] ++ pl) := hD
  refine lv_dup hx hb dX15_init_1078 rfl ?_
  refine lv_bipush (v := 64) hx hb dX15_init_1079 (by decide) ?_
  have hPc := hP.sub (ws' := [(q_401, .inr (13, [.null, .null, .null, .null, .int 0]))]) [4] rfl
  have hDc := hD.sub (ws' := [(q_401, .inr (13, [.null, .null, .null, .null, .int 0]))]) [4] (by decide) rfl
  have hKc := hK.sub (tys' := []) [] rfl
  have hFc := va_free (wc := [(q_401, .inr (13, [.null, .null, .null, .null, .int 0]))]) hD hS hA [4] rfl
  refine va_callv (va_runIN (As := [.int 64]) (rest := [.ref q_401, .int 1, .ref q_393, .ref q_393, .ref h0]) ⟨hx, hb, hml, hown, hts⟩ (c_X13_init_64 l dC dI q_401 H.size) ⟨va_cnB 1 hts gM15_X13 rfl rfl rfl (hN.1 (RX15, 129, yX13_init, RX15) (List.mem_of_getElem? (i := 28) rfl)) (hts (.initialized RX13) (List.mem_of_getElem? (i := 31) rfl)) hd_X13_init ⟨Nat.le_of_ble_eq_true rfl, Nat.le_of_ble_eq_true rfl⟩, rfl, (hts (.instanceMethod yX13_init) (List.mem_of_getElem? (i := 100) rfl))⟩ ⟨fun a U g mk q => by obtain ⟨q0, q1, qP, qK, qD, qE0⟩ := q; exact ⟨q0, q1, qP, va_K.moved (u := U) (U := U.calling g mk a) (Vm.Alike.refl U.vm) qK, qD, w_N.same rfl qE0⟩, fun U hU hW => ⟨rfl, by rw [hU], by rw [hU]; exact hPc, va_K.moved hW.alike hKc, hDc.weaken (fun _ _ _ _ => trivial), w_N.warm hW hN⟩⟩ rfl rfl hl.1 rfl (lv_room (Nat.le_of_ble_eq_true rfl)) dX15_init_1081 ⟨(Nat.le_of_ble_eq_true rfl), (Nat.le_of_ble_eq_true rfl)⟩) hS (fun q _ h => hFc q h) hFc (fun u t H1 locs1 ht hvm hw hB hz1 hk1 hS1 => ?_)
  obtain ⟨q_402, q_403, q_404, q_405, k_406, hP1, hK1, hD1⟩ := hB
  rw [ht] at hP1
  have hK1 := va_K.moved hvm.symm hK1
  have hJ := va_joinQ (wr := [(h0, .inr (15, fs_392)), (q_393, .inl (k_394, 4, .inr (.inr (.inr (.inr (va_up (fun _ => none) (0 : Int32).toNatClampNeg (some q_395))))))), (q_395, .inr (13, [.ref q_396, .ref q_397, .ref q_398, .ref q_399, .int 0])), (q_398, .inl (k_400, 128, .inl (fun _ => 0)))]) (w1 := [(q_401, .inr (13, [.ref q_402, .ref q_403, .ref q_404, .ref q_405, .int 0])), (q_404, .inl (k_406, 128, .inl (fun _ => 0)))]) hP hD [4] [0, 1, 2, 3] rfl rfl (by decide) (by decide) hk1 hFc hP1 hD1
  clear hP hD hPc hDc hKc hFc hz1 hw; try clear hk1
  obtain ⟨hP, hD⟩ := hJ
  replace hK := (hK.sub (tys' := [(k_394, .object RX13), (k_400, .int)]) [0, 1] rfl).app (hK1.sub (tys' := [(k_406, .int)]) [0] rfl)
  clear hP1 hK1 hD1 hvm ht hS; try clear t
  try clear H
  revert hS1
  intro hS
  generalize H1 = H at hP hS ⊢; try clear H1
  replace hP : va_P (dC, dI) vwCl ([(h0, .inr (15, fs_392)), (q_393, .inl (k_394, 4, .inr (.inr (.inr (.inr (va_up (fun _ => none) (0 : Int32).toNatClampNeg (some q_395))))))), (q_395, .inr (13, [.ref q_396, .ref q_397, .ref q_398, .ref q_399, .int 0])), (q_398, .inl (k_400, 128, .inl (fun _ => 0))), (q_401, .inr (13, [.ref q_402, .ref q_403, .ref q_404, .ref q_405, .int 0])), (q_404, .inl (k_406, 128, .inl (fun _ => 0)))] ++ pl) H := hP
  replace hD : va_D A ([(h0, .inr (15, fs_392)), (q_393, .inl (k_394, 4, .inr (.inr (.inr (.inr (va_up (fun _ => none) (0 : Int32).toNatClampNeg (some q_395))))))), (q_395, .inr (13, [.ref q_396, .ref q_397, .ref q_398, .ref q_399, .int 0])), (q_398, .inl (k_400, 128, .inl (fun _ => 0))), (q_401, .inr (13, [.ref q_402, .ref q_403, .ref q_404, .ref q_405, .int 0])), (q_404, .inl (k_406, 128, .inl (fun _ => 0)))] ++ pl) := hD
  replace hK : va_K (dC, dI) vwCl [(k_394, .object RX13), (k_400, .int), (k_406, .int)] s := hK
  refine va_astq hx hb hK hP hD hS 1 0 4 13 rfl rfl rfl rfl (by exact fun h => by rcases h with h | h <;> revert h <;> decide) dX15_init_1084 ?_
  clear hP hD hS; try clear H
  intro H locs hP hD hS
  replace hP : va_P (dC, dI) vwCl ([(h0, .inr (15, fs_392)), (q_393, .inl (k_394, 4, .inr (.inr (.inr (.inr (va_up (va_up (fun _ => none) (0 : Int32).toNatClampNeg (some q_395)) (1 : Int32).toNatClampNeg (some q_401))))))), (q_395, .inr (13, [.ref q_396, .ref q_397, .ref q_398, .ref q_399, .int 0])), (q_398, .inl (k_400, 128, .inl (fun _ => 0))), (q_401, .inr (13, [.ref q_402, .ref q_403, .ref q_404, .ref q_405, .int 0])), (q_404, .inl (k_406, 128, .inl (fun _ => 0)))] ++ pl) H := hP
  replace hD : va_D A ([(h0, .inr (15, fs_392)), (q_393, .inl (k_394, 4, .inr (.inr (.inr (.inr (va_up (va_up (fun _ => none) (0 : Int32).toNatClampNeg (some q_395)) (1 : Int32).toNatClampNeg (some q_401))))))), (q_395, .inr (13, [.ref q_396, .ref q_397, .ref q_398, .ref q_399, .int 0])), (q_398, .inl (k_400, 128, .inl (fun _ => 0))), (q_401, .inr (13, [.ref q_402, .ref q_403, .ref q_404, .ref q_405, .int 0])), (q_404, .inl (k_406, 128, .inl (fun _ => 0)))] ++ pl) := hD
  refine lv_dup hx hb dX15_init_1085 rfl ?_
  refine lv_iconst (v := 2) hx hb dX15_init_1086 (by decide) ?_
  refine va_new (ci := 13) (fs := [.null, .null, .null, .null, .int 0]) (C := RX13) (T := TX13) (N := 5) hx hb hts (in_X15_init_X13) tyX13 tyX13_ok hown (hts (.classLink RX15 127 RX13) (List.mem_of_getElem? (i := 29) rfl)) (hts (.instantiable RX13 5) (List.mem_of_getElem? (i := 30) rfl)) (hts (.initialized RX13) (List.mem_of_getElem? (i := 31) rfl)) hK hP hD hS hA rfl (fun j hj => by rcases (show j = 0 ∨ j = 1 ∨ j = 2 ∨ j = 3 ∨ j = 4 by omega) with rfl | rfl | rfl | rfl | rfl <;> rfl) (Nat.le_of_ble_eq_true rfl) (Nat.le_of_ble_eq_true rfl) dX15_init_1087 ?_
  clear hP hD hS; try clear H
  intro q_407 H hP hD hS
  replace hP := va_P.swap hP; replace hD := va_D.swap hD
  replace hP : va_P (dC, dI) vwCl ([(h0, .inr (15, fs_392)), (q_393, .inl (k_394, 4, .inr (.inr (.inr (.inr (va_up (va_up (fun _ => none) (0 : Int32).toNatClampNeg (some q_395)) (1 : Int32).toNatClampNeg (some q_401))))))), (q_395, .inr (13, [.ref q_396, .ref q_397, .ref q_398, .ref q_399, .int 0])), (q_398, .inl (k_400, 128, .inl (fun _ => 0))), (q_401, .inr (13, [.ref q_402, .ref q_403, .ref q_404, .ref q_405, .int 0])), (q_404, .inl (k_406, 128, .inl (fun _ => 0))), (q_407, .inr (13, [.null, .null, .null, .null, .int 0]))] ++ pl) H := hP
  replace hD : va_D A ([(h0, .inr (15, fs_392)), (q_393, .inl (k_394, 4, .inr (.inr (.inr (.inr (va_up (va_up (fun _ => none) (0 : Int32).toNatClampNeg (some q_395)) (1 : Int32).toNatClampNeg (some q_401))))))), (q_395, .inr (13, [.ref q_396, .ref q_397, .ref q_398, .ref q_399, .int 0])), (q_398, .inl (k_400, 128, .inl (fun _ => 0))), (q_401, .inr (13, [.ref q_402, .ref q_403, .ref q_404, .ref q_405, .int 0])), (q_404, .inl (k_406, 128, .inl (fun _ => 0))), (q_407, .inr (13, [.null, .null, .null, .null, .int 0]))] ++ pl) := hD
  refine lv_dup hx hb dX15_init_1090 rfl ?_
  refine lv_bipush (v := 64) hx hb dX15_init_1091 (by decide) ?_
  have hPc := hP.sub (ws' := [(q_407, .inr (13, [.null, .null, .null, .null, .int 0]))]) [6] rfl
  have hDc := hD.sub (ws' := [(q_407, .inr (13, [.null, .null, .null, .null, .int 0]))]) [6] (by decide) rfl
  have hKc := hK.sub (tys' := []) [] rfl
  have hFc := va_free (wc := [(q_407, .inr (13, [.null, .null, .null, .null, .int 0]))]) hD hS hA [6] rfl
  refine va_callv (va_runIN (As := [.int 64]) (rest := [.ref q_407, .int 2, .ref q_393, .ref q_393, .ref h0]) ⟨hx, hb, hml, hown, hts⟩ (c_X13_init_64 l dC dI q_407 H.size) ⟨va_cnB 1 hts gM15_X13 rfl rfl rfl (hN.1 (RX15, 129, yX13_init, RX15) (List.mem_of_getElem? (i := 28) rfl)) (hts (.initialized RX13) (List.mem_of_getElem? (i := 31) rfl)) hd_X13_init ⟨Nat.le_of_ble_eq_true rfl, Nat.le_of_ble_eq_true rfl⟩, rfl, (hts (.instanceMethod yX13_init) (List.mem_of_getElem? (i := 100) rfl))⟩ ⟨fun a U g mk q => by obtain ⟨q0, q1, qP, qK, qD, qE0⟩ := q; exact ⟨q0, q1, qP, va_K.moved (u := U) (U := U.calling g mk a) (Vm.Alike.refl U.vm) qK, qD, w_N.same rfl qE0⟩, fun U hU hW => ⟨rfl, by rw [hU], by rw [hU]; exact hPc, va_K.moved hW.alike hKc, hDc.weaken (fun _ _ _ _ => trivial), w_N.warm hW hN⟩⟩ rfl rfl hl.1 rfl (lv_room (Nat.le_of_ble_eq_true rfl)) dX15_init_1093 ⟨(Nat.le_of_ble_eq_true rfl), (Nat.le_of_ble_eq_true rfl)⟩) hS (fun q _ h => hFc q h) hFc (fun u t H1 locs1 ht hvm hw hB hz1 hk1 hS1 => ?_)
  obtain ⟨q_408, q_409, q_410, q_411, k_412, hP1, hK1, hD1⟩ := hB
  rw [ht] at hP1
  have hK1 := va_K.moved hvm.symm hK1
  have hJ := va_joinQ (wr := [(h0, .inr (15, fs_392)), (q_393, .inl (k_394, 4, .inr (.inr (.inr (.inr (va_up (va_up (fun _ => none) (0 : Int32).toNatClampNeg (some q_395)) (1 : Int32).toNatClampNeg (some q_401))))))), (q_395, .inr (13, [.ref q_396, .ref q_397, .ref q_398, .ref q_399, .int 0])), (q_398, .inl (k_400, 128, .inl (fun _ => 0))), (q_401, .inr (13, [.ref q_402, .ref q_403, .ref q_404, .ref q_405, .int 0])), (q_404, .inl (k_406, 128, .inl (fun _ => 0)))]) (w1 := [(q_407, .inr (13, [.ref q_408, .ref q_409, .ref q_410, .ref q_411, .int 0])), (q_410, .inl (k_412, 128, .inl (fun _ => 0)))]) hP hD [6] [0, 1, 2, 3, 4, 5] rfl rfl (by decide) (by decide) hk1 hFc hP1 hD1
  clear hP hD hPc hDc hKc hFc hz1 hw; try clear hk1
  obtain ⟨hP, hD⟩ := hJ
  replace hK := (hK.sub (tys' := [(k_394, .object RX13), (k_400, .int), (k_406, .int)]) [0, 1, 2] rfl).app (hK1.sub (tys' := [(k_412, .int)]) [0] rfl)
  clear hP1 hK1 hD1 hvm ht hS; try clear t
  try clear H
  revert hS1
  intro hS
  generalize H1 = H at hP hS ⊢; try clear H1
  replace hP : va_P (dC, dI) vwCl ([(h0, .inr (15, fs_392)), (q_393, .inl (k_394, 4, .inr (.inr (.inr (.inr (va_up (va_up (fun _ => none) (0 : Int32).toNatClampNeg (some q_395)) (1 : Int32).toNatClampNeg (some q_401))))))), (q_395, .inr (13, [.ref q_396, .ref q_397, .ref q_398, .ref q_399, .int 0])), (q_398, .inl (k_400, 128, .inl (fun _ => 0))), (q_401, .inr (13, [.ref q_402, .ref q_403, .ref q_404, .ref q_405, .int 0])), (q_404, .inl (k_406, 128, .inl (fun _ => 0))), (q_407, .inr (13, [.ref q_408, .ref q_409, .ref q_410, .ref q_411, .int 0])), (q_410, .inl (k_412, 128, .inl (fun _ => 0)))] ++ pl) H := hP
  replace hD : va_D A ([(h0, .inr (15, fs_392)), (q_393, .inl (k_394, 4, .inr (.inr (.inr (.inr (va_up (va_up (fun _ => none) (0 : Int32).toNatClampNeg (some q_395)) (1 : Int32).toNatClampNeg (some q_401))))))), (q_395, .inr (13, [.ref q_396, .ref q_397, .ref q_398, .ref q_399, .int 0])), (q_398, .inl (k_400, 128, .inl (fun _ => 0))), (q_401, .inr (13, [.ref q_402, .ref q_403, .ref q_404, .ref q_405, .int 0])), (q_404, .inl (k_406, 128, .inl (fun _ => 0))), (q_407, .inr (13, [.ref q_408, .ref q_409, .ref q_410, .ref q_411, .int 0])), (q_410, .inl (k_412, 128, .inl (fun _ => 0)))] ++ pl) := hD
  replace hK : va_K (dC, dI) vwCl [(k_394, .object RX13), (k_400, .int), (k_406, .int), (k_412, .int)] s := hK
  refine va_astq hx hb hK hP hD hS 1 0 6 13 rfl rfl rfl rfl (by exact fun h => by rcases h with h | h <;> revert h <;> decide) dX15_init_1096 ?_
  clear hP hD hS; try clear H
  intro H locs hP hD hS
  replace hP : va_P (dC, dI) vwCl ([(h0, .inr (15, fs_392)), (q_393, .inl (k_394, 4, .inr (.inr (.inr (.inr (va_up (va_up (va_up (fun _ => none) (0 : Int32).toNatClampNeg (some q_395)) (1 : Int32).toNatClampNeg (some q_401)) (2 : Int32).toNatClampNeg (some q_407))))))), (q_395, .inr (13, [.ref q_396, .ref q_397, .ref q_398, .ref q_399, .int 0])), (q_398, .inl (k_400, 128, .inl (fun _ => 0))), (q_401, .inr (13, [.ref q_402, .ref q_403, .ref q_404, .ref q_405, .int 0])), (q_404, .inl (k_406, 128, .inl (fun _ => 0))), (q_407, .inr (13, [.ref q_408, .ref q_409, .ref q_410, .ref q_411, .int 0])), (q_410, .inl (k_412, 128, .inl (fun _ => 0)))] ++ pl) H := hP
  replace hD : va_D A ([(h0, .inr (15, fs_392)), (q_393, .inl (k_394, 4, .inr (.inr (.inr (.inr (va_up (va_up (va_up (fun _ => none) (0 : Int32).toNatClampNeg (some q_395)) (1 : Int32).toNatClampNeg (some q_401)) (2 : Int32).toNatClampNeg (some q_407))))))), (q_395, .inr (13, [.ref q_396, .ref q_397, .ref q_398, .ref q_399, .int 0])), (q_398, .inl (k_400, 128, .inl (fun _ => 0))), (q_401, .inr (13, [.ref q_402, .ref q_403, .ref q_404, .ref q_405, .int 0])), (q_404, .inl (k_406, 128, .inl (fun _ => 0))), (q_407, .inr (13, [.ref q_408, .ref q_409, .ref q_410, .ref q_411, .int 0])), (q_410, .inl (k_412, 128, .inl (fun _ => 0)))] ++ pl) := hD
  refine lv_dup hx hb dX15_init_1097 rfl ?_
  refine lv_iconst (v := 3) hx hb dX15_init_1098 (by decide) ?_
  refine va_new (ci := 13) (fs := [.null, .null, .null, .null, .int 0]) (C := RX13) (T := TX13) (N := 5) hx hb hts (in_X15_init_X13) tyX13 tyX13_ok hown (hts (.classLink RX15 127 RX13) (List.mem_of_getElem? (i := 29) rfl)) (hts (.instantiable RX13 5) (List.mem_of_getElem? (i := 30) rfl)) (hts (.initialized RX13) (List.mem_of_getElem? (i := 31) rfl)) hK hP hD hS hA rfl (fun j hj => by rcases (show j = 0 ∨ j = 1 ∨ j = 2 ∨ j = 3 ∨ j = 4 by omega) with rfl | rfl | rfl | rfl | rfl <;> rfl) (Nat.le_of_ble_eq_true rfl) (Nat.le_of_ble_eq_true rfl) dX15_init_1099 ?_
  clear hP hD hS; try clear H
  intro q_413 H hP hD hS
  replace hP := va_P.swap hP; replace hD := va_D.swap hD
  replace hP : va_P (dC, dI) vwCl ([(h0, .inr (15, fs_392)), (q_393, .inl (k_394, 4, .inr (.inr (.inr (.inr (va_up (va_up (va_up (fun _ => none) (0 : Int32).toNatClampNeg (some q_395)) (1 : Int32).toNatClampNeg (some q_401)) (2 : Int32).toNatClampNeg (some q_407))))))), (q_395, .inr (13, [.ref q_396, .ref q_397, .ref q_398, .ref q_399, .int 0])), (q_398, .inl (k_400, 128, .inl (fun _ => 0))), (q_401, .inr (13, [.ref q_402, .ref q_403, .ref q_404, .ref q_405, .int 0])), (q_404, .inl (k_406, 128, .inl (fun _ => 0))), (q_407, .inr (13, [.ref q_408, .ref q_409, .ref q_410, .ref q_411, .int 0])), (q_410, .inl (k_412, 128, .inl (fun _ => 0))), (q_413, .inr (13, [.null, .null, .null, .null, .int 0]))] ++ pl) H := hP
  replace hD : va_D A ([(h0, .inr (15, fs_392)), (q_393, .inl (k_394, 4, .inr (.inr (.inr (.inr (va_up (va_up (va_up (fun _ => none) (0 : Int32).toNatClampNeg (some q_395)) (1 : Int32).toNatClampNeg (some q_401)) (2 : Int32).toNatClampNeg (some q_407))))))), (q_395, .inr (13, [.ref q_396, .ref q_397, .ref q_398, .ref q_399, .int 0])), (q_398, .inl (k_400, 128, .inl (fun _ => 0))), (q_401, .inr (13, [.ref q_402, .ref q_403, .ref q_404, .ref q_405, .int 0])), (q_404, .inl (k_406, 128, .inl (fun _ => 0))), (q_407, .inr (13, [.ref q_408, .ref q_409, .ref q_410, .ref q_411, .int 0])), (q_410, .inl (k_412, 128, .inl (fun _ => 0))), (q_413, .inr (13, [.null, .null, .null, .null, .int 0]))] ++ pl) := hD
  refine lv_dup hx hb dX15_init_1102 rfl ?_
  refine lv_bipush (v := 64) hx hb dX15_init_1103 (by decide) ?_
  have hPc := hP.sub (ws' := [(q_413, .inr (13, [.null, .null, .null, .null, .int 0]))]) [8] rfl
  have hDc := hD.sub (ws' := [(q_413, .inr (13, [.null, .null, .null, .null, .int 0]))]) [8] (by decide) rfl
  have hKc := hK.sub (tys' := []) [] rfl
  have hFc := va_free (wc := [(q_413, .inr (13, [.null, .null, .null, .null, .int 0]))]) hD hS hA [8] rfl
  refine va_callv (va_runIN (As := [.int 64]) (rest := [.ref q_413, .int 3, .ref q_393, .ref q_393, .ref h0]) ⟨hx, hb, hml, hown, hts⟩ (c_X13_init_64 l dC dI q_413 H.size) ⟨va_cnB 1 hts gM15_X13 rfl rfl rfl (hN.1 (RX15, 129, yX13_init, RX15) (List.mem_of_getElem? (i := 28) rfl)) (hts (.initialized RX13) (List.mem_of_getElem? (i := 31) rfl)) hd_X13_init ⟨Nat.le_of_ble_eq_true rfl, Nat.le_of_ble_eq_true rfl⟩, rfl, (hts (.instanceMethod yX13_init) (List.mem_of_getElem? (i := 100) rfl))⟩ ⟨fun a U g mk q => by obtain ⟨q0, q1, qP, qK, qD, qE0⟩ := q; exact ⟨q0, q1, qP, va_K.moved (u := U) (U := U.calling g mk a) (Vm.Alike.refl U.vm) qK, qD, w_N.same rfl qE0⟩, fun U hU hW => ⟨rfl, by rw [hU], by rw [hU]; exact hPc, va_K.moved hW.alike hKc, hDc.weaken (fun _ _ _ _ => trivial), w_N.warm hW hN⟩⟩ rfl rfl hl.1 rfl (lv_room (Nat.le_of_ble_eq_true rfl)) dX15_init_1105 ⟨(Nat.le_of_ble_eq_true rfl), (Nat.le_of_ble_eq_true rfl)⟩) hS (fun q _ h => hFc q h) hFc (fun u t H1 locs1 ht hvm hw hB hz1 hk1 hS1 => ?_)
  obtain ⟨q_414, q_415, q_416, q_417, k_418, hP1, hK1, hD1⟩ := hB
  rw [ht] at hP1
  have hK1 := va_K.moved hvm.symm hK1
  have hJ := va_joinQ (wr := [(h0, .inr (15, fs_392)), (q_393, .inl (k_394, 4, .inr (.inr (.inr (.inr (va_up (va_up (va_up (fun _ => none) (0 : Int32).toNatClampNeg (some q_395)) (1 : Int32).toNatClampNeg (some q_401)) (2 : Int32).toNatClampNeg (some q_407))))))), (q_395, .inr (13, [.ref q_396, .ref q_397, .ref q_398, .ref q_399, .int 0])), (q_398, .inl (k_400, 128, .inl (fun _ => 0))), (q_401, .inr (13, [.ref q_402, .ref q_403, .ref q_404, .ref q_405, .int 0])), (q_404, .inl (k_406, 128, .inl (fun _ => 0))), (q_407, .inr (13, [.ref q_408, .ref q_409, .ref q_410, .ref q_411, .int 0])), (q_410, .inl (k_412, 128, .inl (fun _ => 0)))]) (w1 := [(q_413, .inr (13, [.ref q_414, .ref q_415, .ref q_416, .ref q_417, .int 0])), (q_416, .inl (k_418, 128, .inl (fun _ => 0)))]) hP hD [8] [0, 1, 2, 3, 4, 5, 6, 7] rfl rfl (by decide) (by decide) hk1 hFc hP1 hD1
  clear hP hD hPc hDc hKc hFc hz1 hw; try clear hk1
  obtain ⟨hP, hD⟩ := hJ
  replace hK := (hK.sub (tys' := [(k_394, .object RX13), (k_400, .int), (k_406, .int), (k_412, .int)]) [0, 1, 2, 3] rfl).app (hK1.sub (tys' := [(k_418, .int)]) [0] rfl)
  clear hP1 hK1 hD1 hvm ht hS; try clear t
  try clear H
  revert hS1
  intro hS
  generalize H1 = H at hP hS ⊢; try clear H1
  replace hP : va_P (dC, dI) vwCl ([(h0, .inr (15, fs_392)), (q_393, .inl (k_394, 4, .inr (.inr (.inr (.inr (va_up (va_up (va_up (fun _ => none) (0 : Int32).toNatClampNeg (some q_395)) (1 : Int32).toNatClampNeg (some q_401)) (2 : Int32).toNatClampNeg (some q_407))))))), (q_395, .inr (13, [.ref q_396, .ref q_397, .ref q_398, .ref q_399, .int 0])), (q_398, .inl (k_400, 128, .inl (fun _ => 0))), (q_401, .inr (13, [.ref q_402, .ref q_403, .ref q_404, .ref q_405, .int 0])), (q_404, .inl (k_406, 128, .inl (fun _ => 0))), (q_407, .inr (13, [.ref q_408, .ref q_409, .ref q_410, .ref q_411, .int 0])), (q_410, .inl (k_412, 128, .inl (fun _ => 0))), (q_413, .inr (13, [.ref q_414, .ref q_415, .ref q_416, .ref q_417, .int 0])), (q_416, .inl (k_418, 128, .inl (fun _ => 0)))] ++ pl) H := hP
  replace hD : va_D A ([(h0, .inr (15, fs_392)), (q_393, .inl (k_394, 4, .inr (.inr (.inr (.inr (va_up (va_up (va_up (fun _ => none) (0 : Int32).toNatClampNeg (some q_395)) (1 : Int32).toNatClampNeg (some q_401)) (2 : Int32).toNatClampNeg (some q_407))))))), (q_395, .inr (13, [.ref q_396, .ref q_397, .ref q_398, .ref q_399, .int 0])), (q_398, .inl (k_400, 128, .inl (fun _ => 0))), (q_401, .inr (13, [.ref q_402, .ref q_403, .ref q_404, .ref q_405, .int 0])), (q_404, .inl (k_406, 128, .inl (fun _ => 0))), (q_407, .inr (13, [.ref q_408, .ref q_409, .ref q_410, .ref q_411, .int 0])), (q_410, .inl (k_412, 128, .inl (fun _ => 0))), (q_413, .inr (13, [.ref q_414, .ref q_415, .ref q_416, .ref q_417, .int 0])), (q_416, .inl (k_418, 128, .inl (fun _ => 0)))] ++ pl) := hD
  replace hK : va_K (dC, dI) vwCl [(k_394, .object RX13), (k_400, .int), (k_406, .int), (k_412, .int), (k_418, .int)] s := hK
  refine va_astq hx hb hK hP hD hS 1 0 8 13 rfl rfl rfl rfl (by exact fun h => by rcases h with h | h <;> revert h <;> decide) dX15_init_1108 ?_
  clear hP hD hS; try clear H
  intro H locs hP hD hS
  replace hP : va_P (dC, dI) vwCl ([(h0, .inr (15, fs_392)), (q_393, .inl (k_394, 4, .inr (.inr (.inr (.inr (va_up (va_up (va_up (va_up (fun _ => none) (0 : Int32).toNatClampNeg (some q_395)) (1 : Int32).toNatClampNeg (some q_401)) (2 : Int32).toNatClampNeg (some q_407)) (3 : Int32).toNatClampNeg (some q_413))))))), (q_395, .inr (13, [.ref q_396, .ref q_397, .ref q_398, .ref q_399, .int 0])), (q_398, .inl (k_400, 128, .inl (fun _ => 0))), (q_401, .inr (13, [.ref q_402, .ref q_403, .ref q_404, .ref q_405, .int 0])), (q_404, .inl (k_406, 128, .inl (fun _ => 0))), (q_407, .inr (13, [.ref q_408, .ref q_409, .ref q_410, .ref q_411, .int 0])), (q_410, .inl (k_412, 128, .inl (fun _ => 0))), (q_413, .inr (13, [.ref q_414, .ref q_415, .ref q_416, .ref q_417, .int 0])), (q_416, .inl (k_418, 128, .inl (fun _ => 0)))] ++ pl) H := hP
  replace hD : va_D A ([(h0, .inr (15, fs_392)), (q_393, .inl (k_394, 4, .inr (.inr (.inr (.inr (va_up (va_up (va_up (va_up (fun _ => none) (0 : Int32).toNatClampNeg (some q_395)) (1 : Int32).toNatClampNeg (some q_401)) (2 : Int32).toNatClampNeg (some q_407)) (3 : Int32).toNatClampNeg (some q_413))))))), (q_395, .inr (13, [.ref q_396, .ref q_397, .ref q_398, .ref q_399, .int 0])), (q_398, .inl (k_400, 128, .inl (fun _ => 0))), (q_401, .inr (13, [.ref q_402, .ref q_403, .ref q_404, .ref q_405, .int 0])), (q_404, .inl (k_406, 128, .inl (fun _ => 0))), (q_407, .inr (13, [.ref q_408, .ref q_409, .ref q_410, .ref q_411, .int 0])), (q_410, .inl (k_412, 128, .inl (fun _ => 0))), (q_413, .inr (13, [.ref q_414, .ref q_415, .ref q_416, .ref q_417, .int 0])), (q_416, .inl (k_418, 128, .inl (fun _ => 0)))] ++ pl) := hD
  refine va_putF (D := (dC, dI)) (ci := 15) (v := .ref q_393) (ty := .array (.object "MotionSignsModel$Poly")) (C := RX15) (T := TX15) (N := 89) hx hb hts (in_X15_init_X15) tyX15 tyX15_ok nmX15 hown hK hP hD hS 0 rfl rfl 85 (by decide) (hts (.fieldLink RX15 284 "MotionSignsModel" "lineOf" "[LMotionSignsModel$Poly;") (List.mem_of_getElem? (i := 85) rfl)) (fun _ h9 => h9) rfl hin rfl (tyX15_ok 85 (by decide)) rfl rfl (mF.lt hF (by decide)) dX15_init_1109 ?_
  clear hP hD hS; try clear H
  intro H locs hP hD hS
  have hF1 := mF.pass hF 85 (.ref q_393) (by decide) rfl
  replace hP : va_P (dC, dI) vwCl ([(h0, .inr (15, (fs_392.set 85 (.ref q_393)))), (q_393, .inl (k_394, 4, .inr (.inr (.inr (.inr (va_up (va_up (va_up (va_up (fun _ => none) (0 : Int32).toNatClampNeg (some q_395)) (1 : Int32).toNatClampNeg (some q_401)) (2 : Int32).toNatClampNeg (some q_407)) (3 : Int32).toNatClampNeg (some q_413))))))), (q_395, .inr (13, [.ref q_396, .ref q_397, .ref q_398, .ref q_399, .int 0])), (q_398, .inl (k_400, 128, .inl (fun _ => 0))), (q_401, .inr (13, [.ref q_402, .ref q_403, .ref q_404, .ref q_405, .int 0])), (q_404, .inl (k_406, 128, .inl (fun _ => 0))), (q_407, .inr (13, [.ref q_408, .ref q_409, .ref q_410, .ref q_411, .int 0])), (q_410, .inl (k_412, 128, .inl (fun _ => 0))), (q_413, .inr (13, [.ref q_414, .ref q_415, .ref q_416, .ref q_417, .int 0])), (q_416, .inl (k_418, 128, .inl (fun _ => 0)))] ++ pl) H := hP
  replace hD : va_D A ([(h0, .inr (15, (fs_392.set 85 (.ref q_393)))), (q_393, .inl (k_394, 4, .inr (.inr (.inr (.inr (va_up (va_up (va_up (va_up (fun _ => none) (0 : Int32).toNatClampNeg (some q_395)) (1 : Int32).toNatClampNeg (some q_401)) (2 : Int32).toNatClampNeg (some q_407)) (3 : Int32).toNatClampNeg (some q_413))))))), (q_395, .inr (13, [.ref q_396, .ref q_397, .ref q_398, .ref q_399, .int 0])), (q_398, .inl (k_400, 128, .inl (fun _ => 0))), (q_401, .inr (13, [.ref q_402, .ref q_403, .ref q_404, .ref q_405, .int 0])), (q_404, .inl (k_406, 128, .inl (fun _ => 0))), (q_407, .inr (13, [.ref q_408, .ref q_409, .ref q_410, .ref q_411, .int 0])), (q_410, .inl (k_412, 128, .inl (fun _ => 0))), (q_413, .inr (13, [.ref q_414, .ref q_415, .ref q_416, .ref q_417, .int 0])), (q_416, .inl (k_418, 128, .inl (fun _ => 0)))] ++ pl) := hD
  generalize fs_392.set 85 (.ref q_393) = fs_419 at hP hD hF1
  replace hF : mF 89 [(36, .ref q_113), (33, .ref q_99), (31, .ref q_57), (30, .ref q_50), (26, .ref q_47), (20, .int (-1)), (17, .int (-1)), (14, .ref q_39), (13, .ref q_35), (0, .int 0), (18, .int 0), (19, .int 0), (21, .int 0), (22, .int 0), (23, .int 0), (24, .int 0), (25, .int 0), (27, .int 0), (28, .int 0), (29, .int 0), (35, .int 0)] fs_419 := hF1
  clear hF1
  replace hP : va_P (dC, dI) vwCl ([(h0, .inr (15, fs_419)), (q_393, .inl (k_394, 4, .inr (.inr (.inr (.inr (va_up (va_up (va_up (va_up (fun _ => none) (0 : Int32).toNatClampNeg (some q_395)) (1 : Int32).toNatClampNeg (some q_401)) (2 : Int32).toNatClampNeg (some q_407)) (3 : Int32).toNatClampNeg (some q_413))))))), (q_395, .inr (13, [.ref q_396, .ref q_397, .ref q_398, .ref q_399, .int 0])), (q_398, .inl (k_400, 128, .inl (fun _ => 0))), (q_401, .inr (13, [.ref q_402, .ref q_403, .ref q_404, .ref q_405, .int 0])), (q_404, .inl (k_406, 128, .inl (fun _ => 0))), (q_407, .inr (13, [.ref q_408, .ref q_409, .ref q_410, .ref q_411, .int 0])), (q_410, .inl (k_412, 128, .inl (fun _ => 0))), (q_413, .inr (13, [.ref q_414, .ref q_415, .ref q_416, .ref q_417, .int 0])), (q_416, .inl (k_418, 128, .inl (fun _ => 0)))] ++ pl) H := hP
  replace hD : va_D A ([(h0, .inr (15, fs_419)), (q_393, .inl (k_394, 4, .inr (.inr (.inr (.inr (va_up (va_up (va_up (va_up (fun _ => none) (0 : Int32).toNatClampNeg (some q_395)) (1 : Int32).toNatClampNeg (some q_401)) (2 : Int32).toNatClampNeg (some q_407)) (3 : Int32).toNatClampNeg (some q_413))))))), (q_395, .inr (13, [.ref q_396, .ref q_397, .ref q_398, .ref q_399, .int 0])), (q_398, .inl (k_400, 128, .inl (fun _ => 0))), (q_401, .inr (13, [.ref q_402, .ref q_403, .ref q_404, .ref q_405, .int 0])), (q_404, .inl (k_406, 128, .inl (fun _ => 0))), (q_407, .inr (13, [.ref q_408, .ref q_409, .ref q_410, .ref q_411, .int 0])), (q_410, .inl (k_412, 128, .inl (fun _ => 0))), (q_413, .inr (13, [.ref q_414, .ref q_415, .ref q_416, .ref q_417, .int 0])), (q_416, .inl (k_418, 128, .inl (fun _ => 0)))] ++ pl) := hD
  replace hP := wm_subP (X' := [(h0, .inr (15, fs_419))]) hP [0] rfl
  replace hD := wm_subD (X' := [(h0, .inr (15, fs_419))]) hD [0] (by decide) rfl
  replace hK := hK.sub (tys' := []) [] rfl
  exact kont fs_419 H locs ls hP hD hK hS hl hF
set_option maxHeartbeats 40000000 in
set_option maxRecDepth 100000 in
/-- the reference: MotionSignsModel(), rows 1112 to 1154 -/
theorem c_X15_init_s13 {p : Program} {l : Launch} {e : Env} {s : State} {m : MethodId} {below : List Frame} {meth : Method} {c : Code} {A : Nat → Prop} {Q0 : State → Prop} {dC : Nat → ClassId} {dI : Nat → Nat → Nat} {h0 : Nat} {fs_419 : List Value} {q_113 : Nat} {q_99 : Nat} {q_57 : Nat} {q_50 : Nat} {q_47 : Nat} {q_39 : Nat} {q_35 : Nat} (hx : p.tables.exec = Jvm.exec) (hb : c.code = cX15_init) (hml : c.maxLocals = 3) (hts : ∀ w ∈ wsM15, w.before ([.ref h0] : List Value).toArray s = true) (hown : s.vm.findClass RX15 = some m.cls) (hin : meth.name = "<init>") (hA : ∀ q : Nat, s.heap.size ≤ q → A q) (hN : w_N s) (pl : va_W) {H : Heap} {locs : List Loc} {ls : Array Slot} (hP : va_P (dC, dI) vwCl ([(h0, .inr (15, fs_419))] ++ pl) H) (hD : va_D A ([(h0, .inr (15, fs_419))] ++ pl)) (hK : va_K (dC, dI) vwCl [] s) (hS : va_S A s.heap H locs) (hl : lv_has ls 3 [(0, .ref h0)]) (hF : mF 89 [(36, .ref q_113), (33, .ref q_99), (31, .ref q_57), (30, .ref q_50), (26, .ref q_47), (20, .int (-1)), (17, .int (-1)), (14, .ref q_39), (13, .ref q_35), (0, .int 0), (18, .int 0), (19, .int 0), (21, .int 0), (22, .int 0), (23, .int 0), (24, .int 0), (25, .int 0), (27, .int 0), (28, .int 0), (29, .int 0), (35, .int 0)] fs_419) (kont : ∀ (fs_440 : List Value) (q_434 : Nat) (q_435 : Nat) (q_436 : Nat) (q_437 : Nat) (q_438 : Nat) (k_439 : Nat) (H : Heap) (locs : List Loc) (ls : Array Slot), va_P (dC, dI) vwCl ([(h0, .inr (15, fs_440)), (q_434, .inr (13, [.ref q_435, .ref q_436, .ref q_437, .ref q_438, .int 0])), (q_437, .inl (k_439, 8192, .inl (fun _ => 0)))] ++ pl) H → va_D A ([(h0, .inr (15, fs_440)), (q_434, .inr (13, [.ref q_435, .ref q_436, .ref q_437, .ref q_438, .int 0])), (q_437, .inl (k_439, 8192, .inl (fun _ => 0)))] ++ pl) → va_K (dC, dI) vwCl [(k_439, .int)] s → va_S A s.heap H locs → lv_has ls 3 [(0, .ref h0)] → mF 89 [(36, .ref q_113), (33, .ref q_99), (31, .ref q_57), (30, .ref q_50), (26, .ref q_47), (20, .int (-1)), (17, .int (-1)), (14, .ref q_39), (13, .ref q_35), (0, .int 0), (18, .int 0), (19, .int 0), (21, .int 0), (22, .int 0), (23, .int 0), (24, .int 0), (25, .int 0), (27, .int 0), (28, .int 0), (29, .int 0), (35, .int 0)] fs_440 → W p l e ({ frames := 3, cells := 7193, slots := 3261971, locals := 56 } : Room) s m ([.ref h0] : List Value).toArray below meth c H locs 5273 3004181 Q0 (F0 m 1154 ls [])) : W p l e ({ frames := 3, cells := 7193, slots := 3261971, locals := 56 } : Room) s m ([.ref h0] : List Value).toArray below meth c H locs 5258 2942726 Q0 (F0 m 1112 ls []) := by
  refine lv_aload_n hx hb dX15_init_1112 rfl (lv_at hl 0 rfl) ?_
  refine va_new (ci := 13) (fs := [.null, .null, .null, .null, .int 0]) (C := RX13) (T := TX13) (N := 5) hx hb hts (in_X15_init_X13) tyX13 tyX13_ok hown (hts (.classLink RX15 127 RX13) (List.mem_of_getElem? (i := 29) rfl)) (hts (.instantiable RX13 5) (List.mem_of_getElem? (i := 30) rfl)) (hts (.initialized RX13) (List.mem_of_getElem? (i := 31) rfl)) hK hP hD hS hA rfl (fun j hj => by rcases (show j = 0 ∨ j = 1 ∨ j = 2 ∨ j = 3 ∨ j = 4 by omega) with rfl | rfl | rfl | rfl | rfl <;> rfl) (Nat.le_of_ble_eq_true rfl) (Nat.le_of_ble_eq_true rfl) dX15_init_1113 ?_
  clear hP hD hS; try clear H
  intro q_420 H hP hD hS
  replace hP := va_P.swap hP; replace hD := va_D.swap hD
  replace hP : va_P (dC, dI) vwCl ([(h0, .inr (15, fs_419)), (q_420, .inr (13, [.null, .null, .null, .null, .int 0]))] ++ pl) H := hP
  replace hD : va_D A ([(h0, .inr (15, fs_419)), (q_420, .inr (13, [.null, .null, .null, .null, .int 0]))] ++ pl) := hD
  refine lv_dup hx hb dX15_init_1116 rfl ?_
  refine lv_sipush (v := 4096) hx hb dX15_init_1117 (by decide) ?_
  have hPc := hP.sub (ws' := [(q_420, .inr (13, [.null, .null, .null, .null, .int 0]))]) [1] rfl
  have hDc := hD.sub (ws' := [(q_420, .inr (13, [.null, .null, .null, .null, .int 0]))]) [1] (by decide) rfl
  have hKc := hK.sub (tys' := []) [] rfl
  have hFc := va_free (wc := [(q_420, .inr (13, [.null, .null, .null, .null, .int 0]))]) hD hS hA [1] rfl
  refine va_callv (va_runIN (As := [.int 4096]) (rest := [.ref q_420, .ref h0]) ⟨hx, hb, hml, hown, hts⟩ (c_X13_init_4096 l dC dI q_420 H.size) ⟨va_cnB 1 hts gM15_X13 rfl rfl rfl (hN.1 (RX15, 129, yX13_init, RX15) (List.mem_of_getElem? (i := 28) rfl)) (hts (.initialized RX13) (List.mem_of_getElem? (i := 31) rfl)) hd_X13_init ⟨Nat.le_of_ble_eq_true rfl, Nat.le_of_ble_eq_true rfl⟩, rfl, (hts (.instanceMethod yX13_init) (List.mem_of_getElem? (i := 100) rfl))⟩ ⟨fun a U g mk q => by obtain ⟨q0, q1, qP, qK, qD, qE0⟩ := q; exact ⟨q0, q1, qP, va_K.moved (u := U) (U := U.calling g mk a) (Vm.Alike.refl U.vm) qK, qD, w_N.same rfl qE0⟩, fun U hU hW => ⟨rfl, by rw [hU], by rw [hU]; exact hPc, va_K.moved hW.alike hKc, hDc.weaken (fun _ _ _ _ => trivial), w_N.warm hW hN⟩⟩ rfl rfl hl.1 rfl (lv_room (Nat.le_of_ble_eq_true rfl)) dX15_init_1120 ⟨(Nat.le_of_ble_eq_true rfl), (Nat.le_of_ble_eq_true rfl)⟩) hS (fun q _ h => hFc q h) hFc (fun u t H1 locs1 ht hvm hw hB hz1 hk1 hS1 => ?_)
  obtain ⟨q_421, q_422, q_423, q_424, k_425, hP1, hK1, hD1⟩ := hB
  rw [ht] at hP1
  have hK1 := va_K.moved hvm.symm hK1
  have hJ := va_joinQ (wr := [(h0, .inr (15, fs_419))]) (w1 := [(q_420, .inr (13, [.ref q_421, .ref q_422, .ref q_423, .ref q_424, .int 0])), (q_423, .inl (k_425, 8192, .inl (fun _ => 0)))]) hP hD [1] [0] rfl rfl (by decide) (by decide) hk1 hFc hP1 hD1
  clear hP hD hPc hDc hKc hFc hz1 hw; try clear hk1
  obtain ⟨hP, hD⟩ := hJ
  replace hK := (hK.sub (tys' := []) [] rfl).app (hK1.sub (tys' := [(k_425, .int)]) [0] rfl)
  clear hP1 hK1 hD1 hvm ht hS; try clear t
  try clear H
  revert hS1
  intro hS
  generalize H1 = H at hP hS ⊢; try clear H1
  replace hP : va_P (dC, dI) vwCl ([(h0, .inr (15, fs_419)), (q_420, .inr (13, [.ref q_421, .ref q_422, .ref q_423, .ref q_424, .int 0])), (q_423, .inl (k_425, 8192, .inl (fun _ => 0)))] ++ pl) H := hP
  replace hD : va_D A ([(h0, .inr (15, fs_419)), (q_420, .inr (13, [.ref q_421, .ref q_422, .ref q_423, .ref q_424, .int 0])), (q_423, .inl (k_425, 8192, .inl (fun _ => 0)))] ++ pl) := hD
  replace hK : va_K (dC, dI) vwCl [(k_425, .int)] s := hK
  refine va_putF (D := (dC, dI)) (ci := 15) (v := .ref q_420) (ty := .object "MotionSignsModel$Poly") (C := RX15) (T := TX15) (N := 89) hx hb hts (in_X15_init_X15) tyX15 tyX15_ok nmX15 hown hK hP hD hS 0 rfl rfl 86 (by decide) (hts (.fieldLink RX15 287 "MotionSignsModel" "test" "LMotionSignsModel$Poly;") (List.mem_of_getElem? (i := 86) rfl)) (fun _ h9 => h9) rfl hin rfl (tyX15_ok 86 (by decide)) rfl rfl (mF.lt hF (by decide)) dX15_init_1123 ?_
  clear hP hD hS; try clear H
  intro H locs hP hD hS
  have hF1 := mF.pass hF 86 (.ref q_420) (by decide) rfl
  replace hP : va_P (dC, dI) vwCl ([(h0, .inr (15, (fs_419.set 86 (.ref q_420)))), (q_420, .inr (13, [.ref q_421, .ref q_422, .ref q_423, .ref q_424, .int 0])), (q_423, .inl (k_425, 8192, .inl (fun _ => 0)))] ++ pl) H := hP
  replace hD : va_D A ([(h0, .inr (15, (fs_419.set 86 (.ref q_420)))), (q_420, .inr (13, [.ref q_421, .ref q_422, .ref q_423, .ref q_424, .int 0])), (q_423, .inl (k_425, 8192, .inl (fun _ => 0)))] ++ pl) := hD
  generalize fs_419.set 86 (.ref q_420) = fs_426 at hP hD hF1
  replace hF : mF 89 [(36, .ref q_113), (33, .ref q_99), (31, .ref q_57), (30, .ref q_50), (26, .ref q_47), (20, .int (-1)), (17, .int (-1)), (14, .ref q_39), (13, .ref q_35), (0, .int 0), (18, .int 0), (19, .int 0), (21, .int 0), (22, .int 0), (23, .int 0), (24, .int 0), (25, .int 0), (27, .int 0), (28, .int 0), (29, .int 0), (35, .int 0)] fs_426 := hF1
  clear hF1
  replace hP : va_P (dC, dI) vwCl ([(h0, .inr (15, fs_426)), (q_420, .inr (13, [.ref q_421, .ref q_422, .ref q_423, .ref q_424, .int 0])), (q_423, .inl (k_425, 8192, .inl (fun _ => 0)))] ++ pl) H := hP
  replace hD : va_D A ([(h0, .inr (15, fs_426)), (q_420, .inr (13, [.ref q_421, .ref q_422, .ref q_423, .ref q_424, .int 0])), (q_423, .inl (k_425, 8192, .inl (fun _ => 0)))] ++ pl) := hD
  replace hP := wm_subP (X' := [(h0, .inr (15, fs_426))]) hP [0] rfl
  replace hD := wm_subD (X' := [(h0, .inr (15, fs_426))]) hD [0] (by decide) rfl
  replace hK := hK.sub (tys' := []) [] rfl
  refine lv_aload_n hx hb dX15_init_1126 rfl (lv_at hl 0 rfl) ?_
  refine va_new (ci := 13) (fs := [.null, .null, .null, .null, .int 0]) (C := RX13) (T := TX13) (N := 5) hx hb hts (in_X15_init_X13) tyX13 tyX13_ok hown (hts (.classLink RX15 127 RX13) (List.mem_of_getElem? (i := 29) rfl)) (hts (.instantiable RX13 5) (List.mem_of_getElem? (i := 30) rfl)) (hts (.initialized RX13) (List.mem_of_getElem? (i := 31) rfl)) hK hP hD hS hA rfl (fun j hj => by rcases (show j = 0 ∨ j = 1 ∨ j = 2 ∨ j = 3 ∨ j = 4 by omega) with rfl | rfl | rfl | rfl | rfl <;> rfl) (Nat.le_of_ble_eq_true rfl) (Nat.le_of_ble_eq_true rfl) dX15_init_1127 ?_
  clear hP hD hS; try clear H
  intro q_427 H hP hD hS
  replace hP := va_P.swap hP; replace hD := va_D.swap hD
  replace hP : va_P (dC, dI) vwCl ([(h0, .inr (15, fs_426)), (q_427, .inr (13, [.null, .null, .null, .null, .int 0]))] ++ pl) H := hP
  replace hD : va_D A ([(h0, .inr (15, fs_426)), (q_427, .inr (13, [.null, .null, .null, .null, .int 0]))] ++ pl) := hD
  refine lv_dup hx hb dX15_init_1130 rfl ?_
  refine lv_sipush (v := 4096) hx hb dX15_init_1131 (by decide) ?_
  have hPc := hP.sub (ws' := [(q_427, .inr (13, [.null, .null, .null, .null, .int 0]))]) [1] rfl
  have hDc := hD.sub (ws' := [(q_427, .inr (13, [.null, .null, .null, .null, .int 0]))]) [1] (by decide) rfl
  have hKc := hK.sub (tys' := []) [] rfl
  have hFc := va_free (wc := [(q_427, .inr (13, [.null, .null, .null, .null, .int 0]))]) hD hS hA [1] rfl
  refine va_callv (va_runIN (As := [.int 4096]) (rest := [.ref q_427, .ref h0]) ⟨hx, hb, hml, hown, hts⟩ (c_X13_init_4096 l dC dI q_427 H.size) ⟨va_cnB 1 hts gM15_X13 rfl rfl rfl (hN.1 (RX15, 129, yX13_init, RX15) (List.mem_of_getElem? (i := 28) rfl)) (hts (.initialized RX13) (List.mem_of_getElem? (i := 31) rfl)) hd_X13_init ⟨Nat.le_of_ble_eq_true rfl, Nat.le_of_ble_eq_true rfl⟩, rfl, (hts (.instanceMethod yX13_init) (List.mem_of_getElem? (i := 100) rfl))⟩ ⟨fun a U g mk q => by obtain ⟨q0, q1, qP, qK, qD, qE0⟩ := q; exact ⟨q0, q1, qP, va_K.moved (u := U) (U := U.calling g mk a) (Vm.Alike.refl U.vm) qK, qD, w_N.same rfl qE0⟩, fun U hU hW => ⟨rfl, by rw [hU], by rw [hU]; exact hPc, va_K.moved hW.alike hKc, hDc.weaken (fun _ _ _ _ => trivial), w_N.warm hW hN⟩⟩ rfl rfl hl.1 rfl (lv_room (Nat.le_of_ble_eq_true rfl)) dX15_init_1134 ⟨(Nat.le_of_ble_eq_true rfl), (Nat.le_of_ble_eq_true rfl)⟩) hS (fun q _ h => hFc q h) hFc (fun u t H1 locs1 ht hvm hw hB hz1 hk1 hS1 => ?_)
  obtain ⟨q_428, q_429, q_430, q_431, k_432, hP1, hK1, hD1⟩ := hB
  rw [ht] at hP1
  have hK1 := va_K.moved hvm.symm hK1
  have hJ := va_joinQ (wr := [(h0, .inr (15, fs_426))]) (w1 := [(q_427, .inr (13, [.ref q_428, .ref q_429, .ref q_430, .ref q_431, .int 0])), (q_430, .inl (k_432, 8192, .inl (fun _ => 0)))]) hP hD [1] [0] rfl rfl (by decide) (by decide) hk1 hFc hP1 hD1
  clear hP hD hPc hDc hKc hFc hz1 hw; try clear hk1
  obtain ⟨hP, hD⟩ := hJ
  replace hK := (hK.sub (tys' := []) [] rfl).app (hK1.sub (tys' := [(k_432, .int)]) [0] rfl)
  clear hP1 hK1 hD1 hvm ht hS; try clear t
  try clear H
  revert hS1
  intro hS
  generalize H1 = H at hP hS ⊢; try clear H1
  replace hP : va_P (dC, dI) vwCl ([(h0, .inr (15, fs_426)), (q_427, .inr (13, [.ref q_428, .ref q_429, .ref q_430, .ref q_431, .int 0])), (q_430, .inl (k_432, 8192, .inl (fun _ => 0)))] ++ pl) H := hP
  replace hD : va_D A ([(h0, .inr (15, fs_426)), (q_427, .inr (13, [.ref q_428, .ref q_429, .ref q_430, .ref q_431, .int 0])), (q_430, .inl (k_432, 8192, .inl (fun _ => 0)))] ++ pl) := hD
  replace hK : va_K (dC, dI) vwCl [(k_432, .int)] s := hK
  refine va_putF (D := (dC, dI)) (ci := 15) (v := .ref q_427) (ty := .object "MotionSignsModel$Poly") (C := RX15) (T := TX15) (N := 89) hx hb hts (in_X15_init_X15) tyX15 tyX15_ok nmX15 hown hK hP hD hS 0 rfl rfl 87 (by decide) (hts (.fieldLink RX15 290 "MotionSignsModel" "some" "LMotionSignsModel$Poly;") (List.mem_of_getElem? (i := 87) rfl)) (fun _ h9 => h9) rfl hin rfl (tyX15_ok 87 (by decide)) rfl rfl (mF.lt hF (by decide)) dX15_init_1137 ?_
  clear hP hD hS; try clear H
  intro H locs hP hD hS
  have hF1 := mF.pass hF 87 (.ref q_427) (by decide) rfl
  replace hP : va_P (dC, dI) vwCl ([(h0, .inr (15, (fs_426.set 87 (.ref q_427)))), (q_427, .inr (13, [.ref q_428, .ref q_429, .ref q_430, .ref q_431, .int 0])), (q_430, .inl (k_432, 8192, .inl (fun _ => 0)))] ++ pl) H := hP
  replace hD : va_D A ([(h0, .inr (15, (fs_426.set 87 (.ref q_427)))), (q_427, .inr (13, [.ref q_428, .ref q_429, .ref q_430, .ref q_431, .int 0])), (q_430, .inl (k_432, 8192, .inl (fun _ => 0)))] ++ pl) := hD
  generalize fs_426.set 87 (.ref q_427) = fs_433 at hP hD hF1
  replace hF : mF 89 [(36, .ref q_113), (33, .ref q_99), (31, .ref q_57), (30, .ref q_50), (26, .ref q_47), (20, .int (-1)), (17, .int (-1)), (14, .ref q_39), (13, .ref q_35), (0, .int 0), (18, .int 0), (19, .int 0), (21, .int 0), (22, .int 0), (23, .int 0), (24, .int 0), (25, .int 0), (27, .int 0), (28, .int 0), (29, .int 0), (35, .int 0)] fs_433 := hF1
  clear hF1
  replace hP : va_P (dC, dI) vwCl ([(h0, .inr (15, fs_433)), (q_427, .inr (13, [.ref q_428, .ref q_429, .ref q_430, .ref q_431, .int 0])), (q_430, .inl (k_432, 8192, .inl (fun _ => 0)))] ++ pl) H := hP
  replace hD : va_D A ([(h0, .inr (15, fs_433)), (q_427, .inr (13, [.ref q_428, .ref q_429, .ref q_430, .ref q_431, .int 0])), (q_430, .inl (k_432, 8192, .inl (fun _ => 0)))] ++ pl) := hD
  replace hP := wm_subP (X' := [(h0, .inr (15, fs_433))]) hP [0] rfl
  replace hD := wm_subD (X' := [(h0, .inr (15, fs_433))]) hD [0] (by decide) rfl
  replace hK := hK.sub (tys' := []) [] rfl
  refine lv_aload_n hx hb dX15_init_1140 rfl (lv_at hl 0 rfl) ?_
  refine va_new (ci := 13) (fs := [.null, .null, .null, .null, .int 0]) (C := RX13) (T := TX13) (N := 5) hx hb hts (in_X15_init_X13) tyX13 tyX13_ok hown (hts (.classLink RX15 127 RX13) (List.mem_of_getElem? (i := 29) rfl)) (hts (.instantiable RX13 5) (List.mem_of_getElem? (i := 30) rfl)) (hts (.initialized RX13) (List.mem_of_getElem? (i := 31) rfl)) hK hP hD hS hA rfl (fun j hj => by rcases (show j = 0 ∨ j = 1 ∨ j = 2 ∨ j = 3 ∨ j = 4 by omega) with rfl | rfl | rfl | rfl | rfl <;> rfl) (Nat.le_of_ble_eq_true rfl) (Nat.le_of_ble_eq_true rfl) dX15_init_1141 ?_
  clear hP hD hS; try clear H
  intro q_434 H hP hD hS
  replace hP := va_P.swap hP; replace hD := va_D.swap hD
  replace hP : va_P (dC, dI) vwCl ([(h0, .inr (15, fs_433)), (q_434, .inr (13, [.null, .null, .null, .null, .int 0]))] ++ pl) H := hP
  replace hD : va_D A ([(h0, .inr (15, fs_433)), (q_434, .inr (13, [.null, .null, .null, .null, .int 0]))] ++ pl) := hD
  refine lv_dup hx hb dX15_init_1144 rfl ?_
  refine lv_sipush (v := 4096) hx hb dX15_init_1145 (by decide) ?_
  have hPc := hP.sub (ws' := [(q_434, .inr (13, [.null, .null, .null, .null, .int 0]))]) [1] rfl
  have hDc := hD.sub (ws' := [(q_434, .inr (13, [.null, .null, .null, .null, .int 0]))]) [1] (by decide) rfl
  have hKc := hK.sub (tys' := []) [] rfl
  have hFc := va_free (wc := [(q_434, .inr (13, [.null, .null, .null, .null, .int 0]))]) hD hS hA [1] rfl
  refine va_callv (va_runIN (As := [.int 4096]) (rest := [.ref q_434, .ref h0]) ⟨hx, hb, hml, hown, hts⟩ (c_X13_init_4096 l dC dI q_434 H.size) ⟨va_cnB 1 hts gM15_X13 rfl rfl rfl (hN.1 (RX15, 129, yX13_init, RX15) (List.mem_of_getElem? (i := 28) rfl)) (hts (.initialized RX13) (List.mem_of_getElem? (i := 31) rfl)) hd_X13_init ⟨Nat.le_of_ble_eq_true rfl, Nat.le_of_ble_eq_true rfl⟩, rfl, (hts (.instanceMethod yX13_init) (List.mem_of_getElem? (i := 100) rfl))⟩ ⟨fun a U g mk q => by obtain ⟨q0, q1, qP, qK, qD, qE0⟩ := q; exact ⟨q0, q1, qP, va_K.moved (u := U) (U := U.calling g mk a) (Vm.Alike.refl U.vm) qK, qD, w_N.same rfl qE0⟩, fun U hU hW => ⟨rfl, by rw [hU], by rw [hU]; exact hPc, va_K.moved hW.alike hKc, hDc.weaken (fun _ _ _ _ => trivial), w_N.warm hW hN⟩⟩ rfl rfl hl.1 rfl (lv_room (Nat.le_of_ble_eq_true rfl)) dX15_init_1148 ⟨(Nat.le_of_ble_eq_true rfl), (Nat.le_of_ble_eq_true rfl)⟩) hS (fun q _ h => hFc q h) hFc (fun u t H1 locs1 ht hvm hw hB hz1 hk1 hS1 => ?_)
  obtain ⟨q_435, q_436, q_437, q_438, k_439, hP1, hK1, hD1⟩ := hB
  rw [ht] at hP1
  have hK1 := va_K.moved hvm.symm hK1
  have hJ := va_joinQ (wr := [(h0, .inr (15, fs_433))]) (w1 := [(q_434, .inr (13, [.ref q_435, .ref q_436, .ref q_437, .ref q_438, .int 0])), (q_437, .inl (k_439, 8192, .inl (fun _ => 0)))]) hP hD [1] [0] rfl rfl (by decide) (by decide) hk1 hFc hP1 hD1
  clear hP hD hPc hDc hKc hFc hz1 hw; try clear hk1
  obtain ⟨hP, hD⟩ := hJ
  replace hK := (hK.sub (tys' := []) [] rfl).app (hK1.sub (tys' := [(k_439, .int)]) [0] rfl)
  clear hP1 hK1 hD1 hvm ht hS; try clear t
  try clear H
  revert hS1
  intro hS
  generalize H1 = H at hP hS ⊢; try clear H1
  replace hP : va_P (dC, dI) vwCl ([(h0, .inr (15, fs_433)), (q_434, .inr (13, [.ref q_435, .ref q_436, .ref q_437, .ref q_438, .int 0])), (q_437, .inl (k_439, 8192, .inl (fun _ => 0)))] ++ pl) H := hP
  replace hD : va_D A ([(h0, .inr (15, fs_433)), (q_434, .inr (13, [.ref q_435, .ref q_436, .ref q_437, .ref q_438, .int 0])), (q_437, .inl (k_439, 8192, .inl (fun _ => 0)))] ++ pl) := hD
  replace hK : va_K (dC, dI) vwCl [(k_439, .int)] s := hK
  refine va_putF (D := (dC, dI)) (ci := 15) (v := .ref q_434) (ty := .object "MotionSignsModel$Poly") (C := RX15) (T := TX15) (N := 89) hx hb hts (in_X15_init_X15) tyX15 tyX15_ok nmX15 hown hK hP hD hS 0 rfl rfl 88 (by decide) (hts (.fieldLink RX15 293 "MotionSignsModel" "other" "LMotionSignsModel$Poly;") (List.mem_of_getElem? (i := 88) rfl)) (fun _ h9 => h9) rfl hin rfl (tyX15_ok 88 (by decide)) rfl rfl (mF.lt hF (by decide)) dX15_init_1151 ?_
  clear hP hD hS; try clear H
  intro H locs hP hD hS
  have hF1 := mF.pass hF 88 (.ref q_434) (by decide) rfl
  replace hP : va_P (dC, dI) vwCl ([(h0, .inr (15, (fs_433.set 88 (.ref q_434)))), (q_434, .inr (13, [.ref q_435, .ref q_436, .ref q_437, .ref q_438, .int 0])), (q_437, .inl (k_439, 8192, .inl (fun _ => 0)))] ++ pl) H := hP
  replace hD : va_D A ([(h0, .inr (15, (fs_433.set 88 (.ref q_434)))), (q_434, .inr (13, [.ref q_435, .ref q_436, .ref q_437, .ref q_438, .int 0])), (q_437, .inl (k_439, 8192, .inl (fun _ => 0)))] ++ pl) := hD
  generalize fs_433.set 88 (.ref q_434) = fs_440 at hP hD hF1
  replace hF : mF 89 [(36, .ref q_113), (33, .ref q_99), (31, .ref q_57), (30, .ref q_50), (26, .ref q_47), (20, .int (-1)), (17, .int (-1)), (14, .ref q_39), (13, .ref q_35), (0, .int 0), (18, .int 0), (19, .int 0), (21, .int 0), (22, .int 0), (23, .int 0), (24, .int 0), (25, .int 0), (27, .int 0), (28, .int 0), (29, .int 0), (35, .int 0)] fs_440 := hF1
  clear hF1
  replace hP : va_P (dC, dI) vwCl ([(h0, .inr (15, fs_440)), (q_434, .inr (13, [.ref q_435, .ref q_436, .ref q_437, .ref q_438, .int 0])), (q_437, .inl (k_439, 8192, .inl (fun _ => 0)))] ++ pl) H := hP
  replace hD : va_D A ([(h0, .inr (15, fs_440)), (q_434, .inr (13, [.ref q_435, .ref q_436, .ref q_437, .ref q_438, .int 0])), (q_437, .inl (k_439, 8192, .inl (fun _ => 0)))] ++ pl) := hD
  exact kont fs_440 q_434 q_435 q_436 q_437 q_438 k_439 H locs ls hP hD hK hS hl hF
