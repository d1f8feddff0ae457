set_option maxHeartbeats 40000000 in
set_option maxRecDepth 100000 in
/-- the reference: MotionSignsModel(), rows 684 to 765 -/
theorem c_X15_init_s8 {p : Program} {l : Launch} {e : Env} {s : State} {m : MethodId} {below : List Frame} {meth : Method} {c : Code} {A : Nat → Prop} {Q0 : State → Prop} {dC : Nat → ClassId} {dI : Nat → Nat → Nat} {h0 : Nat} {fs_271 : List Value} {q_113 : Nat} {q_99 : Nat} {q_57 : Nat} {q_50 : Nat} {q_47 : Nat} {q_39 : Nat} {q_35 : Nat} (hx : p.tables.exec = Jvm.exec) (hb : c.code = cX15_init) (hml : c.maxLocals = 3) (hts : ∀ w ∈ wsM15, w.before ([.ref h0] : List Value).toArray s = true) (hown : s.vm.findClass RX15 = some m.cls) (hin : meth.name = "<init>") (hA : ∀ q : Nat, s.heap.size ≤ q → A q) (hN : w_N s) (pl : va_W) {H : Heap} {locs : List Loc} {ls : Array Slot} (hP : va_P (dC, dI) vwCl ([(h0, .inr (15, fs_271))] ++ pl) H) (hD : va_D A ([(h0, .inr (15, fs_271))] ++ pl)) (hK : va_K (dC, dI) vwCl [] s) (hS : va_S A s.heap H locs) (hl : lv_has ls 3 [(0, .ref h0)]) (hF : mF 89 [(36, .ref q_113), (33, .ref q_99), (31, .ref q_57), (30, .ref q_50), (26, .ref q_47), (20, .int (-1)), (17, .int (-1)), (14, .ref q_39), (13, .ref q_35), (0, .int 0), (18, .int 0), (19, .int 0), (21, .int 0), (22, .int 0), (23, .int 0), (24, .int 0), (25, .int 0), (27, .int 0), (28, .int 0), (29, .int 0), (35, .int 0)] fs_271) (kont : ∀ (fs_308 : List Value) (H : Heap) (locs : List Loc) (ls : Array Slot), va_P (dC, dI) vwCl ([(h0, .inr (15, fs_308))] ++ pl) H → va_D A ([(h0, .inr (15, fs_308))] ++ pl) → va_K (dC, dI) vwCl [] s → va_S A s.heap H locs → lv_has ls 3 [(0, .ref h0)] → mF 89 [(36, .ref q_113), (33, .ref q_99), (31, .ref q_57), (30, .ref q_50), (26, .ref q_47), (20, .int (-1)), (17, .int (-1)), (14, .ref q_39), (13, .ref q_35), (0, .int 0), (18, .int 0), (19, .int 0), (21, .int 0), (22, .int 0), (23, .int 0), (24, .int 0), (25, .int 0), (27, .int 0), (28, .int 0), (29, .int 0), (35, .int 0)] fs_308 → W p l e ({ frames := 3, cells := 7193, slots := 3261971, locals := 56 } : Room) s m ([.ref h0] : List Value).toArray below meth c H locs 3934 2818850 Q0 (F0 m 765 ls [])) : W p l e ({ frames := 3, cells := 7193, slots := 3261971, locals := 56 } : Room) s m ([.ref h0] : List Value).toArray below meth c H locs 3910 2817457 Q0 (F0 m 684 ls []) := by
  refine lv_aload_n hx hb dX15_init_684 rfl (lv_at hl 0 rfl) ?_
  refine lv_bipush (v := 30) hx hb dX15_init_685 (by decide) ?_
  refine va_newa (atype := .int) (ty := .int) (N' := 30) (a0 := (30, .inl (fun _ => 0))) hx hb (hts (.arrayClass .int) (List.mem_of_getElem? (i := 24) rfl)) rfl hK hP hD hS hA (fun _ => rfl) (by decide) (by decide) (Nat.le_of_ble_eq_true rfl) (Nat.le_of_ble_eq_true rfl) (Nat.le_of_ble_eq_true rfl) dX15_init_687 ?_
  clear hP hD hS hK; try clear H
  intro q_272 k_273 H hK hP hD hS
  replace hP := va_P.swap hP; replace hD := va_D.swap hD
  replace hP : va_P (dC, dI) vwCl ([(h0, .inr (15, fs_271)), (q_272, .inl (k_273, 30, .inl (fun _ => 0)))] ++ pl) H := hP
  replace hD : va_D A ([(h0, .inr (15, fs_271)), (q_272, .inl (k_273, 30, .inl (fun _ => 0)))] ++ pl) := hD
  replace hK : va_K (dC, dI) vwCl [(k_273, .int)] s := hK
  refine va_putF (D := (dC, dI)) (ci := 15) (v := .ref q_272) (ty := .array .int) (C := RX15) (T := TX15) (N := 89) hx hb hts (in_X15_init_X15) tyX15 tyX15_ok nmX15 hown hK hP hD hS 0 rfl rfl 57 (by decide) (hts (.fieldLink RX15 212 "MotionSignsModel" "leftAt" "[I") (List.mem_of_getElem? (i := 61) rfl)) (fun _ h9 => h9) rfl hin rfl (tyX15_ok 57 (by decide)) rfl rfl (mF.lt hF (by decide)) dX15_init_689 ?_
  clear hP hD hS; try clear H
  intro H locs hP hD hS
  have hF1 := mF.pass hF 57 (.ref q_272) (by decide) rfl
  replace hP : va_P (dC, dI) vwCl ([(h0, .inr (15, (fs_271.set 57 (.ref q_272)))), (q_272, .inl (k_273, 30, .inl (fun _ => 0)))] ++ pl) H := hP
  replace hD : va_D A ([(h0, .inr (15, (fs_271.set 57 (.ref q_272)))), (q_272, .inl (k_273, 30, .inl (fun _ => 0)))] ++ pl) := hD
  generalize fs_271.set 57 (.ref q_272) = fs_274 at hP hD hF1
  replace hF : mF 89 [(36, .ref q_113), (33, .ref q_99), (31, .ref q_57), (30, .ref q_50), (26, .ref q_47), (20, .int (-1)), (17, .int (-1)), (14, .ref q_39), (13, .ref q_35), (0, .int 0), (18, .int 0), (19, .int 0), (21, .int 0), (22, .int 0), (23, .int 0), (24, .int 0), (25, .int 0), (27, .int 0), (28, .int 0), (29, .int 0), (35, .int 0)] fs_274 := hF1
  clear hF1
  replace hP : va_P (dC, dI) vwCl ([(h0, .inr (15, fs_274)), (q_272, .inl (k_273, 30, .inl (fun _ => 0)))] ++ pl) H := hP
  replace hD : va_D A ([(h0, .inr (15, fs_274)), (q_272, .inl (k_273, 30, .inl (fun _ => 0)))] ++ pl) := hD
  replace hP := wm_subP (X' := [(h0, .inr (15, fs_274))]) hP [0] rfl
  replace hD := wm_subD (X' := [(h0, .inr (15, fs_274))]) hD [0] (by decide) rfl
  replace hK := hK.sub (tys' := []) [] rfl
  refine lv_aload_n hx hb dX15_init_692 rfl (lv_at hl 0 rfl) ?_
  refine lv_bipush (v := 30) hx hb dX15_init_693 (by decide) ?_
  refine va_newa (atype := .long) (ty := .long) (N' := 30) (a0 := (30, .inr (.inl (fun _ => 0)))) hx hb (hts (.arrayClass .long) (List.mem_of_getElem? (i := 51) rfl)) rfl hK hP hD hS hA (fun _ => rfl) (by decide) (by decide) (Nat.le_of_ble_eq_true rfl) (Nat.le_of_ble_eq_true rfl) (Nat.le_of_ble_eq_true rfl) dX15_init_695 ?_
  clear hP hD hS hK; try clear H
  intro q_275 k_276 H hK hP hD hS
  replace hP := va_P.swap hP; replace hD := va_D.swap hD
  replace hP : va_P (dC, dI) vwCl ([(h0, .inr (15, fs_274)), (q_275, .inl (k_276, 30, .inr (.inl (fun _ => 0))))] ++ pl) H := hP
  replace hD : va_D A ([(h0, .inr (15, fs_274)), (q_275, .inl (k_276, 30, .inr (.inl (fun _ => 0))))] ++ pl) := hD
  replace hK : va_K (dC, dI) vwCl [(k_276, .long)] s := hK
  refine va_putF (D := (dC, dI)) (ci := 15) (v := .ref q_275) (ty := .array .long) (C := RX15) (T := TX15) (N := 89) hx hb hts (in_X15_init_X15) tyX15 tyX15_ok nmX15 hown hK hP hD hS 0 rfl rfl 58 (by decide) (hts (.fieldLink RX15 215 "MotionSignsModel" "leftHand" "[J") (List.mem_of_getElem? (i := 62) rfl)) (fun _ h9 => h9) rfl hin rfl (tyX15_ok 58 (by decide)) rfl rfl (mF.lt hF (by decide)) dX15_init_697 ?_
  clear hP hD hS; try clear H
  intro H locs hP hD hS
  have hF1 := mF.pass hF 58 (.ref q_275) (by decide) rfl
  replace hP : va_P (dC, dI) vwCl ([(h0, .inr (15, (fs_274.set 58 (.ref q_275)))), (q_275, .inl (k_276, 30, .inr (.inl (fun _ => 0))))] ++ pl) H := hP
  replace hD : va_D A ([(h0, .inr (15, (fs_274.set 58 (.ref q_275)))), (q_275, .inl (k_276, 30, .inr (.inl (fun _ => 0))))] ++ pl) := hD
  generalize fs_274.set 58 (.ref q_275) = fs_277 at hP hD hF1
  replace hF : mF 89 [(36, .ref q_113), (33, .ref q_99), (31, .ref q_57), (30, .ref q_50), (26, .ref q_47), (20, .int (-1)), (17, .int (-1)), (14, .ref q_39), (13, .ref q_35), (0, .int 0), (18, .int 0), (19, .int 0), (21, .int 0), (22, .int 0), (23, .int 0), (24, .int 0), (25, .int 0), (27, .int 0), (28, .int 0), (29, .int 0), (35, .int 0)] fs_277 := hF1
  clear hF1
  replace hP : va_P (dC, dI) vwCl ([(h0, .inr (15, fs_277)), (q_275, .inl (k_276, 30, .inr (.inl (fun _ => 0))))] ++ pl) H := hP
  replace hD : va_D A ([(h0, .inr (15, fs_277)), (q_275, .inl (k_276, 30, .inr (.inl (fun _ => 0))))] ++ pl) := hD
  replace hP := wm_subP (X' := [(h0, .inr (15, fs_277))]) hP [0] rfl
  replace hD := wm_subD (X' := [(h0, .inr (15, fs_277))]) hD [0] (by decide) rfl
  replace hK := hK.sub (tys' := []) [] rfl
  refine lv_aload_n hx hb dX15_init_700 rfl (lv_at hl 0 rfl) ?_
  refine va_new (ci := 13) (fs := [.null, .null, .null, .null, .int 0]) (C := RX13) (T := TX13) (N := 5) hx hb hts (in_X15_init_X13) tyX13 tyX13_ok hown (hts (.classLink RX15 127 RX13) (List.mem_of_getElem? (i := 29) rfl)) (hts (.instantiable RX13 5) (List.mem_of_getElem? (i := 30) rfl)) (hts (.initialized RX13) (List.mem_of_getElem? (i := 31) rfl)) hK hP hD hS hA rfl (fun j hj => by rcases (show j = 0 ∨ j = 1 ∨ j = 2 ∨ j = 3 ∨ j = 4 by omega) with rfl | rfl | rfl | rfl | rfl <;> rfl) (Nat.le_of_ble_eq_true rfl) (Nat.le_of_ble_eq_true rfl) dX15_init_701 ?_
  clear hP hD hS; try clear H
  intro q_278 H hP hD hS
  replace hP := va_P.swap hP; replace hD := va_D.swap hD
  replace hP : va_P (dC, dI) vwCl ([(h0, .inr (15, fs_277)), (q_278, .inr (13, [.null, .null, .null, .null, .int 0]))] ++ pl) H := hP
  replace hD : va_D A ([(h0, .inr (15, fs_277)), (q_278, .inr (13, [.null, .null, .null, .null, .int 0]))] ++ pl) := hD
  refine lv_dup hx hb dX15_init_704 rfl ?_
  refine lv_bipush (v := 64) hx hb dX15_init_705 (by decide) ?_
  have hPc := hP.sub (ws' := [(q_278, .inr (13, [.null, .null, .null, .null, .int 0]))]) [1] rfl
  have hDc := hD.sub (ws' := [(q_278, .inr (13, [.null, .null, .null, .null, .int 0]))]) [1] (by decide) rfl
  have hKc := hK.sub (tys' := []) [] rfl
  have hFc := va_free (wc := [(q_278, .inr (13, [.null, .null, .null, .null, .int 0]))]) hD hS hA [1] rfl
  refine va_callv (va_runIN (As := [.int 64]) (rest := [.ref q_278, .ref h0]) ⟨hx, hb, hml, hown, hts⟩ (c_X13_init_64 l dC dI q_278 H.size) ⟨va_cnB 1 hts gM15_X13 rfl rfl rfl (hN.1 (RX15, 129, yX13_init, RX15) (List.mem_of_getElem? (i := 28) rfl)) (hts (.initialized RX13) (List.mem_of_getElem? (i := 31) rfl)) hd_X13_init ⟨Nat.le_of_ble_eq_true rfl, Nat.le_of_ble_eq_true rfl⟩, rfl, (hts (.instanceMethod yX13_init) (List.mem_of_getElem? (i := 100) rfl))⟩ ⟨fun a U g mk q => by obtain ⟨q0, q1, qP, qK, qD, qE0⟩ := q; exact ⟨q0, q1, qP, va_K.moved (u := U) (U := U.calling g mk a) (Vm.Alike.refl U.vm) qK, qD, w_N.same rfl qE0⟩, fun U hU hW => ⟨rfl, by rw [hU], by rw [hU]; exact hPc, va_K.moved hW.alike hKc, hDc.weaken (fun _ _ _ _ => trivial), w_N.warm hW hN⟩⟩ rfl rfl hl.1 rfl (lv_room (Nat.le_of_ble_eq_true rfl)) dX15_init_707 ⟨(Nat.le_of_ble_eq_true rfl), (Nat.le_of_ble_eq_true rfl)⟩) hS (fun q _ h => hFc q h) hFc (fun u t H1 locs1 ht hvm hw hB hz1 hk1 hS1 => ?_)
  obtain ⟨q_279, q_280, q_281, q_282, k_283, hP1, hK1, hD1⟩ := hB
  rw [ht] at hP1
  have hK1 := va_K.moved hvm.symm hK1
  have hJ := va_joinQ (wr := [(h0, .inr (15, fs_277))]) (w1 := [(q_278, .inr (13, [.ref q_279, .ref q_280, .ref q_281, .ref q_282, .int 0])), (q_281, .inl (k_283, 128, .inl (fun _ => 0)))]) hP hD [1] [0] rfl rfl (by decide) (by decide) hk1 hFc hP1 hD1
  clear hP hD hPc hDc hKc hFc hz1 hw; try clear hk1
  obtain ⟨hP, hD⟩ := hJ
  replace hK := (hK.sub (tys' := []) [] rfl).app (hK1.sub (tys' := [(k_283, .int)]) [0] rfl)
  clear hP1 hK1 hD1 hvm ht hS; try clear t
  try clear H
  revert hS1
  intro hS
  generalize H1 = H at hP hS ⊢; try clear H1
  replace hP : va_P (dC, dI) vwCl ([(h0, .inr (15, fs_277)), (q_278, .inr (13, [.ref q_279, .ref q_280, .ref q_281, .ref q_282, .int 0])), (q_281, .inl (k_283, 128, .inl (fun _ => 0)))] ++ pl) H := hP
  replace hD : va_D A ([(h0, .inr (15, fs_277)), (q_278, .inr (13, [.ref q_279, .ref q_280, .ref q_281, .ref q_282, .int 0])), (q_281, .inl (k_283, 128, .inl (fun _ => 0)))] ++ pl) := hD
  replace hK : va_K (dC, dI) vwCl [(k_283, .int)] s := hK
  refine va_putF (D := (dC, dI)) (ci := 15) (v := .ref q_278) (ty := .object "MotionSignsModel$Poly") (C := RX15) (T := TX15) (N := 89) hx hb hts (in_X15_init_X15) tyX15 tyX15_ok nmX15 hown hK hP hD hS 0 rfl rfl 59 (by decide) (hts (.fieldLink RX15 218 "MotionSignsModel" "moved" "LMotionSignsModel$Poly;") (List.mem_of_getElem? (i := 63) rfl)) (fun _ h9 => h9) rfl hin rfl (tyX15_ok 59 (by decide)) rfl rfl (mF.lt hF (by decide)) dX15_init_710 ?_
  clear hP hD hS; try clear H
  intro H locs hP hD hS
  have hF1 := mF.pass hF 59 (.ref q_278) (by decide) rfl
  replace hP : va_P (dC, dI) vwCl ([(h0, .inr (15, (fs_277.set 59 (.ref q_278)))), (q_278, .inr (13, [.ref q_279, .ref q_280, .ref q_281, .ref q_282, .int 0])), (q_281, .inl (k_283, 128, .inl (fun _ => 0)))] ++ pl) H := hP
  replace hD : va_D A ([(h0, .inr (15, (fs_277.set 59 (.ref q_278)))), (q_278, .inr (13, [.ref q_279, .ref q_280, .ref q_281, .ref q_282, .int 0])), (q_281, .inl (k_283, 128, .inl (fun _ => 0)))] ++ pl) := hD
  generalize fs_277.set 59 (.ref q_278) = fs_284 at hP hD hF1
  replace hF : mF 89 [(36, .ref q_113), (33, .ref q_99), (31, .ref q_57), (30, .ref q_50), (26, .ref q_47), (20, .int (-1)), (17, .int (-1)), (14, .ref q_39), (13, .ref q_35), (0, .int 0), (18, .int 0), (19, .int 0), (21, .int 0), (22, .int 0), (23, .int 0), (24, .int 0), (25, .int 0), (27, .int 0), (28, .int 0), (29, .int 0), (35, .int 0)] fs_284 := hF1
  clear hF1
  replace hP : va_P (dC, dI) vwCl ([(h0, .inr (15, fs_284)), (q_278, .inr (13, [.ref q_279, .ref q_280, .ref q_281, .ref q_282, .int 0])), (q_281, .inl (k_283, 128, .inl (fun _ => 0)))] ++ pl) H := hP
  replace hD : va_D A ([(h0, .inr (15, fs_284)), (q_278, .inr (13, [.ref q_279, .ref q_280, .ref q_281, .ref q_282, .int 0])), (q_281, .inl (k_283, 128, .inl (fun _ => 0)))] ++ pl) := hD
  replace hP := wm_subP (X' := [(h0, .inr (15, fs_284))]) hP [0] rfl
  replace hD := wm_subD (X' := [(h0, .inr (15, fs_284))]) hD [0] (by decide) rfl
  replace hK := hK.sub (tys' := []) [] rfl
  refine lv_aload_n hx hb dX15_init_713 rfl (lv_at hl 0 rfl) ?_
  refine lv_bipush (v := 30) hx hb dX15_init_714 (by decide) ?_
  refine va_newa (atype := .long) (ty := .long) (N' := 30) (a0 := (30, .inr (.inl (fun _ => 0)))) hx hb (hts (.arrayClass .long) (List.mem_of_getElem? (i := 51) rfl)) rfl hK hP hD hS hA (fun _ => rfl) (by decide) (by decide) (Nat.le_of_ble_eq_true rfl) (Nat.le_of_ble_eq_true rfl) (Nat.le_of_ble_eq_true rfl) dX15_init_716 ?_
  clear hP hD hS hK; try clear H
  intro q_285 k_286 H hK hP hD hS
  replace hP := va_P.swap hP; replace hD := va_D.swap hD
  replace hP : va_P (dC, dI) vwCl ([(h0, .inr (15, fs_284)), (q_285, .inl (k_286, 30, .inr (.inl (fun _ => 0))))] ++ pl) H := hP
  replace hD : va_D A ([(h0, .inr (15, fs_284)), (q_285, .inl (k_286, 30, .inr (.inl (fun _ => 0))))] ++ pl) := hD
  replace hK : va_K (dC, dI) vwCl [(k_286, .long)] s := hK
  refine va_putF (D := (dC, dI)) (ci := 15) (v := .ref q_285) (ty := .array .long) (C := RX15) (T := TX15) (N := 89) hx hb hts (in_X15_init_X15) tyX15 tyX15_ok nmX15 hown hK hP hD hS 0 rfl rfl 60 (by decide) (hts (.fieldLink RX15 221 "MotionSignsModel" "vector" "[J") (List.mem_of_getElem? (i := 64) rfl)) (fun _ h9 => h9) rfl hin rfl (tyX15_ok 60 (by decide)) rfl rfl (mF.lt hF (by decide)) dX15_init_718 ?_
  clear hP hD hS; try clear H
  intro H locs hP hD hS
  have hF1 := mF.pass hF 60 (.ref q_285) (by decide) rfl
  replace hP : va_P (dC, dI) vwCl ([(h0, .inr (15, (fs_284.set 60 (.ref q_285)))), (q_285, .inl (k_286, 30, .inr (.inl (fun _ => 0))))] ++ pl) H := hP
  replace hD : va_D A ([(h0, .inr (15, (fs_284.set 60 (.ref q_285)))), (q_285, .inl (k_286, 30, .inr (.inl (fun _ => 0))))] ++ pl) := hD
  generalize fs_284.set 60 (.ref q_285) = fs_287 at hP hD hF1
  replace hF : mF 89 [(36, .ref q_113), (33, .ref q_99), (31, .ref q_57), (30, .ref q_50), (26, .ref q_47), (20, .int (-1)), (17, .int (-1)), (14, .ref q_39), (13, .ref q_35), (0, .int 0), (18, .int 0), (19, .int 0), (21, .int 0), (22, .int 0), (23, .int 0), (24, .int 0), (25, .int 0), (27, .int 0), (28, .int 0), (29, .int 0), (35, .int 0)] fs_287 := hF1
  clear hF1
  replace hP : va_P (dC, dI) vwCl ([(h0, .inr (15, fs_287)), (q_285, .inl (k_286, 30, .inr (.inl (fun _ => 0))))] ++ pl) H := hP
  replace hD : va_D A ([(h0, .inr (15, fs_287)), (q_285, .inl (k_286, 30, .inr (.inl (fun _ => 0))))] ++ pl) := hD
  replace hP := wm_subP (X' := [(h0, .inr (15, fs_287))]) hP [0] rfl
  replace hD := wm_subD (X' := [(h0, .inr (15, fs_287))]) hD [0] (by decide) rfl
  replace hK := hK.sub (tys' := []) [] rfl
  refine lv_aload_n hx hb dX15_init_721 rfl (lv_at hl 0 rfl) ?_
  refine lv_iconst (v := 3) hx hb dX15_init_722 (by decide) ?_
  refine va_newq (C := RX13) (N' := 3) hx hb hown (hts (.classLink RX15 127 RX13) (List.mem_of_getElem? (i := 29) rfl)) (hN.2.2.1 RX13 (List.mem_of_getElem? (i := 5) rfl)) hK hP hD hS hA (by decide) (by decide) (Nat.le_of_ble_eq_true rfl) (Nat.le_of_ble_eq_true rfl) (Nat.le_of_ble_eq_true rfl) dX15_init_723 ?_
  clear hP hD hS hK; try clear H
  intro q_288 k_289 H hK hP hD hS
  replace hP := va_P.swap hP; replace hD := va_D.swap hD
  replace hP : va_P (dC, dI) vwCl ([(h0, .inr (15, fs_287)), (q_288, .inl (k_289, 3, .inr (.inr (.inr (.inr (fun _ => none))))))] ++ pl) H := hP
  replace hD : va_D A ([(h0, .inr (15, fs_287)), (q_288, .inl (k_289, 3, .inr (.inr (.inr (.inr (fun _ => none))))))] ++ pl) := hD
  replace hK : va_K (dC, dI) vwCl [(k_289, .object RX13)] s := hK
  refine lv_dup hx hb dX15_init_726 rfl ?_
  refine lv_iconst (v := 0) hx hb dX15_init_727 (by decide) ?_
  refine va_new (ci := 13) (fs := [.null, .null, .null, .null, .int 0]) (C := RX13) (T := TX13) (N := 5) hx hb hts (in_X15_init_X13) tyX13 tyX13_ok hown (hts (.classLink RX15 127 RX13) (List.mem_of_getElem? (i := 29) rfl)) (hts (.instantiable RX13 5) (List.mem_of_getElem? (i := 30) rfl)) (hts (.initialized RX13) (List.mem_of_getElem? (i := 31) rfl)) hK hP hD hS hA rfl (fun j hj => by rcases (show j = 0 ∨ j = 1 ∨ j = 2 ∨ j = 3 ∨ j = 4 by omega) with rfl | rfl | rfl | rfl | rfl <;> rfl) (Nat.le_of_ble_eq_true rfl) (Nat.le_of_ble_eq_true rfl) dX15_init_728 ?_
  clear hP hD hS; try clear H
  intro q_290 H hP hD hS
  replace hP := va_P.swap hP; replace hD := va_D.swap hD
  replace hP : va_P (dC, dI) vwCl ([(h0, .inr (15, fs_287)), (q_288, .inl (k_289, 3, .inr (.inr (.inr (.inr (fun _ => none)))))), (q_290, .inr (13, [.null, .null, .null, .null, .int 0]))] ++ pl) H := hP
  replace hD : va_D A ([(h0, .inr (15, fs_287)), (q_288, .inl (k_289, 3, .inr (.inr (.inr (.inr (fun _ => none)))))), (q_290, .inr (13, [.null, .null, .null, .null, .int 0]))] ++ pl) := hD
  refine lv_dup hx hb dX15_init_731 rfl ?_
  refine lv_bipush (v := 64) hx hb dX15_init_732 (by decide) ?_
  have hPc := hP.sub (ws' := [(q_290, .inr (13, [.null, .null, .null, .null, .int 0]))]) [2] rfl
  have hDc := hD.sub (ws' := [(q_290, .inr (13, [.null, .null, .null, .null, .int 0]))]) [2] (by decide) rfl
  have hKc := hK.sub (tys' := []) [] rfl
  have hFc := va_free (wc := [(q_290, .inr (13, [.null, .null, .null, .null, .int 0]))]) hD hS hA [2] rfl
  refine va_callv (va_runIN (As := [.int 64]) (rest := [.ref q_290, .int 0, .ref q_288, .ref q_288, .ref h0]) ⟨hx, hb, hml, hown, hts⟩ (c_X13_init_64 l dC dI q_290 H.size) ⟨va_cnB 1 hts gM15_X13 rfl rfl rfl (hN.1 (RX15, 129, yX13_init, RX15) (List.mem_of_getElem? (i := 28) rfl)) (hts (.initialized RX13) (List.mem_of_getElem? (i := 31) rfl)) hd_X13_init ⟨Nat.le_of_ble_eq_true rfl, Nat.le_of_ble_eq_true rfl⟩, rfl, (hts (.instanceMethod yX13_init) (List.mem_of_getElem? (i := 100) rfl))⟩ ⟨fun a U g mk q => by obtain ⟨q0, q1, qP, qK, qD, qE0⟩ := q; exact ⟨q0, q1, qP, va_K.moved (u := U) (U := U.calling g mk a) (Vm.Alike.refl U.vm) qK, qD, w_N.same rfl qE0⟩, fun U hU hW => ⟨rfl, by rw [hU], by rw [hU]; exact hPc, va_K.moved hW.alike hKc, hDc.weaken (fun _ _ _ _ => trivial), w_N.warm hW hN⟩⟩ rfl rfl hl.1 rfl (lv_room (Nat.le_of_ble_eq_true rfl)) dX15_init_734 ⟨(Nat.le_of_ble_eq_true rfl), (Nat.le_of_ble_eq_true rfl)⟩) hS (fun q _ h => hFc q h) hFc (fun u t H1 locs1 ht hvm hw hB hz1 hk1 hS1 => ?_)
  obtain ⟨q_291, q_292, q_293, q_294, k_295, hP1, hK1, hD1⟩ := hB
  rw [ht] at hP1
  have hK1 := va_K.moved hvm.symm hK1
  have hJ := va_joinQ (wr := [(h0, .inr (15, fs_287)), (q_288, .inl (k_289, 3, .inr (.inr (.inr (.inr (fun _ => none))))))]) (w1 := [(q_290, .inr (13, [.ref q_291, .ref q_292, .ref q_293, .ref q_294, .int 0])), (q_293, .inl (k_295, 128, .inl (fun _ => 0)))]) hP hD [2] [0, 1] rfl rfl (by decide) (by decide) hk1 hFc hP1 hD1
  clear hP hD hPc hDc hKc hFc hz1 hw; try clear hk1
  obtain ⟨hP, hD⟩ := hJ
  replace hK := (hK.sub (tys' := [(k_289, .object RX13)]) [0] rfl).app (hK1.sub (tys' := [(k_295, .int)]) [0] rfl)
  clear hP1 hK1 hD1 hvm ht hS; try clear t
  try clear H
  revert hS1
  intro hS
  generalize H1 = H at hP hS ⊢; try clear H1
  replace hP : va_P (dC, dI) vwCl ([(h0, .inr (15, fs_287)), (q_288, .inl (k_289, 3, .inr (.inr (.inr (.inr (fun _ => none)))))), (q_290, .inr (13, [.ref q_291, .ref q_292, .ref q_293, .ref q_294, .int 0])), (q_293, .inl (k_295, 128, .inl (fun _ => 0)))] ++ pl) H := hP
  replace hD : va_D A ([(h0, .inr (15, fs_287)), (q_288, .inl (k_289, 3, .inr (.inr (.inr (.inr (fun _ => none)))))), (q_290, .inr (13, [.ref q_291, .ref q_292, .ref q_293, .ref q_294, .int 0])), (q_293, .inl (k_295, 128, .inl (fun _ => 0)))] ++ pl) := hD
  replace hK : va_K (dC, dI) vwCl [(k_289, .object RX13), (k_295, .int)] s := hK
  refine va_astq hx hb hK hP hD hS 1 0 2 13 rfl rfl rfl rfl (by exact fun h => by rcases h with h | h <;> revert h <;> decide) dX15_init_737 ?_
  clear hP hD hS; try clear H
  intro H locs hP hD hS
  replace hP : va_P (dC, dI) vwCl ([(h0, .inr (15, fs_287)), (q_288, .inl (k_289, 3, .inr (.inr (.inr (.inr (va_up (fun _ => none) (0 : Int32).toNatClampNeg (some q_290))))))), (q_290, .inr (13, [.ref q_291, .ref q_292, .ref q_293, .ref q_294, .int 0])), (q_293, .inl (k_295, 128, .inl (fun _ => 0)))] ++ pl) H := hP
  replace hD : va_D A ([(h0, .inr (15, fs_287)), (q_288, .inl (k_289, 3, .inr (.inr (.inr (.inr (va_up (fun _ => none) (0 : Int32).toNatClampNeg (some q_290))))))), (q_290, .inr (13, [.ref q_291, .ref q_292, .ref q_293, .ref q_294, .int 0])), (q_293, .inl (k_295, 128, .inl (fun _ => 0)))] ++ pl) := hD
  refine lv_dup hx hb dX15_init_738 rfl ?_
  refine lv_iconst (v := 1) hx hb dX15_init_739 (by decide) ?_
  refine va_new (ci := 13) (fs := [.null, .null, .null, .null, .int 0]) (C := RX13) (T := TX13) (N := 5) hx hb hts (in_X15_init_X13) tyX13 tyX13_ok hown (hts (.classLink RX15 127 RX13) (List.mem_of_getElem? (i := 29) rfl)) (hts (.instantiable RX13 5) (List.mem_of_getElem? (i := 30) rfl)) (hts (.initialized RX13) (List.mem_of_getElem? (i := 31) rfl)) hK hP hD hS hA rfl (fun j hj => by rcases (show j = 0 ∨ j = 1 ∨ j = 2 ∨ j = 3 ∨ j = 4 by omega) with rfl | rfl | rfl | rfl | rfl <;> rfl) (Nat.le_of_ble_eq_true rfl) (Nat.le_of_ble_eq_true rfl) dX15_init_740 ?_
  clear hP hD hS; try clear H
  intro q_296 H hP hD hS
  replace hP := va_P.swap hP; replace hD := va_D.swap hD
  replace hP : va_P (dC, dI) vwCl ([(h0, .inr (15, fs_287)), (q_288, .inl (k_289, 3, .inr (.inr (.inr (.inr (va_up (fun _ => none) (0 : Int32).toNatClampNeg (some q_290))))))), (q_290, .inr (13, [.ref q_291, .ref q_292, .ref q_293, .ref q_294, .int 0])), (q_293, .inl (k_295, 128, .inl (fun _ => 0))), (q_296, .inr (13, [.null, .null, .null, .null, .int 0]))] ++ pl) H := hP
  replace hD : va_D A ([(h0, .inr (15, fs_287)), (q_288, .inl (k_289, 3, .inr (.inr (.inr (.inr (va_up (fun _ => none) (0 : Int32).toNatClampNeg (some q_290))))))), (q_290, .inr (13, [.ref q_291, .ref q_292, .ref q_293, .ref q_294, .int 0])), (q_293, .inl (k_295, 128, .inl (fun _ => 0))), (q_296, .inr (13, [.null, .null, .null, .null, .int 0]))] ++ pl) := hD
  refine lv_dup hx hb dX15_init_743 rfl ?_
  refine lv_bipush (v := 64) hx hb dX15_init_744 (by decide) ?_
  have hPc := hP.sub (ws' := [(q_296, .inr (13, [.null, .null, .null, .null, .int 0]))]) [4] rfl
  have hDc := hD.sub (ws' := [(q_296, .inr (13, [.null, .null, .null, .null, .int 0]))]) [4] (by decide) rfl
  have hKc := hK.sub (tys' := []) [] rfl
  have hFc := va_free (wc := [(q_296, .inr (13, [.null, .null, .null, .null, .int 0]))]) hD hS hA [4] rfl
  refine va_callv (va_runIN (As := [.int 64]) (rest := [.ref q_296, .int 1, .ref q_288, .ref q_288, .ref h0]) ⟨hx, hb, hml, hown, hts⟩ (c_X13_init_64 l dC dI q_296 H.size) ⟨va_cnB 1 hts gM15_X13 rfl rfl rfl (hN.1 (RX15, 129, yX13_init, RX15) (List.mem_of_getElem? (i := 28) rfl)) (hts (.initialized RX13) (List.mem_of_getElem? (i := 31) rfl)) hd_X13_init ⟨Nat.le_of_ble_eq_true rfl, Nat.le_of_ble_eq_true rfl⟩, rfl, (hts (.instanceMethod yX13_init) (List.mem_of_getElem? (i := 100) rfl))⟩ ⟨fun a U g mk q => by obtain ⟨q0, q1, qP, qK, qD, qE0⟩ := q; exact ⟨q0, q1, qP, va_K.moved (u := U) (U := U.calling g mk a) (Vm.Alike.refl U.vm) qK, qD, w_N.same rfl qE0⟩, fun U hU hW => ⟨rfl, by rw [hU], by rw [hU]; exact hPc, va_K.moved hW.alike hKc, hDc.weaken (fun _ _ _ _ => trivial), w_N.warm hW hN⟩⟩ rfl rfl hl.1 rfl (lv_room (Nat.le_of_ble_eq_true rfl)) dX15_init_746 ⟨(Nat.le_of_ble_eq_true rfl), (Nat.le_of_ble_eq_true rfl)⟩) hS (fun q _ h => hFc q h) hFc (fun u t H1 locs1 ht hvm hw hB hz1 hk1 hS1 => ?_)
  obtain ⟨q_297, q_298, q_299, q_300, k_301, hP1, hK1, hD1⟩ := hB
  rw [ht] at hP1
  have hK1 := va_K.moved hvm.symm hK1
  have hJ := va_joinQ (wr := [(h0, .inr (15, fs_287)), (q_288, .inl (k_289, 3, .inr (.inr (.inr (.inr (va_up (fun _ => none) (0 : Int32).toNatClampNeg (some q_290))))))), (q_290, .inr (13, [.ref q_291, .ref q_292, .ref q_293, .ref q_294, .int 0])), (q_293, .inl (k_295, 128, .inl (fun _ => 0)))]) (w1 := [(q_296, .inr (13, [.ref q_297, .ref q_298, .ref q_299, .ref q_300, .int 0])), (q_299, .inl (k_301, 128, .inl (fun _ => 0)))]) hP hD [4] [0, 1, 2, 3] rfl rfl (by decide) (by decide) hk1 hFc hP1 hD1
  clear hP hD hPc hDc hKc hFc hz1 hw; try clear hk1
  obtain ⟨hP, hD⟩ := hJ
  replace hK := (hK.sub (tys' := [(k_289, .object RX13), (k_295, .int)]) [0, 1] rfl).app (hK1.sub (tys' := [(k_301, .int)]) [0] rfl)
  clear hP1 hK1 hD1 hvm ht hS; try clear t
  try clear H
  revert hS1
  intro hS
  generalize H1 = H at hP hS ⊢; try clear H1
  replace hP : va_P (dC, dI) vwCl ([(h0, .inr (15, fs_287)), (q_288, .inl (k_289, 3, .inr (.inr (.inr (.inr (va_up (fun _ => none) (0 : Int32).toNatClampNeg (some q_290))))))), (q_290, .inr (13, [.ref q_291, .ref q_292, .ref q_293, .ref q_294, .int 0])), (q_293, .inl (k_295, 128, .inl (fun _ => 0))), (q_296, .inr (13, [.ref q_297, .ref q_298, .ref q_299, .ref q_300, .int 0])), (q_299, .inl (k_301, 128, .inl (fun _ => 0)))] ++ pl) H := hP
  replace hD : va_D A ([(h0, .inr (15, fs_287)), (q_288, .inl (k_289, 3, .inr (.inr (.inr (.inr (va_up (fun _ => none) (0 : Int32).toNatClampNeg (some q_290))))))), (q_290, .inr (13, [.ref q_291, .ref q_292, .ref q_293, .ref q_294, .int 0])), (q_293, .inl (k_295, 128, .inl (fun _ => 0))), (q_296, .inr (13, [.ref q_297, .ref q_298, .ref q_299, .ref q_300, .int 0])), (q_299, .inl (k_301, 128, .inl (fun _ => 0)))] ++ pl) := hD
  replace hK : va_K (dC, dI) vwCl [(k_289, .object RX13), (k_295, .int), (k_301, .int)] s := hK
  refine va_astq hx hb hK hP hD hS 1 0 4 13 rfl rfl rfl rfl (by exact fun h => by rcases h with h | h <;> revert h <;> decide) dX15_init_749 ?_
  clear hP hD hS; try clear H
  intro H locs hP hD hS
  replace hP : va_P (dC, dI) vwCl ([(h0, .inr (15, fs_287)), (q_288, .inl (k_289, 3, .inr (.inr (.inr (.inr (va_up (va_up (fun _ => none) (0 : Int32).toNatClampNeg (some q_290)) (1 : Int32).toNatClampNeg (some q_296))))))), (q_290, .inr (13, [.ref q_291, .ref q_292, .ref q_293, .ref q_294, .int 0])), (q_293, .inl (k_295, 128, .inl (fun _ => 0))), (q_296, .inr (13, [.ref q_297, .ref q_298, .ref q_299, .ref q_300, .int 0])), (q_299, .inl (k_301, 128, .inl (fun _ => 0)))] ++ pl) H := hP
  replace hD : va_D A ([(h0, .inr (15, fs_287)), (q_288, .inl (k_289, 3, .inr (.inr (.inr (.inr (va_up (va_up (fun _ => none) (0 : Int32).toNatClampNeg (some q_290)) (1 : Int32).toNatClampNeg (some q_296))))))), (q_290, .inr (13, [.ref q_291, .ref q_292, .ref q_293, .ref q_294, .int 0])), (q_293, .inl (k_295, 128, .inl (fun _ => 0))), (q_296, .inr (13, [.ref q_297, .ref q_298, .ref q_299, .ref q_300, .int 0])), (q_299, .inl (k_301, 128, .inl (fun _ => 0)))] ++ pl) := hD
  refine lv_dup hx hb dX15_init_750 rfl ?_
  refine lv_iconst (v := 2) hx hb dX15_init_751 (by decide) ?_
  refine va_new (ci := 13) (fs := [.null, .null, .null, .null, .int 0]) (C := RX13) (T := TX13) (N := 5) hx hb hts (in_X15_init_X13) tyX13 tyX13_ok hown (hts (.classLink RX15 127 RX13) (List.mem_of_getElem? (i := 29) rfl)) (hts (.instantiable RX13 5) (List.mem_of_getElem? (i := 30) rfl)) (hts (.initialized RX13) (List.mem_of_getElem? (i := 31) rfl)) hK hP hD hS hA rfl (fun j hj => by rcases (show j = 0 ∨ j = 1 ∨ j = 2 ∨ j = 3 ∨ j = 4 by omega) with rfl | rfl | rfl | rfl | rfl <;> rfl) (Nat.le_of_ble_eq_true rfl) (Nat.le_of_ble_eq_true rfl) dX15_init_752 ?_
  clear hP hD hS; try clear H
  intro q_302 H hP hD hS
  replace hP := va_P.swap hP; replace hD := va_D.swap hD
  replace hP : va_P (dC, dI) vwCl ([(h0, .inr (15, fs_287)), (q_288, .inl (k_289, 3, .inr (.inr (.inr (.inr (va_up (va_up (fun _ => none) (0 : Int32).toNatClampNeg (some q_290)) (1 : Int32).toNatClampNeg (some q_296))))))), (q_290, .inr (13, [.ref q_291, .ref q_292, .ref q_293, .ref q_294, .int 0])), (q_293, .inl (k_295, 128, .inl (fun _ => 0))), (q_296, .inr (13, [.ref q_297, .ref q_298, .ref q_299, .ref q_300, .int 0])), (q_299, .inl (k_301, 128, .inl (fun _ => 0))), (q_302, .inr (13, [.null, .null, .null, .null, .int 0]))] ++ pl) H := hP
  replace hD : va_D A ([(h0, .inr (15, fs_287)), (q_288, .inl (k_289, 3, .inr (.inr (.inr (.inr (va_up (va_up (fun _ => none) (0 : Int32).toNatClampNeg (some q_290)) (1 : Int32).toNatClampNeg (some q_296))))))), (q_290, .inr (13, [.ref q_291, .ref q_292, .ref q_293, .ref q_294, .int 0])), (q_293, .inl (k_295, 128, .inl (fun _ => 0))), (q_296, .inr (13, [.ref q_297, .ref q_298, .ref q_299, .ref q_300, .int 0])), (q_299, .inl (k_301, 128, .inl (fun _ => 0))), (q_302, .inr (13, [.null, .null, .null, .null, .int 0]))] ++ pl) := hD
  refine lv_dup hx hb dX15_init_755 rfl ?_
  refine lv_bipush (v := 64) hx hb dX15_init_756 (by decide) ?_
  have hPc := hP.sub (ws' := [(q_302, .inr (13, [.null, .null, .null, .null, .int 0]))]) [6] rfl
  have hDc := hD.sub (ws' := [(q_302, .inr (13, [.null, .null, .null, .null, .int 0]))]) [6] (by decide) rfl
  have hKc := hK.sub (tys' := []) [] rfl
  have hFc := va_free (wc := [(q_302, .inr (13, [.null, .null, .null, .null, .int 0]))]) hD hS hA [6] rfl
  refine va_callv (va_runIN (As := [.int 64]) (rest := [.ref q_302, .int 2, .ref q_288, .ref q_288, .ref h0]) ⟨hx, hb, hml, hown, hts⟩ (c_X13_init_64 l dC dI q_302 H.size) ⟨va_cnB 1 hts gM15_X13 rfl rfl rfl (hN.1 (RX15, 129, yX13_init, RX15) (List.mem_of_getElem? (i := 28) rfl)) (hts (.initialized RX13) (List.mem_of_getElem? (i := 31) rfl)) hd_X13_init ⟨Nat.le_of_ble_eq_true rfl, Nat.le_of_ble_eq_true rfl⟩, rfl, (hts (.instanceMethod yX13_init) (List.mem_of_getElem? (i := 100) rfl))⟩ ⟨fun a U g mk q => by obtain ⟨q0, q1, qP, qK, qD, qE0⟩ := q; exact ⟨q0, q1, qP, va_K.moved (u := U) (U := U.calling g mk a) (Vm.Alike.refl U.vm) qK, qD, w_N.same rfl qE0⟩, fun U hU hW => ⟨rfl, by rw [hU], by rw [hU]; exact hPc, va_K.moved hW.alike hKc, hDc.weaken (fun _ _ _ _ => trivial), w_N.warm hW hN⟩⟩ rfl rfl hl.1 rfl (lv_room (Nat.le_of_ble_eq_true rfl)) dX15_init_758 ⟨(Nat.le_of_ble_eq_true rfl), (Nat.le_of_ble_eq_true rfl)⟩) hS (fun q _ h => hFc q h) hFc (fun u t H1 locs1 ht hvm hw hB hz1 hk1 hS1 => ?_)
  obtain ⟨q_303, q_304, q_305, q_306, k_307, hP1, hK1, hD1⟩ := hB
  rw [ht] at hP1
  have hK1 := va_K.moved hvm.symm hK1
  have hJ := va_joinQ (wr := [(h0, .inr (15, fs_287)), (q_288, .inl (k_289, 3, .inr (.inr (.inr (.inr (va_up (va_up (fun _ => none) (0 : Int32).toNatClampNeg (some q_290)) (1 : Int32).toNatClampNeg (some q_296))))))), (q_290, .inr (13, [.ref q_291, .ref q_292, .ref q_293, .ref q_294, .int 0])), (q_293, .inl (k_295, 128, .inl (fun _ => 0))), (q_296, .inr (13, [.ref q_297, .ref q_298, .ref q_299, .ref q_300, .int 0])), (q_299, .inl (k_301, 128, .inl (fun _ => 0)))]) (w1 := [(q_302, .inr (13, [.ref q_303, .ref q_304, .ref q_305, .ref q_306, .int 0])), (q_305, .inl (k_307, 128, .inl (fun _ => 0)))]) hP hD [6] [0, 1, 2, 3, 4, 5] rfl rfl (by decide) (by decide) hk1 hFc hP1 hD1
  clear hP hD hPc hDc hKc hFc hz1 hw; try clear hk1
  obtain ⟨hP, hD⟩ := hJ
  replace hK := (hK.sub (tys' := [(k_289, .object RX13), (k_295, .int), (k_301, .int)]) [0, 1, 2] rfl).app (hK1.sub (tys' := [(k_307, .int)]) [0] rfl)
  clear hP1 hK1 hD1 hvm ht hS; try clear t
  try clear H
  revert hS1
  intro hS
  generalize H1 = H at hP hS ⊢; try clear H1
  replace hP : va_P (dC, dI) vwCl ([(h0, .inr (15, fs_287)), (q_288, .inl (k_289, 3, .inr (.inr (.inr (.inr (va_up (va_up (fun _ => none) (0 : Int32).toNatClampNeg (some q_290)) (1 : Int32).toNatClampNeg (some q_296))))))), (q_290, .inr (13, [.ref q_291, .ref q_292, .ref q_293, .ref q_294, .int 0])), (q_293, .inl (k_295, 128, .inl (fun _ => 0))), (q_296, .inr (13, [.ref q_297, .ref q_298, .ref q_299, .ref q_300, .int 0])), (q_299, .inl (k_301, 128, .inl (fun _ => 0))), (q_302, .inr (13, [.ref q_303, .ref q_304, .ref q_305, .ref q_306, .int 0])), (q_305, .inl (k_307, 128, .inl (fun _ => 0)))] ++ pl) H := hP
  replace hD : va_D A ([(h0, .inr (15, fs_287)), (q_288, .inl (k_289, 3, .inr (.inr (.inr (.inr (va_up (va_up (fun _ => none) (0 : Int32).toNatClampNeg (some q_290)) (1 : Int32).toNatClampNeg (some q_296))))))), (q_290, .inr (13, [.ref q_291, .ref q_292, .ref q_293, .ref q_294, .int 0])), (q_293, .inl (k_295, 128, .inl (fun _ => 0))), (q_296, .inr (13, [.ref q_297, .ref q_298, .ref q_299, .ref q_300, .int 0])), (q_299, .inl (k_301, 128, .inl (fun _ => 0))), (q_302, .inr (13, [.ref q_303, .ref q_304, .ref q_305, .ref q_306, .int 0])), (q_305, .inl (k_307, 128, .inl (fun _ => 0)))] ++ pl) := hD
  replace hK : va_K (dC, dI) vwCl [(k_289, .object RX13), (k_295, .int), (k_301, .int), (k_307, .int)] s := hK
  refine va_astq hx hb hK hP hD hS 1 0 6 13 rfl rfl rfl rfl (by exact fun h => by rcases h with h | h <;> revert h <;> decide) dX15_init_761 ?_
  clear hP hD hS; try clear H
  intro H locs hP hD hS
  replace hP : va_P (dC, dI) vwCl ([(h0, .inr (15, fs_287)), (q_288, .inl (k_289, 3, .inr (.inr (.inr (.inr (va_up (va_up (va_up (fun _ => none) (0 : Int32).toNatClampNeg (some q_290)) (1 : Int32).toNatClampNeg (some q_296)) (2 : Int32).toNatClampNeg (some q_302))))))), (q_290, .inr (13, [.ref q_291, .ref q_292, .ref q_293, .ref q_294, .int 0])), (q_293, .inl (k_295, 128, .inl (fun _ => 0))), (q_296, .inr (13, [.ref q_297, .ref q_298, .ref q_299, .ref q_300, .int 0])), (q_299, .inl (k_301, 128, .inl (fun _ => 0))), (q_302, .inr (13, [.ref q_303, .ref q_304, .ref q_305, .ref q_306, .int 0])), (q_305, .inl (k_307, 128, .inl (fun _ => 0)))] ++ pl) H := hP
  replace hD : va_D A ([(h0, .inr (15, fs_287)), (q_288, .inl (k_289, 3, .inr (.inr (.inr (.inr (va_up (va_up (va_up (fun _ => none) (0 : Int32).toNatClampNeg (some q_290)) (1 : Int32).toNatClampNeg (some q_296)) (2 : Int32).toNatClampNeg (some q_302))))))), (q_290, .inr (13, [.ref q_291, .ref q_292, .ref q_293, .ref q_294, .int 0])), (q_293, .inl (k_295, 128, .inl (fun _ => 0))), (q_296, .inr (13, [.ref q_297, .ref q_298, .ref q_299, .ref q_300, .int 0])), (q_299, .inl (k_301, 128, .inl (fun _ => 0))), (q_302, .inr (13, [.ref q_303, .ref q_304, .ref q_305, .ref q_306, .int 0])), (q_305, .inl (k_307, 128, .inl (fun _ => 0)))] ++ pl) := hD
  refine va_putF (D := (dC, dI)) (ci := 15) (v := .ref q_288) (ty := .array (.object "MotionSignsModel$Poly")) (C := RX15) (T := TX15) (N := 89) hx hb hts (in_X15_init_X15) tyX15 tyX15_ok nmX15 hown hK hP hD hS 0 rfl rfl 61 (by decide) (hts (.fieldLink RX15 224 "MotionSignsModel" "one3" "[LMotionSignsModel$Poly;") (List.mem_of_getElem? (i := 65) rfl)) (fun _ h9 => h9) rfl hin rfl (tyX15_ok 61 (by decide)) rfl rfl (mF.lt hF (by decide)) dX15_init_762 ?_
  clear hP hD hS; try clear H
  intro H locs hP hD hS
  have hF1 := mF.pass hF 61 (.ref q_288) (by decide) rfl
  replace hP : va_P (dC, dI) vwCl ([(h0, .inr (15, (fs_287.set 61 (.ref q_288)))), (q_288, .inl (k_289, 3, .inr (.inr (.inr (.inr (va_up (va_up (va_up (fun _ => none) (0 : Int32).toNatClampNeg (some q_290)) (1 : Int32).toNatClampNeg (some q_296)) (2 : Int32).toNatClampNeg (some q_302))))))), (q_290, .inr (13, [.ref q_291, .ref q_292, .ref q_293, .ref q_294, .int 0])), (q_293, .inl (k_295, 128, .inl (fun _ => 0))), (q_296, .inr (13, [.ref q_297, .ref q_298, .ref q_299, .ref q_300, .int 0])), (q_299, .inl (k_301, 128, .inl (fun _ => 0))), (q_302, .inr (13, [.ref q_303, .ref q_304, .ref q_305, .ref q_306, .int 0])), (q_305, .inl (k_307, 128, .inl (fun _ => 0)))] ++ pl) H := hP
  replace hD : va_D A ([(h0, .inr (15, (fs_287.set 61 (.ref q_288)))), (q_288, .inl (k_289, 3, .inr (.inr (.inr (.inr (va_up (va_up (va_up (fun _ => none) (0 : Int32).toNatClampNeg (some q_290)) (1 : Int32).toNatClampNeg (some q_296)) (2 : Int32).toNatClampNeg (some q_302))))))), (q_290, .inr (13, [.ref q_291, .ref q_292, .ref q_293, .ref q_294, .int 0])), (q_293, .inl (k_295, 128, .inl (fun _ => 0))), (q_296, .inr (13, [.ref q_297, .ref q_298, .ref q_299, .ref q_300, .int 0])), (q_299, .inl (k_301, 128, .inl (fun _ => 0))), (q_302, .inr (13, [.ref q_303, .ref q_304, .ref q_305, .ref q_306, .int 0])), (q_305, .inl (k_307, 128, .inl (fun _ => 0)))] ++ pl) := hD
  generalize fs_287.set 61 (.ref q_288) = fs_308 at hP hD hF1
  replace hF : mF 89 [(36, .ref q_113), (33, .ref q_99), (31, .ref q_57), (30, .ref q_50), (26, .ref q_47), (20, .int (-1)), (17, .int (-1)), (14, .ref q_39), (13, .ref q_35), (0, .int 0), (18, .int 0), (19, .int 0), (21, .int 0), (22, .int 0), (23, .int 0), (24, .int 0), (25, .int 0), (27, .int 0), (28, .int 0), (29, .int 0), (35, .int 0)] fs_308 := hF1
  clear hF1
  replace hP : va_P (dC, dI) vwCl ([(h0, .inr (15, fs_308)), (q_288, .inl (k_289, 3, .inr (.inr (.inr (.inr (va_up (va_up (va_up (fun _ => none) (0 : Int32).toNatClampNeg (some q_290)) (1 : Int32).toNatClampNeg (some q_296)) (2 : Int32).toNatClampNeg (some q_302))))))), (q_290, .inr (13, [.ref q_291, .ref q_292, .ref q_293, .ref q_294, .int 0])), (q_293, .inl (k_295, 128, .inl (fun _ => 0))), (q_296, .inr (13, [.ref q_297, .ref q_298, .ref q_299, .ref q_300, .int 0])), (q_299, .inl (k_301, 128, .inl (fun _ => 0))), (q_302, .inr (13, [.ref q_303, .ref q_304, .ref q_305, .ref q_306, .int 0])), (q_305, .inl (k_307, 128, .inl (fun _ => 0)))] ++ pl) H := hP
  replace hD : va_D A ([(h0, .inr (15, fs_308)), (q_288, .inl (k_289, 3, .inr (.inr (.inr (.inr (va_up (va_up (va_up (fun _ => none) (0 : Int32).toNatClampNeg (some q_290)) (1 : Int32).toNatClampNeg (some q_296)) (2 : Int32).toNatClampNeg (some q_302))))))), (q_290, .inr (13, [.ref q_291, .ref q_292, .ref q_293, .ref q_294, .int 0])), (q_293, .inl (k_295, 128, .inl (fun _ => 0))), (q_296, .inr (13, [.ref q_297, .ref q_298, .ref q_299, .ref q_300, .int 0])), (q_299, .inl (k_301, 128, .inl (fun _ => 0))), (q_302, .inr (13, [.ref q_303, .ref q_304, .ref q_305, .ref q_306, .int 0])), (q_305, .inl (k_307, 128, .inl (fun _ => 0)))] ++ pl) := hD
  replace hP := wm_subP (X' := [(h0, .inr (15, fs_308))]) hP [0] rfl
  replace hD := wm_subD (X' := [(h0, .inr (15, fs_308))]) hD [0] (by decide) rfl
  replace hK := hK.sub (tys' := []) [] rfl
  exact kont fs_308 H locs ls hP hD hK hS hl hF
set_option maxHeartbeats 40000000 in
set_option maxRecDepth 100000 in
/-- the reference: MotionSignsModel(), rows 765 to 873 -/
theorem c_X15_init_s9 {p : Program} {l : Launch} {e : Env} {s : State} {m : MethodId} {below : List Frame} {meth : Method} {c : Code} {A : Nat → Prop} {Q0 : State → Prop} {dC : Nat → ClassId} {dI : Nat → Nat → Nat} {h0 : Nat} {fs_308 : List Value} {q_113 : Nat} {q_99 : Nat} {q_57 : Nat} {q_50 : Nat} {q_47 : Nat} {q_39 : Nat} {q_35 : Nat} (hx : p.tables.exec = Jvm.exec) (hb : c.code = cX15_init) (hml : c.maxLocals = 3) (hts : ∀ w ∈ wsM15, w.before ([.ref h0] : List Value).toArray s = true) (hown : s.vm.findClass RX15 = some m.cls) (hin : meth.name = "<init>") (hA : ∀ q : Nat, s.heap.size ≤ q → A q) (hN : w_N s) (pl : va_W) {H : Heap} {locs : List Loc} {ls : Array Slot} (hP : va_P (dC, dI) vwCl ([(h0, .inr (15, fs_308))] ++ pl) H) (hD : va_D A ([(h0, .inr (15, fs_308))] ++ pl)) (hK : va_K (dC, dI) vwCl [] s) (hS : va_S A s.heap H locs) (hl : lv_has ls 3 [(0, .ref h0)]) (hF : mF 89 [(36, .ref q_113), (33, .ref q_99), (31, .ref q_57), (30, .ref q_50), (26, .ref q_47), (20, .int (-1)), (17, .int (-1)), (14, .ref q_39), (13, .ref q_35), (0, .int 0), (18, .int 0), (19, .int 0), (21, .int 0), (22, .int 0), (23, .int 0), (24, .int 0), (25, .int 0), (27, .int 0), (28, .int 0), (29, .int 0), (35, .int 0)] fs_308) (kont : ∀ (fs_357 : List Value) (H : Heap) (locs : List Loc) (ls : Array Slot), va_P (dC, dI) vwCl ([(h0, .inr (15, fs_357))] ++ pl) H → va_D A ([(h0, .inr (15, fs_357))] ++ pl) → va_K (dC, dI) vwCl [] s → va_S A s.heap H locs → lv_has ls 3 [(0, .ref h0)] → mF 89 [(36, .ref q_113), (33, .ref q_99), (31, .ref q_57), (30, .ref q_50), (26, .ref q_47), (20, .int (-1)), (17, .int (-1)), (14, .ref q_39), (13, .ref q_35), (0, .int 0), (18, .int 0), (19, .int 0), (21, .int 0), (22, .int 0), (23, .int 0), (24, .int 0), (25, .int 0), (27, .int 0), (28, .int 0), (29, .int 0), (35, .int 0)] fs_357 → W p l e ({ frames := 3, cells := 7193, slots := 3261971, locals := 56 } : Room) s m ([.ref h0] : List Value).toArray below meth c H locs 3971 2890571 Q0 (F0 m 873 ls [])) : W p l e ({ frames := 3, cells := 7193, slots := 3261971, locals := 56 } : Room) s m ([.ref h0] : List Value).toArray below meth c H locs 3934 2818850 Q0 (F0 m 765 ls []) := by
  refine lv_aload_n hx hb dX15_init_765 rfl (lv_at hl 0 rfl) ?_
  refine lv_iconst (v := 3) hx hb dX15_init_766 (by decide) ?_
  refine va_newq (C := RX13) (N' := 3) hx hb hown (hts (.classLink RX15 127 RX13) (List.mem_of_getElem? (i := 29) rfl)) (hN.2.2.1 RX13 (List.mem_of_getElem? (i := 5) rfl)) hK hP hD hS hA (by decide) (by decide) (Nat.le_of_ble_eq_true rfl) (Nat.le_of_ble_eq_true rfl) (Nat.le_of_ble_eq_true rfl) dX15_init_767 ?_
  clear hP hD hS hK; try clear H
  intro q_309 k_310 H hK hP hD hS
  replace hP := va_P.swap hP; replace hD := va_D.swap hD
  replace hP : va_P (dC, dI) vwCl ([(h0, .inr (15, fs_308)), (q_309, .inl (k_310, 3, .inr (.inr (.inr (.inr (fun _ => none))))))] ++ pl) H := hP
  replace hD : va_D A ([(h0, .inr (15, fs_308)), (q_309, .inl (k_310, 3, .inr (.inr (.inr (.inr (fun _ => none))))))] ++ pl) := hD
  replace hK : va_K (dC, dI) vwCl [(k_310, .object RX13)] s := hK
  refine lv_dup hx hb dX15_init_770 rfl ?_
  refine lv_iconst (v := 0) hx hb dX15_init_771 (by decide) ?_
  refine va_new (ci := 13) (fs := [.null, .null, .null, .null, .int 0]) (C := RX13) (T := TX13) (N := 5) hx hb hts (in_X15_init_X13) tyX13 tyX13_ok hown (hts (.classLink RX15 127 RX13) (List.mem_of_getElem? (i := 29) rfl)) (hts (.instantiable RX13 5) (List.mem_of_getElem? (i := 30) rfl)) (hts (.initialized RX13) (List.mem_of_getElem? (i := 31) rfl)) hK hP hD hS hA rfl (fun j hj => by rcases (show j = 0 ∨ j = 1 ∨ j = 2 ∨ j = 3 ∨ j = 4 by omega) with rfl | rfl | rfl | rfl | rfl <;> rfl) (Nat.le_of_ble_eq_true rfl) (Nat.le_of_ble_eq_true rfl) dX15_init_772 ?_
  clear hP hD hS; try clear H
  intro q_311 H hP hD hS
  replace hP := va_P.swap hP; replace hD := va_D.swap hD
  replace hP : va_P (dC, dI) vwCl ([(h0, .inr (15, fs_308)), (q_309, .inl (k_310, 3, .inr (.inr (.inr (.inr (fun _ => none)))))), (q_311, .inr (13, [.null, .null, .null, .null, .int 0]))] ++ pl) H := hP
  replace hD : va_D A ([(h0, .inr (15, fs_308)), (q_309, .inl (k_310, 3, .inr (.inr (.inr (.inr (fun _ => none)))))), (q_311, .inr (13, [.null, .null, .null, .null, .int 0]))] ++ pl) := hD
  refine lv_dup hx hb dX15_init_775 rfl ?_
  refine lv_sipush (v := 2048) hx hb dX15_init_776 (by decide) ?_
  have hPc := hP.sub (ws' := [(q_311, .inr (13, [.null, .null, .null, .null, .int 0]))]) [2] rfl
  have hDc := hD.sub (ws' := [(q_311, .inr (13, [.null, .null, .null, .null, .int 0]))]) [2] (by decide) rfl
  have hKc := hK.sub (tys' := []) [] rfl
  have hFc := va_free (wc := [(q_311, .inr (13, [.null, .null, .null, .null, .int 0]))]) hD hS hA [2] rfl
  refine va_callv (va_runIN (As := [.int 2048]) (rest := [.ref q_311, .int 0, .ref q_309, .ref q_309, .ref h0]) ⟨hx, hb, hml, hown, hts⟩ (c_X13_init_2048 l dC dI q_311 H.size) ⟨va_cnB 1 hts gM15_X13 rfl rfl rfl (hN.1 (RX15, 129, yX13_init, RX15) (List.mem_of_getElem? (i := 28) rfl)) (hts (.initialized RX13) (List.mem_of_getElem? (i := 31) rfl)) hd_X13_init ⟨Nat.le_of_ble_eq_true rfl, Nat.le_of_ble_eq_true rfl⟩, rfl, (hts (.instanceMethod yX13_init) (List.mem_of_getElem? (i := 100) rfl))⟩ ⟨fun a U g mk q => by obtain ⟨q0, q1, qP, qK, qD, qE0⟩ := q; exact ⟨q0, q1, qP, va_K.moved (u := U) (U := U.calling g mk a) (Vm.Alike.refl U.vm) qK, qD, w_N.same rfl qE0⟩, fun U hU hW => ⟨rfl, by rw [hU], by rw [hU]; exact hPc, va_K.moved hW.alike hKc, hDc.weaken (fun _ _ _ _ => trivial), w_N.warm hW hN⟩⟩ rfl rfl hl.1 rfl (lv_room (Nat.le_of_ble_eq_true rfl)) dX15_init_779 ⟨(Nat.le_of_ble_eq_true rfl), (Nat.le_of_ble_eq_true rfl)⟩) hS (fun q _ h => hFc q h) hFc (fun u t H1 locs1 ht hvm hw hB hz1 hk1 hS1 => ?_)
  obtain ⟨q_312, q_313, q_314, q_315, k_316, hP1, hK1, hD1⟩ := hB
  rw [ht] at hP1
  have hK1 := va_K.moved hvm.symm hK1
  have hJ := va_joinQ (wr := [(h0, .inr (15, fs_308)), (q_309, .inl (k_310, 3, .inr (.inr (.inr (.inr (fun _ => none))))))]) (w1 := [(q_311, .inr (13, [.ref q_312, .ref q_313, .ref q_314, .ref q_315, .int 0])), (q_314, .inl (k_316, 4096, .inl (fun _ => 0)))]) hP hD [2] [0, 1] rfl rfl (by decide) (by decide) hk1 hFc hP1 hD1
  clear hP hD hPc hDc hKc hFc hz1 hw; try clear hk1
  obtain ⟨hP, hD⟩ := hJ
  replace hK := (hK.sub (tys' := [(k_310, .object RX13)]) [0] rfl).app (hK1.sub (tys' := [(k_316, .int)]) [0] rfl)
  clear hP1 hK1 hD1 hvm ht hS; try clear t
  try clear H
  revert hS1
  intro hS
  generalize H1 = H at hP hS ⊢; try clear H1
  replace hP : va_P (dC, dI) vwCl ([(h0, .inr (15, fs_308)), (q_309, .inl (k_310, 3, .inr (.inr (.inr (.inr (fun _ => none)))))), (q_311, .inr (13, [.ref q_312, .ref q_313, .ref q_314, .ref q_315, .int 0])), (q_314, .inl (k_316, 4096, .inl (fun _ => 0)))] ++ pl) H := hP
  replace hD : va_D A ([(h0, .inr (15, fs_308)), (q_309, .inl (k_310, 3, .inr (.inr (.inr (.inr (fun _ => none)))))), (q_311, .inr (13, [.ref q_312, .ref q_313, .ref q_314, .ref q_315, .int 0])), (q_314, .inl (k_316, 4096, .inl (fun _ => 0)))] ++ pl) := hD
  replace hK : va_K (dC, dI) vwCl [(k_310, .object RX13), (k_316, .int)] s := hK
  refine va_astq hx hb hK hP hD hS 1 0 2 13 rfl rfl rfl rfl (by exact fun h => by rcases h with h | h <;> revert h <;> decide) dX15_init_782 ?_
  clear hP hD hS; try clear H
  intro H locs hP hD hS
  replace hP : va_P (dC, dI) vwCl ([(h0, .inr (15, fs_308)), (q_309, .inl (k_310, 3, .inr (.inr (.inr (.inr (va_up (fun _ => none) (0 : Int32).toNatClampNeg (some q_311))))))), (q_311, .inr (13, [.ref q_312, .ref q_313, .ref q_314, .ref q_315, .int 0])), (q_314, .inl (k_316, 4096, .inl (fun _ => 0)))] ++ pl) H := hP
  replace hD : va_D A ([(h0, .inr (15, fs_308)), (q_309, .inl (k_310, 3, .inr (.inr (.inr (.inr (va_up (fun _ => none) (0 : Int32).toNatClampNeg (some q_311))))))), (q_311, .inr (13, [.ref q_312, .ref q_313, .ref q_314, .ref q_315, .int 0])), (q_314, .inl (k_316, 4096, .inl (fun _ => 0)))] ++ pl) := hD
  refine lv_dup hx hb dX15_init_783 rfl ?_
  refine lv_iconst (v := 1) hx hb dX15_init_784 (by decide) ?_
  refine va_new (ci := 13) (fs := [.null, .null, .null, .null, .int 0]) (C := RX13) (T := TX13) (N := 5) hx hb hts (in_X15_init_X13) tyX13 tyX13_ok hown (hts (.classLink RX15 127 RX13) (List.mem_of_getElem? (i := 29) rfl)) (hts (.instantiable RX13 5) (List.mem_of_getElem? (i := 30) rfl)) (hts (.initialized RX13) (List.mem_of_getElem? (i := 31) rfl)) hK hP hD hS hA rfl (fun j hj => by rcases (show j = 0 ∨ j = 1 ∨ j = 2 ∨ j = 3 ∨ j = 4 by omega) with rfl | rfl | rfl | rfl | rfl <;> rfl) (Nat.le_of_ble_eq_true rfl) (Nat.le_of_ble_eq_true rfl) dX15_init_785 ?_
  clear hP hD hS; try clear H
  intro q_317 H hP hD hS
  replace hP := va_P.swap hP; replace hD := va_D.swap hD
  replace hP : va_P (dC, dI) vwCl ([(h0, .inr (15, fs_308)), (q_309, .inl (k_310, 3, .inr (.inr (.inr (.inr (va_up (fun _ => none) (0 : Int32).toNatClampNeg (some q_311))))))), (q_311, .inr (13, [.ref q_312, .ref q_313, .ref q_314, .ref q_315, .int 0])), (q_314, .inl (k_316, 4096, .inl (fun _ => 0))), (q_317, .inr (13, [.null, .null, .null, .null, .int 0]))] ++ pl) H := hP
  replace hD : va_D A ([(h0, .inr (15, fs_308)), (q_309, .inl (k_310, 3, .inr (.inr (.inr (.inr (va_up (fun _ => none) (0 : Int32).toNatClampNeg (some q_311))))))), (q_311, .inr (13, [.ref q_312, .ref q_313, .ref q_314, .ref q_315, .int 0])), (q_314, .inl (k_316, 4096, .inl (fun _ => 0))), (q_317, .inr (13, [.null, .null, .null, .null, .int 0]))] ++ pl) := hD
  refine lv_dup hx hb dX15_init_788 rfl ?_
  refine lv_sipush (v := 2048) hx hb dX15_init_789 (by decide) ?_
  have hPc := hP.sub (ws' := [(q_317, .inr (13, [.null, .null, .null, .null, .int 0]))]) [4] rfl
  have hDc := hD.sub (ws' := [(q_317, .inr (13, [.null, .null, .null, .null, .int 0]))]) [4] (by decide) rfl
  have hKc := hK.sub (tys' := []) [] rfl
  have hFc := va_free (wc := [(q_317, .inr (13, [.null, .null, .null, .null, .int 0]))]) hD hS hA [4] rfl
  refine va_callv (va_runIN (As := [.int 2048]) (rest := [.ref q_317, .int 1, .ref q_309, .ref q_309, .ref h0]) ⟨hx, hb, hml, hown, hts⟩ (c_X13_init_2048 l dC dI q_317 H.size) ⟨va_cnB 1 hts gM15_X13 rfl rfl rfl (hN.1 (RX15, 129, yX13_init, RX15) (List.mem_of_getElem? (i := 28) rfl)) (hts (.initialized RX13) (List.mem_of_getElem? (i := 31) rfl)) hd_X13_init ⟨Nat.le_of_ble_eq_true rfl, Nat.le_of_ble_eq_true rfl⟩, rfl, (hts (.instanceMethod yX13_init) (List.mem_of_getElem? (i := 100) rfl))⟩ ⟨fun a U g mk q => by obtain ⟨q0, q1, qP, qK, qD, qE0⟩ := q; exact ⟨q0, q1, qP, va_K.moved (u := U) (U := U.calling g mk a) (Vm.Alike.refl U.vm) qK, qD, w_N.same rfl qE0⟩, fun U hU hW => ⟨rfl, by rw [hU], by rw [hU]; exact hPc, va_K.moved hW.alike hKc, hDc.weaken (fun _ _ _ _ => trivial), w_N.warm hW hN⟩⟩ rfl rfl hl.1 rfl (lv_room (Nat.le_of_ble_eq_true rfl)) dX15_init_792 ⟨(Nat.le_of_ble_eq_true rfl), (Nat.le_of_ble_eq_true rfl)⟩) hS (fun q _ h => hFc q h) hFc (fun u t H1 locs1 ht hvm hw hB hz1 hk1 hS1 => ?_)
  obtain ⟨q_318, q_319, q_320, q_321, k_322, hP1, hK1, hD1⟩ := hB
  rw [ht] at hP1
  have hK1 := va_K.moved hvm.symm hK1
  have hJ := va_joinQ (wr := [(h0, .inr (15, fs_308)), (q_309, .inl (k_310, 3, .inr (.inr (.inr (.inr (va_up (fun _ => none) (0 : Int32).toNatClampNeg (some q_311))))))), (q_311, .inr (13, [.ref q_312, .ref q_313, .ref q_314, .ref q_315, .int 0])), (q_314, .inl (k_316, 4096, .inl (fun _ => 0)))]) (w1 := [(q_317, .inr (13, [.ref q_318, .ref q_319, .ref q_320, .ref q_321, .int 0])), (q_320, .inl (k_322, 4096, .inl (fun _ => 0)))]) hP hD [4] [0, 1, 2, 3] rfl rfl (by decide) (by decide) hk1 hFc hP1 hD1
  clear hP hD hPc hDc hKc hFc hz1 hw; try clear hk1
  obtain ⟨hP, hD⟩ := hJ
  replace hK := (hK.sub (tys' := [(k_310, .object RX13), (k_316, .int)]) [0, 1] rfl).app (hK1.sub (tys' := [(k_322, .int)]) [0] rfl)
  clear hP1 hK1 hD1 hvm ht hS; try clear t
  try clear H
  revert hS1
  intro hS
  generalize H1 = H at hP hS ⊢; try clear H1
  replace hP : va_P (dC, dI) vwCl ([(h0, .inr (15, fs_308)), (q_309, .inl (k_310, 3, .inr (.inr (.inr (.inr (va_up (fun _ => none) (0 : Int32).toNatClampNeg (some q_311))))))), (q_311, .inr (13, [.ref q_312, .ref q_313, .ref q_314, .ref q_315, .int 0])), (q_314, .inl (k_316, 4096, .inl (fun _ => 0))), (q_317, .inr (13, [.ref q_318, .ref q_319, .ref q_320, .ref q_321, .int 0])), (q_320, .inl (k_322, 4096, .inl (fun _ => 0)))] ++ pl) H := hP
  replace hD : va_D A ([(h0, .inr (15, fs_308)), (q_309, .inl (k_310, 3, .inr (.inr (.inr (.inr (va_up (fun _ => none) (0 : Int32).toNatClampNeg (some q_311))))))), (q_311, .inr (13, [.ref q_312, .ref q_313, .ref q_314, .ref q_315, .int 0])), (q_314, .inl (k_316, 4096, .inl (fun _ => 0))), (q_317, .inr (13, [.ref q_318, .ref q_319, .ref q_320, .ref q_321, .int 0])), (q_320, .inl (k_322, 4096, .inl (fun _ => 0)))] ++ pl) := hD
  replace hK : va_K (dC, dI) vwCl [(k_310, .object RX13), (k_316, .int), (k_322, .int)] s := hK
  refine va_astq hx hb hK hP hD hS 1 0 4 13 rfl rfl rfl rfl (by exact fun h => by rcases h with h | h <;> revert h <;> decide) dX15_init_795 ?_
  clear hP hD hS; try clear H
  intro H locs hP hD hS
  replace hP : va_P (dC, dI) vwCl ([(h0, .inr (15, fs_308)), (q_309, .inl (k_310, 3, .inr (.inr (.inr (.inr (va_up (va_up (fun _ => none) (0 : Int32).toNatClampNeg (some q_311)) (1 : Int32).toNatClampNeg (some q_317))))))), (q_311, .inr (13, [.ref q_312, .ref q_313, .ref q_314, .ref q_315, .int 0])), (q_314, .inl (k_316, 4096, .inl (fun _ => 0))), (q_317, .inr (13, [.ref q_318, .ref q_319, .ref q_320, .ref q_321, .int 0])), (q_320, .inl (k_322, 4096, .inl (fun _ => 0)))] ++ pl) H := hP
  replace hD : va_D A ([(h0, .inr (15, fs_308)), (q_309, .inl (k_310, 3, .inr (.inr (.inr (.inr (va_up (va_up (fun _ => none) (0 : Int32).toNatClampNeg (some q_311)) (1 : Int32).toNatClampNeg (some q_317))))))), (q_311, .inr (13, [.ref q_312, .ref q_313, .ref q_314, .ref q_315, .int 0])), (q_314, .inl (k_316, 4096, .inl (fun _ => 0))), (q_317, .inr (13, [.ref q_318, .ref q_319, .ref q_320, .ref q_321, .int 0])), (q_320, .inl (k_322, 4096, .inl (fun _ => 0)))] ++ pl) := hD
  refine lv_dup hx hb dX15_init_796 rfl ?_
  refine lv_iconst (v := 2) hx hb dX15_init_797 (by decide) ?_
  refine va_new (ci := 13) (fs := [.null, .null, .null, .null, .int 0]) (C := RX13) (T := TX13) (N := 5) hx hb hts (in_X15_init_X13) tyX13 tyX13_ok hown (hts (.classLink RX15 127 RX13) (List.mem_of_getElem? (i := 29) rfl)) (hts (.instantiable RX13 5) (List.mem_of_getElem? (i := 30) rfl)) (hts (.initialized RX13) (List.mem_of_getElem? (i := 31) rfl)) hK hP hD hS hA rfl (fun j hj => by rcases (show j = 0 ∨ j = 1 ∨ j = 2 ∨ j = 3 ∨ j = 4 by omega) with rfl | rfl | rfl | rfl | rfl <;> rfl) (Nat.le_of_ble_eq_true rfl) (Nat.le_of_ble_eq_true rfl) dX15_init_798 ?_
  clear hP hD hS; try clear H
  intro q_323 H hP hD hS
  replace hP := va_P.swap hP; replace hD := va_D.swap hD
  replace hP : va_P (dC, dI) vwCl ([(h0, .inr (15, fs_308)), (q_309, .inl (k_310, 3, .inr (.inr (.inr (.inr (va_up (va_up (fun _ => none) (0 : Int32).toNatClampNeg (some q_311)) (1 : Int32).toNatClampNeg (some q_317))))))), (q_311, .inr (13, [.ref q_312, .ref q_313, .ref q_314, .ref q_315, .int 0])), (q_314, .inl (k_316, 4096, .inl (fun _ => 0))), (q_317, .inr (13, [.ref q_318, .ref q_319, .ref q_320, .ref q_321, .int 0])), (q_320, .inl (k_322, 4096, .inl (fun _ => 0))), (q_323, .inr (13, [.null, .null, .null, .null, .int 0]))] ++ pl) H := hP
  replace hD : va_D A ([(h0, .inr (15, fs_308)), (q_309, .inl (k_310, 3, .inr (.inr (.inr (.inr (va_up (va_up (fun _ => none) (0 : Int32).toNatClampNeg (some q_311)) (1 : Int32).toNatClampNeg (some q_317))))))), (q_311, .inr (13, [.ref q_312, .ref q_313, .ref q_314, .ref q_315, .int 0])), (q_314, .inl (k_316, 4096, .inl (fun _ => 0))), (q_317, .inr (13, [.ref q_318, .ref q_319, .ref q_320, .ref q_321, .int 0])), (q_320, .inl (k_322, 4096, .inl (fun _ => 0))), (q_323, .inr (13, [.null, .null, .null, .null, .int 0]))] ++ pl) := hD
  refine lv_dup hx hb dX15_init_801 rfl ?_
  refine lv_sipush (v := 2048) hx hb dX15_init_802 (by decide) ?_
  have hPc := hP.sub (ws' := [(q_323, .inr (13, [.null, .null, .null, .null, .int 0]))]) [6] rfl
  have hDc := hD.sub (ws' := [(q_323, .inr (13, [.null, .null, .null, .null, .int 0]))]) [6] (by decide) rfl
  have hKc := hK.sub (tys' := []) [] rfl
  have hFc := va_free (wc := [(q_323, .inr (13, [.null, .null, .null, .null, .int 0]))]) hD hS hA [6] rfl
  refine va_callv (va_runIN (As := [.int 2048]) (rest := [.ref q_323, .int 2, .ref q_309, .ref q_309, .ref h0]) ⟨hx, hb, hml, hown, hts⟩ (c_X13_init_2048 l dC dI q_323 H.size) ⟨va_cnB 1 hts gM15_X13 rfl rfl rfl (hN.1 (RX15, 129, yX13_init, RX15) (List.mem_of_getElem? (i := 28) rfl)) (hts (.initialized RX13) (List.mem_of_getElem? (i := 31) rfl)) hd_X13_init ⟨Nat.le_of_ble_eq_true rfl, Nat.le_of_ble_eq_true rfl⟩, rfl, (hts (.instanceMethod yX13_init) (List.mem_of_getElem? (i := 100) rfl))⟩ ⟨fun a U g mk q => by obtain ⟨q0, q1, qP, qK, qD, qE0⟩ := q; exact ⟨q0, q1, qP, va_K.moved (u := U) (U := U.calling g mk a) (Vm.Alike.refl U.vm) qK, qD, w_N.same rfl qE0⟩, fun U hU hW => ⟨rfl, by rw [hU], by rw [hU]; exact hPc, va_K.moved hW.alike hKc, hDc.weaken (fun _ _ _ _ => trivial), w_N.warm hW hN⟩⟩ rfl rfl hl.1 rfl (lv_room (Nat.le_of_ble_eq_true rfl)) dX15_init_805 ⟨(Nat.le_of_ble_eq_true rfl), (Nat.le_of_ble_eq_true rfl)⟩) hS (fun q _ h => hFc q h) hFc (fun u t H1 locs1 ht hvm hw hB hz1 hk1 hS1 => ?_)
  obtain ⟨q_324, q_325, q_326, q_327, k_328, hP1, hK1, hD1⟩ := hB
  rw [ht] at hP1
  have hK1 := va_K.moved hvm.symm hK1
  have hJ := va_joinQ (wr := [(h0, .inr (15, fs_308)), (q_309, .inl (k_310, 3, .inr (.inr (.inr (.inr (va_up (va_up (fun _ => none) (0 : Int32).toNatClampNeg (some q_311)) (1 : Int32).toNatClampNeg (some q_317))))))), (q_311, .inr (13, [.ref q_312, .ref q_313, .ref q_314, .ref q_315, .int 0])), (q_314, .inl (k_316, 4096, .inl (fun _ => 0))), (q_317, .inr (13, [.ref q_318, .ref q_319, .ref q_320, .ref q_321, .int 0])), (q_320, .inl (k_322, 4096, .inl (fun _ => 0)))]) (w1 := [(q_323, .inr (13, [.ref q_324, .ref q_325, .ref q_326, .ref q_327, .int 0])), (q_326, .inl (k_328, 4096, .inl (fun _ => 0)))]) hP hD [6] [0, 1, 2, 3, 4, 5] rfl rfl (by decide) (by decide) hk1 hFc hP1 hD1
  clear hP hD hPc hDc hKc hFc hz1 hw; try clear hk1
  obtain ⟨hP, hD⟩ := hJ
  replace hK := (hK.sub (tys' := [(k_310, .object RX13), (k_316, .int), (k_322, .int)]) [0, 1, 2] rfl).app (hK1.sub (tys' := [(k_328, .int)]) [0] rfl)
  clear hP1 hK1 hD1 hvm ht hS; try clear t
  try clear H
  revert hS1
  intro hS
  generalize H1 = H at hP hS ⊢; try clear H1
  replace hP : va_P (dC, dI) vwCl ([(h0, .inr (15, fs_308)), (q_309, .inl (k_310, 3, .inr (.inr (.inr (.inr (va_up (va_up (fun _ => none) (0 : Int32).toNatClampNeg (some q_311)) (1 : Int32).toNatClampNeg (some q_317))))))), (q_311, .inr (13, [.ref q_312, .ref q_313, .ref q_314, .ref q_315, .int 0])), (q_314, .inl (k_316, 4096, .inl (fun _ => 0))), (q_317, .inr (13, [.ref q_318, .ref q_319, .ref q_320, .ref q_321, .int 0])), (q_320, .inl (k_322, 4096, .inl (fun _ => 0))), (q_323, .inr (13, [.ref q_324, .ref q_325, .ref q_326, .ref q_327, .int 0])), (q_326, .inl (k_328, 4096, .inl (fun _ => 0)))] ++ pl) H := hP
  replace hD : va_D A ([(h0, .inr (15, fs_308)), (q_309, .inl (k_310, 3, .inr (.inr (.inr (.inr (va_up (va_up (fun _ => none) (0 : Int32).toNatClampNeg (some q_311)) (1 : Int32).toNatClampNeg (some q_317))))))), (q_311, .inr (13, [.ref q_312, .ref q_313, .ref q_314, .ref q_315, .int 0])), (q_314, .inl (k_316, 4096, .inl (fun _ => 0))), (q_317, .inr (13, [.ref q_318, .ref q_319, .ref q_320, .ref q_321, .int 0])), (q_320, .inl (k_322, 4096, .inl (fun _ => 0))), (q_323, .inr (13, [.ref q_324, .ref q_325, .ref q_326, .ref q_327, .int 0])), (q_326, .inl (k_328, 4096, .inl (fun _ => 0)))] ++ pl) := hD
  replace hK : va_K (dC, dI) vwCl [(k_310, .object RX13), (k_316, .int), (k_322, .int), (k_328, .int)] s := hK
  refine va_astq hx hb hK hP hD hS 1 0 6 13 rfl rfl rfl rfl (by exact fun h => by rcases h with h | h <;> revert h <;> decide) dX15_init_808 ?_
  clear hP hD hS; try clear H
  intro H locs hP hD hS
  replace hP : va_P (dC, dI) vwCl ([(h0, .inr (15, fs_308)), (q_309, .inl (k_310, 3, .inr (.inr (.inr (.inr (va_up (va_up (va_up (fun _ => none) (0 : Int32).toNatClampNeg (some q_311)) (1 : Int32).toNatClampNeg (some q_317)) (2 : Int32).toNatClampNeg (some q_323))))))), (q_311, .inr (13, [.ref q_312, .ref q_313, .ref q_314, .ref q_315, .int 0])), (q_314, .inl (k_316, 4096, .inl (fun _ => 0))), (q_317, .inr (13, [.ref q_318, .ref q_319, .ref q_320, .ref q_321, .int 0])), (q_320, .inl (k_322, 4096, .inl (fun _ => 0))), (q_323, .inr (13, [.ref q_324, .ref q_325, .ref q_326, .ref q_327, .int 0])), (q_326, .inl (k_328, 4096, .inl (fun _ => 0)))] ++ pl) H := hP
  replace hD : va_D A ([(h0, .inr (15, fs_308)), (q_309, .inl (k_310, 3, .inr (.inr (.inr (.inr (va_up (va_up (va_up (fun _ => none) (0 : Int32).toNatClampNeg (some q_311)) (1 : Int32).toNatClampNeg (some q_317)) (2 : Int32).toNatClampNeg (some q_323))))))), (q_311, .inr (13, [.ref q_312, .ref q_313, .ref q_314, .ref q_315, .int 0])), (q_314, .inl (k_316, 4096, .inl (fun _ => 0))), (q_317, .inr (13, [.ref q_318, .ref q_319, .ref q_320, .ref q_321, .int 0])), (q_320, .inl (k_322, 4096, .inl (fun _ => 0))), (q_323, .inr (13, [.ref q_324, .ref q_325, .ref q_326, .ref q_327, .int 0])), (q_326, .inl (k_328, 4096, .inl (fun _ => 0)))] ++ pl) := hD
  refine va_putF (D := (dC, dI)) (ci := 15) (v := .ref q_309) (ty := .array (.object "MotionSignsModel$Poly")) (C := RX15) (T := TX15) (N := 89) hx hb hts (in_X15_init_X15) tyX15 tyX15_ok nmX15 hown hK hP hD hS 0 rfl rfl 62 (by decide) (hts (.fieldLink RX15 227 "MotionSignsModel" "other3" "[LMotionSignsModel$Poly;") (List.mem_of_getElem? (i := 66) rfl)) (fun _ h9 => h9) rfl hin rfl (tyX15_ok 62 (by decide)) rfl rfl (mF.lt hF (by decide)) dX15_init_809 ?_
  clear hP hD hS; try clear H
  intro H locs hP hD hS
  have hF1 := mF.pass hF 62 (.ref q_309) (by decide) rfl
  replace hP : va_P (dC, dI) vwCl ([(h0, .inr (15, (fs_308.set 62 (.ref q_309)))), (q_309, .inl (k_310, 3, .inr (.inr (.inr (.inr (va_up (va_up (va_up (fun _ => none) (0 : Int32).toNatClampNeg (some q_311)) (1 : Int32).toNatClampNeg (some q_317)) (2 : Int32).toNatClampNeg (some q_323))))))), (q_311, .inr (13, [.ref q_312, .ref q_313, .ref q_314, .ref q_315, .int 0])), (q_314, .inl (k_316, 4096, .inl (fun _ => 0))), (q_317, .inr (13, [.ref q_318, .ref q_319, .ref q_320, .ref q_321, .int 0])), (q_320, .inl (k_322, 4096, .inl (fun _ => 0))), (q_323, .inr (13, [.ref q_324, .ref q_325, .ref q_326, .ref q_327, .int 0])), (q_326, .inl (k_328, 4096, .inl (fun _ => 0)))] ++ pl) H := hP
  replace hD : va_D A ([(h0, .inr (15, (fs_308.set 62 (.ref q_309)))), (q_309, .inl (k_310, 3, .inr (.inr (.inr (.inr (va_up (va_up (va_up (fun _ => none) (0 : Int32).toNatClampNeg (some q_311)) (1 : Int32).toNatClampNeg (some q_317)) (2 : Int32).toNatClampNeg (some q_323))))))), (q_311, .inr (13, [.ref q_312, .ref q_313, .ref q_314, .ref q_315, .int 0])), (q_314, .inl (k_316, 4096, .inl (fun _ => 0))), (q_317, .inr (13, [.ref q_318, .ref q_319, .ref q_320, .ref q_321, .int 0])), (q_320, .inl (k_322, 4096, .inl (fun _ => 0))), (q_323, .inr (13, [.ref q_324, .ref q_325, .ref q_326, .ref q_327, .int 0])), (q_326, .inl (k_328, 4096, .inl (fun _ => 0)))] ++ pl) := hD
  generalize fs_308.set 62 (.ref q_309) = fs_329 at hP hD hF1
  replace hF : mF 89 [(36, .ref q_113), (33, .ref q_99), (31, .ref q_57), (30, .ref q_50), (26, .ref q_47), (20, .int (-1)), (17, .int (-1)), (14, .ref q_39), (13, .ref q_35), (0, .int 0), (18, .int 0), (19, .int 0), (21, .int 0), (22, .int 0), (23, .int 0), (24, .int 0), (25, .int 0), (27, .int 0), (28, .int 0), (29, .int 0), (35, .int 0)] fs_329 := hF1
  clear hF1
  replace hP : va_P (dC, dI) vwCl ([(h0, .inr (15, fs_329)), (q_309, .inl (k_310, 3, .inr (.inr (.inr (.inr (va_up (va_up (va_up (fun _ => none) (0 : Int32).toNatClampNeg (some q_311)) (1 : Int32).toNatClampNeg (some q_317)) (2 : Int32).toNatClampNeg (some q_323))))))), (q_311, .inr (13, [.ref q_312, .ref q_313, .ref q_314, .ref q_315, .int 0])), (q_314, .inl (k_316, 4096, .inl (fun _ => 0))), (q_317, .inr (13, [.ref q_318, .ref q_319, .ref q_320, .ref q_321, .int 0])), (q_320, .inl (k_322, 4096, .inl (fun _ => 0))), (q_323, .inr (13, [.ref q_324, .ref q_325, .ref q_326, .ref q_327, .int 0])), (q_326, .inl (k_328, 4096, .inl (fun _ => 0)))] ++ pl) H := hP
  replace hD : va_D A ([(h0, .inr (15, fs_329)), (q_309, .inl (k_310, 3, .inr (.inr (.inr (.inr (va_up (va_up (va_up (fun _ => none) (0 : Int32).toNatClampNeg (some q_311)) (1 : Int32).toNatClampNeg (some q_317)) (2 : Int32).toNatClampNeg (some q_323))))))), (q_311, .inr (13, [.ref q_312, .ref q_313, .ref q_314, .ref q_315, .int 0])), (q_314, .inl (k_316, 4096, .inl (fun _ => 0))), (q_317, .inr (13, [.ref q_318, .ref q_319, .ref q_320, .ref q_321, .int 0])), (q_320, .inl (k_322, 4096, .inl (fun _ => 0))), (q_323, .inr (13, [.ref q_324, .ref q_325, .ref q_326, .ref q_327, .int 0])), (q_326, .inl (k_328, 4096, .inl (fun _ => 0)))] ++ pl) := hD
  replace hP := wm_subP (X' := [(h0, .inr (15, fs_329))]) hP [0] rfl
  replace hD := wm_subD (X' := [(h0, .inr (15, fs_329))]) hD [0] (by decide) rfl
  replace hK := hK.sub (tys' := []) [] rfl
  refine lv_aload_n hx hb dX15_init_812 rfl (lv_at hl 0 rfl) ?_
  refine lv_iconst (v := 3) hx hb dX15_init_813 (by decide) ?_
  refine va_newq (C := RX13) (N' := 3) hx hb hown (hts (.classLink RX15 127 RX13) (List.mem_of_getElem? (i := 29) rfl)) (hN.2.2.1 RX13 (List.mem_of_getElem? (i := 5) rfl)) hK hP hD hS hA (by decide) (by decide) (Nat.le_of_ble_eq_true rfl) (Nat.le_of_ble_eq_true rfl) (Nat.le_of_ble_eq_true rfl) dX15_init_814 ?_
  clear hP hD hS hK; try clear H
  intro q_330 k_331 H hK hP hD hS
  replace hP := va_P.swap hP; replace hD := va_D.swap hD
  replace hP : va_P (dC, dI) vwCl ([(h0, .inr (15, fs_329)), (q_330, .inl (k_331, 3, .inr (.inr (.inr (.inr (fun _ => none))))))] ++ pl) H := hP
  replace hD : va_D A ([(h0, .inr (15, fs_329)), (q_330, .inl (k_331, 3, .inr (.inr (.inr (.inr (fun _ => none))))))] ++ pl) := hD
  replace hK : va_K (dC, dI) vwCl [(k_331, .object RX13)] s := hK
  refine lv_dup hx hb dX15_init_817 rfl ?_
  refine lv_iconst (v := 0) hx hb dX15_init_818 (by decide) ?_
  refine va_new (ci := 13) (fs := [.null, .null, .null, .null, .int 0]) (C := RX13) (T := TX13) (N := 5) hx hb hts (in_X15_init_X13) tyX13 tyX13_ok hown (hts (.classLink RX15 127 RX13) (List.mem_of_getElem? (i := 29) rfl)) (hts (.instantiable RX13 5) (List.mem_of_getElem? (i := 30) rfl)) (hts (.initialized RX13) (List.mem_of_getElem? (i := 31) rfl)) hK hP hD hS hA rfl (fun j hj => by rcases (show j = 0 ∨ j = 1 ∨ j = 2 ∨ j = 3 ∨ j = 4 by omega) with rfl | rfl | rfl | rfl | rfl <;> rfl) (Nat.le_of_ble_eq_true rfl) (Nat.le_of_ble_eq_true rfl) dX15_init_819 ?_
  clear hP hD hS; try clear H
  intro q_332 H hP hD hS
  replace hP := va_P.swap hP; replace hD := va_D.swap hD
  replace hP : va_P (dC, dI) vwCl ([(h0, .inr (15, fs_329)), (q_330, .inl (k_331, 3, .inr (.inr (.inr (.inr (fun _ => none)))))), (q_332, .inr (13, [.null, .null, .null, .null, .int 0]))] ++ pl) H := hP
  replace hD : va_D A ([(h0, .inr (15, fs_329)), (q_330, .inl (k_331, 3, .inr (.inr (.inr (.inr (fun _ => none)))))), (q_332, .inr (13, [.null, .null, .null, .null, .int 0]))] ++ pl) := hD
  refine lv_dup hx hb dX15_init_822 rfl ?_
  refine lv_sipush (v := 2048) hx hb dX15_init_823 (by decide) ?_
  have hPc := hP.sub (ws' := [(q_332, .inr (13, [.null, .null, .null, .null, .int 0]))]) [2] rfl
  have hDc := hD.sub (ws' := [(q_332, .inr (13, [.null, .null, .null, .null, .int 0]))]) [2] (by decide) rfl
  have hKc := hK.sub (tys' := []) [] rfl
  have hFc := va_free (wc := [(q_332, .inr (13, [.null, .null, .null, .null, .int 0]))]) hD hS hA [2] rfl
  refine va_callv (va_runIN (As := [.int 2048]) (rest := [.ref q_332, .int 0, .ref q_330, .ref q_330, .ref h0]) ⟨hx, hb, hml, hown, hts⟩ (c_X13_init_2048 l dC dI q_332 H.size) ⟨va_cnB 1 hts gM15_X13 rfl rfl rfl (hN.1 (RX15, 129, yX13_init, RX15) (List.mem_of_getElem? (i := 28) rfl)) (hts (.initialized RX13) (List.mem_of_getElem? (i := 31) rfl)) hd_X13_init ⟨Nat.le_of_ble_eq_true rfl, Nat.le_of_ble_eq_true rfl⟩, rfl, (hts (.instanceMethod yX13_init) (List.mem_of_getElem? (i := 100) rfl))⟩ ⟨fun a U g mk q => by obtain ⟨q0, q1, qP, qK, qD, qE0⟩ := q; exact ⟨q0, q1, qP, va_K.moved (u := U) (U := U.calling g mk a) (Vm.Alike.refl U.vm) qK, qD, w_N.same rfl qE0⟩, fun U hU hW => ⟨rfl, by rw [hU], by rw [hU]; exact hPc, va_K.moved hW.alike hKc, hDc.weaken (fun _ _ _ _ => trivial), w_N.warm hW hN⟩⟩ rfl rfl hl.1 rfl (lv_room (Nat.le_of_ble_eq_true rfl)) dX15_init_826 ⟨(Nat.le_of_ble_eq_true rfl), (Nat.le_of_ble_eq_true rfl)⟩) hS (fun q _ h => hFc q h) hFc (fun u t H1 locs1 ht hvm hw hB hz1 hk1 hS1 => ?_)
  obtain ⟨q_333, q_334, q_335, q_336, k_337, hP1, hK1, hD1⟩ := hB
  rw [ht] at hP1
  have hK1 := va_K.moved hvm.symm hK1
  have hJ := va_joinQ (wr := [(h0, .inr (15, fs_329)), (q_330, .inl (k_331, 3, .inr (.inr (.inr (.inr (fun _ => none))))))]) (w1 := [(q_332, .inr (13, [.ref q_333, .ref q_334, .ref q_335, .ref q_336, .int 0])), (q_335, .inl (k_337, 4096, .inl (fun _ => 0)))]) hP hD [2] [0, 1] rfl rfl (by decide) (by decide) hk1 hFc hP1 hD1
  clear hP hD hPc hDc hKc hFc hz1 hw; try clear hk1
  obtain ⟨hP, hD⟩ := hJ
  replace hK := (hK.sub (tys' := [(k_331, .object RX13)]) [0] rfl).app (hK1.sub (tys' := [(k_337, .int)]) [0] rfl)
  clear hP1 hK1 hD1 hvm ht hS; try clear t
  try clear H
  revert hS1
  intro hS
  generalize H1 = H at hP hS ⊢; try clear H1
  replace hP : va_P (dC, dI) vwCl ([(h0, .inr (15, fs_329)), (q_330, .inl (k_331, 3, .inr (.inr (.inr (.inr (fun _ => none)))))), (q_332, .inr (13, [.ref q_333, .ref q_334, .ref q_335, .ref q_336, .int 0])), (q_335, .inl (k_337, 4096, .inl (fun _ => 0)))] ++ pl) H := hP
  replace hD : va_D A ([(h0, .inr (15, fs_329)), (q_330, .inl (k_331, 3, .inr (.inr (.inr (.inr (fun _ => none)))))), (q_332, .inr (13, [.ref q_333, .ref q_334, .ref q_335, .ref q_336, .int 0])), (q_335, .inl (k_337, 4096, .inl (fun _ => 0)))] ++ pl) := hD
  replace hK : va_K (dC, dI) vwCl [(k_331, .object RX13), (k_337, .int)] s := hK
  refine va_astq hx hb hK hP hD hS 1 0 2 13 rfl rfl rfl rfl (by exact fun h => by rcases h with h | h <;> revert h <;> decide) dX15_init_829 ?_
  clear hP hD hS; try clear H
  intro H locs hP hD hS
  replace hP : va_P (dC, dI) vwCl ([(h0, .inr (15, fs_329)), (q_330, .inl (k_331, 3, .inr (.inr (.inr (.inr (va_up (fun _ => none) (0 : Int32).toNatClampNeg (some q_332))))))), (q_332, .inr (13, [.ref q_333, .ref q_334, .ref q_335, .ref q_336, .int 0])), (q_335, .inl (k_337, 4096, .inl (fun _ => 0)))] ++ pl) H := hP
  replace hD : va_D A ([(h0, .inr (15, fs_329)), (q_330, .inl (k_331, 3, .inr (.inr (.inr (.inr (va_up (fun _ => none) (0 : Int32).toNatClampNeg (some q_332))))))), (q_332, .inr (13, [.ref q_333, .ref q_334, .ref q_335, .ref q_336, .int 0])), (q_335, .inl (k_337, 4096, .inl (fun _ => 0)))] ++ pl) := hD
  refine lv_dup hx hb dX15_init_830 rfl ?_
  refine lv_iconst (v := 1) hx hb dX15_init_831 (by decide) ?_
  refine va_new (ci := 13) (fs := [.null, .null, .null, .null, .int 0]) (C := RX13) (T := TX13) (N := 5) hx hb hts (in_X15_init_X13) tyX13 tyX13_ok hown (hts (.classLink RX15 127 RX13) (List.mem_of_getElem? (i := 29) rfl)) (hts (.instantiable RX13 5) (List.mem_of_getElem? (i := 30) rfl)) (hts (.initialized RX13) (List.mem_of_getElem? (i := 31) rfl)) hK hP hD hS hA rfl (fun j hj => by rcases (show j = 0 ∨ j = 1 ∨ j = 2 ∨ j = 3 ∨ j = 4 by omega) with rfl | rfl | rfl | rfl | rfl <;> rfl) (Nat.le_of_ble_eq_true rfl) (Nat.le_of_ble_eq_true rfl) dX15_init_832 ?_
  clear hP hD hS; try clear H
  intro q_338 H hP hD hS
  replace hP := va_P.swap hP; replace hD := va_D.swap hD
  replace hP : va_P (dC, dI) vwCl ([(h0, .inr (15, fs_329)), (q_330, .inl (k_331, 3, .inr (.inr (.inr (.inr (va_up (fun _ => none) (0 : Int32).toNatClampNeg (some q_332))))))), (q_332, .inr (13, [.ref q_333, .ref q_334, .ref q_335, .ref q_336, .int 0])), (q_335, .inl (k_337, 4096, .inl (fun _ => 0))), (q_338, .inr (13, [.null, .null, .null, .null, .int 0]))] ++ pl) H := hP
  replace hD : va_D A ([(h0, .inr (15, fs_329)), (q_330, .inl (k_331, 3, .inr (.inr (.inr (.inr (va_up (fun _ => none) (0 : Int32).toNatClampNeg (some q_332))))))), (q_332, .inr (13, [.ref q_333, .ref q_334, .ref q_335, .ref q_336, .int 0])), (q_335, .inl (k_337, 4096, .inl (fun _ => 0))), (q_338, .inr (13, [.null, .null, .null, .null, .int 0]))] ++ pl) := hD
  refine lv_dup hx hb dX15_init_835 rfl ?_
  refine lv_sipush (v := 2048) hx hb dX15_init_836 (by decide) ?_
  have hPc := hP.sub (ws' := [(q_338, .inr (13, [.null, .null, .null, .null, .int 0]))]) [4] rfl
  have hDc := hD.sub (ws' := [(q_338, .inr (13, [.null, .null, .null, .null, .int 0]))]) [4] (by decide) rfl
  have hKc := hK.sub (tys' := []) [] rfl
  have hFc := va_free (wc := [(q_338, .inr (13, [.null, .null, .null, .null, .int 0]))]) hD hS hA [4] rfl
  refine va_callv (va_runIN (As := [.int 2048]) (rest := [.ref q_338, .int 1, .ref q_330, .ref q_330, .ref h0]) ⟨hx, hb, hml, hown, hts⟩ (c_X13_init_2048 l dC dI q_338 H.size) ⟨va_cnB 1 hts gM15_X13 rfl rfl rfl (hN.1 (RX15, 129, yX13_init, RX15) (List.mem_of_getElem? (i := 28) rfl)) (hts (.initialized RX13) (List.mem_of_getElem? (i := 31) rfl)) hd_X13_init ⟨Nat.le_of_ble_eq_true rfl, Nat.le_of_ble_eq_true rfl⟩, rfl, (hts (.instanceMethod yX13_init) (List.mem_of_getElem? (i := 100) rfl))⟩ ⟨fun a U g mk q => by obtain ⟨q0, q1, qP, qK, qD, qE0⟩ := q; exact ⟨q0, q1, qP, va_K.moved (u := U) (U := U.calling g mk a) (Vm.Alike.refl U.vm) qK, qD, w_N.same rfl qE0⟩, fun U hU hW => ⟨rfl, by rw [hU], by rw [hU]; exact hPc, va_K.moved hW.alike hKc, hDc.weaken (fun _ _ _ _ => trivial), w_N.warm hW hN⟩⟩ rfl rfl hl.1 rfl (lv_room (Nat.le_of_ble_eq_true rfl)) dX15_init_839 ⟨(Nat.le_of_ble_eq_true rfl), (Nat.le_of_ble_eq_true rfl)⟩) hS (fun q _ h => hFc q h) hFc (fun u t H1 locs1 ht hvm hw hB hz1 hk1 hS1 => ?_)
  obtain ⟨q_339, q_340, q_341, q_342, k_343, hP1, hK1, hD1⟩ := hB
  rw [ht] at hP1
  have hK1 := va_K.moved hvm.symm hK1
  have hJ := va_joinQ (wr := [(h0, .inr (15, fs_329)), (q_330, .inl (k_331, 3, .inr (.inr (.inr (.inr (va_up (fun _ => none) (0 : Int32).toNatClampNeg (some q_332))))))), (q_332, .inr (13, [.ref q_333, .ref q_334, .ref q_335, .ref q_336, .int 0])), (q_335, .inl (k_337, 4096, .inl (fun _ => 0)))]) (w1 := [(q_338, .inr (13, [.ref q_339, .ref q_340, .ref q_341, .ref q_342, .int 0])), (q_341, .inl (k_343, 4096, .inl (fun _ => 0)))]) hP hD [4] [0, 1, 2, 3] rfl rfl (by decide) (by decide) hk1 hFc hP1 hD1
  clear hP hD hPc hDc hKc hFc hz1 hw; try clear hk1
  obtain ⟨hP, hD⟩ := hJ
  replace hK := (hK.sub (tys' := [(k_331, .object RX13), (k_337, .int)]) [0, 1] rfl).app (hK1.sub (tys' := [(k_343, .int)]) [0] rfl)
  clear hP1 hK1 hD1 hvm ht hS; try clear t
  try clear H
  revert hS1
  intro hS
  generalize H1 = H at hP hS ⊢; try clear H1
  replace hP : va_P (dC, dI) vwCl ([(h0, .inr (15, fs_329)), (q_330, .inl (k_331, 3, .inr (.inr (.inr (.inr (va_up (fun _ => none) (0 : Int32).toNatClampNeg (some q_332))))))), (q_332, .inr (13, [.ref q_333, .ref q_334, .ref q_335, .ref q_336, .int 0])), (q_335, .inl (k_337, 4096, .inl (fun _ => 0))), (q_338, .inr (13, [.ref q_339, .ref q_340, .ref q_341, .ref q_342, .int 0])), (q_341, .inl (k_343, 4096, .inl (fun _ => 0)))] ++ pl) H := hP
  replace hD : va_D A ([(h0, .inr (15, fs_329)), (q_330, .inl (k_331, 3, .inr (.inr (.inr (.inr (va_up (fun _ => none) (0 : Int32).toNatClampNeg (some q_332))))))), (q_332, .inr (13, [.ref q_333, .ref q_334, .ref q_335, .ref q_336, .int 0])), (q_335, .inl (k_337, 4096, .inl (fun _ => 0))), (q_338, .inr (13, [.ref q_339, .ref q_340, .ref q_341, .ref q_342, .int 0])), (q_341, .inl (k_343, 4096, .inl (fun _ => 0)))] ++ pl) := hD
  replace hK : va_K (dC, dI) vwCl [(k_331, .object RX13), (k_337, .int), (k_343, .int)] s := hK
  refine va_astq hx hb hK hP hD hS 1 0 4 13 rfl rfl rfl rfl (by exact fun h => by rcases h with h | h <;> revert h <;> decide) dX15_init_842 ?_
  clear hP hD hS; try clear H
  intro H locs hP hD hS
  replace hP : va_P (dC, dI) vwCl ([(h0, .inr (15, fs_329)), (q_330, .inl (k_331, 3, .inr (.inr (.inr (.inr (va_up (va_up (fun _ => none) (0 : Int32).toNatClampNeg (some q_332)) (1 : Int32).toNatClampNeg (some q_338))))))), (q_332, .inr (13, [.ref q_333, .ref q_334, .ref q_335, .ref q_336, .int 0])), (q_335, .inl (k_337, 4096, .inl (fun _ => 0))), (q_338, .inr (13, [.ref q_339, .ref q_340, .ref q_341, .ref q_342, .int 0])), (q_341, .inl (k_343, 4096, .inl (fun _ => 0)))] ++ pl) H := hP
  replace hD : va_D A ([(h0, .inr (15, fs_329)), (q_330, .inl (k_331, 3, .inr (.inr (.inr (.inr (va_up (va_up (fun _ => none) (0 : Int32).toNatClampNeg (some q_332)) (1 : Int32).toNatClampNeg (some q_338))))))), (q_332, .inr (13, [.ref q_333, .ref q_334, .ref q_335, .ref q_336, .int 0])), (q_335, .inl (k_337, 4096, .inl (fun _ => 0))), (q_338, .inr (13, [.ref q_339, .ref q_340, .ref q_341, .ref q_342, .int 0])), (q_341, .inl (k_343, 4096, .inl (fun _ => 0)))] ++ pl) := hD
  refine lv_dup hx hb dX15_init_843 rfl ?_
  refine lv_iconst (v := 2) hx hb dX15_init_844 (by decide) ?_
  refine va_new (ci := 13) (fs := [.null, .null, .null, .null, .int 0]) (C := RX13) (T := TX13) (N := 5) hx hb hts (in_X15_init_X13) tyX13 tyX13_ok hown (hts (.classLink RX15 127 RX13) (List.mem_of_getElem? (i := 29) rfl)) (hts (.instantiable RX13 5) (List.mem_of_getElem? (i := 30) rfl)) (hts (.initialized RX13) (List.mem_of_getElem? (i := 31) rfl)) hK hP hD hS hA rfl (fun j hj => by rcases (show j = 0 ∨ j = 1 ∨ j = 2 ∨ j = 3 ∨ j = 4 by omega) with rfl | rfl | rfl | rfl | rfl <;> rfl) (Nat.le_of_ble_eq_true rfl) (Nat.le_of_ble_eq_true rfl) dX15_init_845 ?_
  clear hP hD hS; try clear H
  intro q_344 H hP hD hS
  replace hP := va_P.swap hP; replace hD := va_D.swap hD
  replace hP : va_P (dC, dI) vwCl ([(h0, .inr (15, fs_329)), (q_330, .inl (k_331, 3, .inr (.inr (.inr (.inr (va_up (va_up (fun _ => none) (0 : Int32).toNatClampNeg (some q_332)) (1 : Int32).toNatClampNeg (some q_338))))))), (q_332, .inr (13, [.ref q_333, .ref q_334, .ref q_335, .ref q_336, .int 0])), (q_335, .inl (k_337, 4096, .inl (fun _ => 0))), (q_338, .inr (13, [.ref q_339, .ref q_340, .ref q_341, .ref q_342, .int 0])), (q_341, .inl (k_343, 4096, .inl (fun _ => 0))), (q_344, .inr (13, [.null, .null, .null, .null, .int 0]))] ++ pl) H := hP
  replace hD : va_D A ([(h0, .inr (15, fs_329)), (q_330, .inl (k_331, 3, .inr (.inr (.inr (.inr (va_up (va_up (fun _ => none) (0 : Int32).toNatClampNeg (some q_332)) (1 : Int32).toNatClampNeg (some q_338))))))), (q_332, .inr (13, [.ref q_333, .ref q_334, .ref q_335, .ref q_336, .int 0])), (q_335, .inl (k_337, 4096, .inl (fun _ => 0))), (q_338, .inr (13, [.ref q_339, .ref q_340, .ref q_341, .ref q_342, .int 0])), (q_341, .inl (k_343, 4096, .inl (fun _ => 0))), (q_344, .inr (13, [.null, .null, .null, .null, .int 0]))] ++ pl) := hD
  refine lv_dup hx hb dX15_init_848 rfl ?_
  refine lv_sipush (v := 2048) hx hb dX15_init_849 (by decide) ?_
  have hPc := hP.sub (ws' := [(q_344, .inr (13, [.null, .null, .null, .null, .int 0]))]) [6] rfl
  have hDc := hD.sub (ws' := [(q_344, .inr (13, [.null, .null, .null, .null, .int 0]))]) [6] (by decide) rfl
  have hKc := hK.sub (tys' := []) [] rfl
  have hFc := va_free (wc := [(q_344, .inr (13, [.null, .null, .null, .null, .int 0]))]) hD hS hA [6] rfl
  refine va_callv (va_runIN (As := [.int 2048]) (rest := [.ref q_344, .int 2, .ref q_330, .ref q_330, .ref h0]) ⟨hx, hb, hml, hown, hts⟩ (c_X13_init_2048 l dC dI q_344 H.size) ⟨va_cnB 1 hts gM15_X13 rfl rfl rfl (hN.1 (RX15, 129, yX13_init, RX15) (List.mem_of_getElem? (i := 28) rfl)) (hts (.initialized RX13) (List.mem_of_getElem? (i := 31) rfl)) hd_X13_init ⟨Nat.le_of_ble_eq_true rfl, Nat.le_of_ble_eq_true rfl⟩, rfl, (hts (.instanceMethod yX13_init) (List.mem_of_getElem? (i := 100) rfl))⟩ ⟨fun a U g mk q => by obtain ⟨q0, q1, qP, qK, qD, qE0⟩ := q; exact ⟨q0, q1, qP, va_K.moved (u := U) (U := U.calling g mk a) (Vm.Alike.refl U.vm) qK, qD, w_N.same rfl qE0⟩, fun U hU hW => ⟨rfl, by rw [hU], by rw [hU]; exact hPc, va_K.moved hW.alike hKc, hDc.weaken (fun _ _ _ _ => trivial), w_N.warm hW hN⟩⟩ rfl rfl hl.1 rfl (lv_room (Nat.le_of_ble_eq_true rfl)) dX15_init_852 ⟨(Nat.le_of_ble_eq_true rfl), (Nat.le_of_ble_eq_true rfl)⟩) hS (fun q _ h => hFc q h) hFc (fun u t H1 locs1 ht hvm hw hB hz1 hk1 hS1 => ?_)
  obtain ⟨q_345, q_346, q_347, q_348, k_349, hP1, hK1, hD1⟩ := hB
  rw [ht] at hP1
  have hK1 := va_K.moved hvm.symm hK1
  have hJ := va_joinQ (wr := [(h0, .inr (15, fs_329)), (q_330, .inl (k_331, 3, .inr (.inr (.inr (.inr (va_up (va_up (fun _ => none) (0 : Int32).toNatClampNeg (some q_332)) (1 : Int32).toNatClampNeg (some q_338))))))), (q_332, .inr (13, [.ref q_333, .ref q_334, .ref q_335, .ref q_336, .int 0])), (q_335, .inl (k_337, 4096, .inl (fun _ => 0))), (q_338, .inr (13, [.ref q_339, .ref q_340, .ref q_341, .ref q_342, .int 0])), (q_341, .inl (k_343, 4096, .inl (fun _ => 0)))]) (w1 := [(q_344, .inr (13, [.ref q_345, .ref q_346, .ref q_347, .ref q_348, .int 0])), (q_347, .inl (k_349, 4096, .inl (fun _ => 0)))]) hP hD [6] [0, 1, 2, 3, 4, 5] rfl rfl (by decide) (by decide) hk1 hFc hP1 hD1
  clear hP hD hPc hDc hKc hFc hz1 hw; try clear hk1
  obtain ⟨hP, hD⟩ := hJ
  replace hK := (hK.sub (tys' := [(k_331, .object RX13), (k_337, .int), (k_343, .int)]) [0, 1, 2] rfl).app (hK1.sub (tys' := [(k_349, .int)]) [0] rfl)
  clear hP1 hK1 hD1 hvm ht hS; try clear t
  try clear H
  revert hS1
  intro hS
  generalize H1 = H at hP hS ⊢; try clear H1
  replace hP : va_P (dC, dI) vwCl ([(h0, .inr (15, fs_329)), (q_330, .inl (k_331, 3, .inr (.inr (.inr (.inr (va_up (va_up (fun _ => none) (0 : Int32).toNatClampNeg (some q_332)) (1 : Int32).toNatClampNeg (some q_338))))))), (q_332, .inr (13, [.ref q_333, .ref q_334, .ref q_335, .ref q_336, .int 0])), (q_335, .inl (k_337, 4096, .inl (fun _ => 0))), (q_338, .inr (13, [.ref q_339, .ref q_340, .ref q_341, .ref q_342, .int 0])), (q_341, .inl (k_343, 4096, .inl (fun _ => 0))), (q_344, .inr (13, [.ref q_345, .ref q_346, .ref q_347, .ref q_348, .int 0])), (q_347, .inl (k_349, 4096, .inl (fun _ => 0)))] ++ pl) H := hP
  replace hD : va_D A ([(h0, .inr (15, fs_329)), (q_330, .inl (k_331, 3, .inr (.inr (.inr (.inr (va_up (va_up (fun _ => none) (0 : Int32).toNatClampNeg (some q_332)) (1 : Int32).toNatClampNeg (some q_338))))))), (q_332, .inr (13, [.ref q_333, .ref q_334, .ref q_335, .ref q_336, .int 0])), (q_335, .inl (k_337, 4096, .inl (fun _ => 0))), (q_338, .inr (13, [.ref q_339, .ref q_340, .ref q_341, .ref q_342, .int 0])), (q_341, .inl (k_343, 4096, .inl (fun _ => 0))), (q_344, .inr (13, [.ref q_345, .ref q_346, .ref q_347, .ref q_348, .int 0])), (q_347, .inl (k_349, 4096, .inl (fun _ => 0)))] ++ pl) := hD
  replace hK : va_K (dC, dI) vwCl [(k_331, .object RX13), (k_337, .int), (k_343, .int), (k_349, .int)] s := hK
  refine va_astq hx hb hK hP hD hS 1 0 6 13 rfl rfl rfl rfl (by exact fun h => by rcases h with h | h <;> revert h <;> decide) dX15_init_855 ?_
  clear hP hD hS; try clear H
  intro H locs hP hD hS
  replace hP : va_P (dC, dI) vwCl ([(h0, .inr (15, fs_329)), (q_330, .inl (k_331, 3, .inr (.inr (.inr (.inr (va_up (va_up (va_up (fun _ => none) (0 : Int32).toNatClampNeg (some q_332)) (1 : Int32).toNatClampNeg (some q_338)) (2 : Int32).toNatClampNeg (some q_344))))))), (q_332, .inr (13, [.ref q_333, .ref q_334, .ref q_335, .ref q_336, .int 0])), (q_335, .inl (k_337, 4096, .inl (fun _ => 0))), (q_338, .inr (13, [.ref q_339, .ref q_340, .ref q_341, .ref q_342, .int 0])), (q_341, .inl (k_343, 4096, .inl (fun _ => 0))), (q_344, .inr (13, [.ref q_345, .ref q_346, .ref q_347, .ref q_348, .int 0])), (q_347, .inl (k_349, 4096, .inl (fun _ => 0)))] ++ pl) H := hP
  replace hD : va_D A ([(h0, .inr (15, fs_329)), (q_330, .inl (k_331, 3, .inr (.inr (.inr (.inr (va_up (va_up (va_up (fun _ => none) (0 : Int32).toNatClampNeg (some q_332)) (1 : Int32).toNatClampNeg (some q_338)) (2 : Int32).toNatClampNeg (some q_344))))))), (q_332, .inr (13, [.ref q_333, .ref q_334, .ref q_335, .ref q_336, .int 0])), (q_335, .inl (k_337, 4096, .inl (fun _ => 0))), (q_338, .inr (13, [.ref q_339, .ref q_340, .ref q_341, .ref q_342, .int 0])), (q_341, .inl (k_343, 4096, .inl (fun _ => 0))), (q_344, .inr (13, [.ref q_345, .ref q_346, .ref q_347, .ref q_348, .int 0])), (q_347, .inl (k_349, 4096, .inl (fun _ => 0)))] ++ pl) := hD
  refine va_putF (D := (dC, dI)) (ci := 15) (v := .ref q_330) (ty := .array (.object "MotionSignsModel$Poly")) (C := RX15) (T := TX15) (N := 89) hx hb hts (in_X15_init_X15) tyX15 tyX15_ok nmX15 hown hK hP hD hS 0 rfl rfl 63 (by decide) (hts (.fieldLink RX15 230 "MotionSignsModel" "result3" "[LMotionSignsModel$Poly;") (List.mem_of_getElem? (i := 67) rfl)) (fun _ h9 => h9) rfl hin rfl (tyX15_ok 63 (by decide)) rfl rfl (mF.lt hF (by decide)) dX15_init_856 ?_
  clear hP hD hS; try clear H
  intro H locs hP hD hS
  have hF1 := mF.pass hF 63 (.ref q_330) (by decide) rfl
  replace hP : va_P (dC, dI) vwCl ([(h0, .inr (15, (fs_329.set 63 (.ref q_330)))), (q_330, .inl (k_331, 3, .inr (.inr (.inr (.inr (va_up (va_up (va_up (fun _ => none) (0 : Int32).toNatClampNeg (some q_332)) (1 : Int32).toNatClampNeg (some q_338)) (2 : Int32).toNatClampNeg (some q_344))))))), (q_332, .inr (13, [.ref q_333, .ref q_334, .ref q_335, .ref q_336, .int 0])), (q_335, .inl (k_337, 4096, .inl (fun _ => 0))), (q_338, .inr (13, [.ref q_339, .ref q_340, .ref q_341, .ref q_342, .int 0])), (q_341, .inl (k_343, 4096, .inl (fun _ => 0))), (q_344, .inr (13, [.ref q_345, .ref q_346, .ref q_347, .ref q_348, .int 0])), (q_347, .inl (k_349, 4096, .inl (fun _ => 0)))] ++ pl) H := hP
  replace hD : va_D A ([(h0, .inr (15, (fs_329.set 63 (.ref q_330)))), (q_330, .inl (k_331, 3, .inr (.inr (.inr (.inr (va_up (va_up (va_up (fun _ => none) (0 : Int32).toNatClampNeg (some q_332)) (1 : Int32).toNatClampNeg (some q_338)) (2 : Int32).toNatClampNeg (some q_344))))))), (q_332, .inr (13, [.ref q_333, .ref q_334, .ref q_335, .ref q_336, .int 0])), (q_335, .inl (k_337, 4096, .inl (fun _ => 0))), (q_338, .inr (13, [.ref q_339, .ref q_340, .ref q_341, .ref q_342, .int 0])), (q_341, .inl (k_343, 4096, .inl (fun _ => 0))), (q_344, .inr (13, [.ref q_345, .ref q_346, .ref q_347, .ref q_348, .int 0])), (q_347, .inl (k_349, 4096, .inl (fun _ => 0)))] ++ pl) := hD
  generalize fs_329.set 63 (.ref q_330) = fs_350 at hP hD hF1
  replace hF : mF 89 [(36, .ref q_113), (33, .ref q_99), (31, .ref q_57), (30, .ref q_50), (26, .ref q_47), (20, .int (-1)), (17, .int (-1)), (14, .ref q_39), (13, .ref q_35), (0, .int 0), (18, .int 0), (19, .int 0), (21, .int 0), (22, .int 0), (23, .int 0), (24, .int 0), (25, .int 0), (27, .int 0), (28, .int 0), (29, .int 0), (35, .int 0)] fs_350 := hF1
  clear hF1
  replace hP : va_P (dC, dI) vwCl ([(h0, .inr (15, fs_350)), (q_330, .inl (k_331, 3, .inr (.inr (.inr (.inr (va_up (va_up (va_up (fun _ => none) (0 : Int32).toNatClampNeg (some q_332)) (1 : Int32).toNatClampNeg (some q_338)) (2 : Int32).toNatClampNeg (some q_344))))))), (q_332, .inr (13, [.ref q_333, .ref q_334, .ref q_335, .ref q_336, .int 0])), (q_335, .inl (k_337, 4096, .inl (fun _ => 0))), (q_338, .inr (13, [.ref q_339, .ref q_340, .ref q_341, .ref q_342, .int 0])), (q_341, .inl (k_343, 4096, .inl (fun _ => 0))), (q_344, .inr (13, [.ref q_345, .ref q_346, .ref q_347, .ref q_348, .int 0])), (q_347, .inl (k_349, 4096, .inl (fun _ => 0)))] ++ pl) H := hP
  replace hD : va_D A ([(h0, .inr (15, fs_350)), (q_330, .inl (k_331, 3, .inr (.inr (.inr (.inr (va_up (va_up (va_up (fun _ => none) (0 : Int32).toNatClampNeg (some q_332)) (1 : Int32).toNatClampNeg (some q_338)) (2 : Int32).toNatClampNeg (some q_344))))))), (q_332, .inr (13, [.ref q_333, .ref q_334, .ref q_335, .ref q_336, .int 0])), (q_335, .inl (k_337, 4096, .inl (fun _ => 0))), (q_338, .inr (13, [.ref q_339, .ref q_340, .ref q_341, .ref q_342, .int 0])), (q_341, .inl (k_343, 4096, .inl (fun _ => 0))), (q_344, .inr (13, [.ref q_345, .ref q_346, .ref q_347, .ref q_348, .int 0])), (q_347, .inl (k_349, 4096, .inl (fun _ => 0)))] ++ pl) := hD
  replace hP := wm_subP (X' := [(h0, .inr (15, fs_350))]) hP [0] rfl
  replace hD := wm_subD (X' := [(h0, .inr (15, fs_350))]) hD [0] (by decide) rfl
  replace hK := hK.sub (tys' := []) [] rfl
  refine lv_aload_n hx hb dX15_init_859 rfl (lv_at hl 0 rfl) ?_
  refine va_new (ci := 13) (fs := [.null, .null, .null, .null, .int 0]) (C := RX13) (T := TX13) (N := 5) hx hb hts (in_X15_init_X13) tyX13 tyX13_ok hown (hts (.classLink RX15 127 RX13) (List.mem_of_getElem? (i := 29) rfl)) (hts (.instantiable RX13 5) (List.mem_of_getElem? (i := 30) rfl)) (hts (.initialized RX13) (List.mem_of_getElem? (i := 31) rfl)) hK hP hD hS hA rfl (fun j hj => by rcases (show j = 0 ∨ j = 1 ∨ j = 2 ∨ j = 3 ∨ j = 4 by omega) with rfl | rfl | rfl | rfl | rfl <;> rfl) (Nat.le_of_ble_eq_true rfl) (Nat.le_of_ble_eq_true rfl) dX15_init_860 ?_
  clear hP hD hS; try clear H
  intro q_351 H hP hD hS
  replace hP := va_P.swap hP; replace hD := va_D.swap hD
  replace hP : va_P (dC, dI) vwCl ([(h0, .inr (15, fs_350)), (q_351, .inr (13, [.null, .null, .null, .null, .int 0]))] ++ pl) H := hP
  replace hD : va_D A ([(h0, .inr (15, fs_350)), (q_351, .inr (13, [.null, .null, .null, .null, .int 0]))] ++ pl) := hD
  refine lv_dup hx hb dX15_init_863 rfl ?_
  refine lv_sipush (v := 2048) hx hb dX15_init_864 (by decide) ?_
  have hPc := hP.sub (ws' := [(q_351, .inr (13, [.null, .null, .null, .null, .int 0]))]) [1] rfl
  have hDc := hD.sub (ws' := [(q_351, .inr (13, [.null, .null, .null, .null, .int 0]))]) [1] (by decide) rfl
  have hKc := hK.sub (tys' := []) [] rfl
  have hFc := va_free (wc := [(q_351, .inr (13, [.null, .null, .null, .null, .int 0]))]) hD hS hA [1] rfl
  refine va_callv (va_runIN (As := [.int 2048]) (rest := [.ref q_351, .ref h0]) ⟨hx, hb, hml, hown, hts⟩ (c_X13_init_2048 l dC dI q_351 H.size) ⟨va_cnB 1 hts gM15_X13 rfl rfl rfl (hN.1 (RX15, 129, yX13_init, RX15) (List.mem_of_getElem? (i := 28) rfl)) (hts (.initialized RX13) (List.mem_of_getElem? (i := 31) rfl)) hd_X13_init ⟨Nat.le_of_ble_eq_true rfl, Nat.le_of_ble_eq_true rfl⟩, rfl, (hts (.instanceMethod yX13_init) (List.mem_of_getElem? (i := 100) rfl))⟩ ⟨fun a U g mk q => by obtain ⟨q0, q1, qP, qK, qD, qE0⟩ := q; exact ⟨q0, q1, qP, va_K.moved (u := U) (U := U.calling g mk a) (Vm.Alike.refl U.vm) qK, qD, w_N.same rfl qE0⟩, fun U hU hW => ⟨rfl, by rw [hU], by rw [hU]; exact hPc, va_K.moved hW.alike hKc, hDc.weaken (fun _ _ _ _ => trivial), w_N.warm hW hN⟩⟩ rfl rfl hl.1 rfl (lv_room (Nat.le_of_ble_eq_true rfl)) dX15_init_867 ⟨(Nat.le_of_ble_eq_true rfl), (Nat.le_of_ble_eq_true rfl)⟩) hS (fun q _ h => hFc q h) hFc (fun u t H1 locs1 ht hvm hw hB hz1 hk1 hS1 => ?_)
  obtain ⟨q_352, q_353, q_354, q_355, k_356, hP1, hK1, hD1⟩ := hB
  rw [ht] at hP1
  have hK1 := va_K.moved hvm.symm hK1
  have hJ := va_joinQ (wr := [(h0, .inr (15, fs_350))]) (w1 := [(q_351, .inr (13, [.ref q_352, .ref q_353, .ref q_354, .ref q_355, .int 0])), (q_354, .inl (k_356, 4096, .inl (fun _ => 0)))]) hP hD [1] [0] rfl rfl (by decide) (by decide) hk1 hFc hP1 hD1
  clear hP hD hPc hDc hKc hFc hz1 hw; try clear hk1
  obtain ⟨hP, hD⟩ := hJ
  replace hK := (hK.sub (tys' := []) [] rfl).app (hK1.sub (tys' := [(k_356, .int)]) [0] rfl)
  clear hP1 hK1 hD1 hvm ht hS; try clear t
  try clear H
  revert hS1
  intro hS
  generalize H1 = H at hP hS ⊢; try clear H1
  replace hP : va_P (dC, dI) vwCl ([(h0, .inr (15, fs_350)), (q_351, .inr (13, [.ref q_352, .ref q_353, .ref q_354, .ref q_355, .int 0])), (q_354, .inl (k_356, 4096, .inl (fun _ => 0)))] ++ pl) H := hP
  replace hD : va_D A ([(h0, .inr (15, fs_350)), (q_351, .inr (13, [.ref q_352, .ref q_353, .ref q_354, .ref q_355, .int 0])), (q_354, .inl (k_356, 4096, .inl (fun _ => 0)))] ++ pl) := hD
  replace hK : va_K (dC, dI) vwCl [(k_356, .int)] s := hK
  refine va_putF (D := (dC, dI)) (ci := 15) (v := .ref q_351) (ty := .object "MotionSignsModel$Poly") (C := RX15) (T := TX15) (N := 89) hx hb hts (in_X15_init_X15) tyX15 tyX15_ok nmX15 hown hK hP hD hS 0 rfl rfl 64 (by decide) (hts (.fieldLink RX15 233 "MotionSignsModel" "wide" "LMotionSignsModel$Poly;") (List.mem_of_getElem? (i := 68) rfl)) (fun _ h9 => h9) rfl hin rfl (tyX15_ok 64 (by decide)) rfl rfl (mF.lt hF (by decide)) dX15_init_870 ?_
  clear hP hD hS; try clear H
  intro H locs hP hD hS
  have hF1 := mF.pass hF 64 (.ref q_351) (by decide) rfl
  replace hP : va_P (dC, dI) vwCl ([(h0, .inr (15, (fs_350.set 64 (.ref q_351)))), (q_351, .inr (13, [.ref q_352, .ref q_353, .ref q_354, .ref q_355, .int 0])), (q_354, .inl (k_356, 4096, .inl (fun _ => 0)))] ++ pl) H := hP
  replace hD : va_D A ([(h0, .inr (15, (fs_350.set 64 (.ref q_351)))), (q_351, .inr (13, [.ref q_352, .ref q_353, .ref q_354, .ref q_355, .int 0])), (q_354, .inl (k_356, 4096, .inl (fun _ => 0)))] ++ pl) := hD
  generalize fs_350.set 64 (.ref q_351) = fs_357 at hP hD hF1
  replace hF : mF 89 [(36, .ref q_113), (33, .ref q_99), (31, .ref q_57), (30, .ref q_50), (26, .ref q_47), (20, .int (-1)), (17, .int (-1)), (14, .ref q_39), (13, .ref q_35), (0, .int 0), (18, .int 0), (19, .int 0), (21, .int 0), (22, .int 0), (23, .int 0), (24, .int 0), (25, .int 0), (27, .int 0), (28, .int 0), (29, .int 0), (35, .int 0)] fs_357 := hF1
  clear hF1
  replace hP : va_P (dC, dI) vwCl ([(h0, .inr (15, fs_357)), (q_351, .inr (13, [.ref q_352, .ref q_353, .ref q_354, .ref q_355, .int 0])), (q_354, .inl (k_356, 4096, .inl (fun _ => 0)))] ++ pl) H := hP
  replace hD : va_D A ([(h0, .inr (15, fs_357)), (q_351, .inr (13, [.ref q_352, .ref q_353, .ref q_354, .ref q_355, .int 0])), (q_354, .inl (k_356, 4096, .inl (fun _ => 0)))] ++ pl) := hD
  replace hP := wm_subP (X' := [(h0, .inr (15, fs_357))]) hP [0] rfl
  replace hD := wm_subD (X' := [(h0, .inr (15, fs_357))]) hD [0] (by decide) rfl
  replace hK := hK.sub (tys' := []) [] rfl
  exact kont fs_357 H locs ls hP hD hK hS hl hF
set_option maxHeartbeats 40000000 in
set_option maxRecDepth 100000 in
/-- the reference: MotionSignsModel(), rows 873 to 957 -/
theorem c_X15_init_s10 {p : Program} {l : Launch} {e : Env} {s : State} {m : MethodId} {below : List Frame} {meth : Method} {c : Code} {A : Nat → Prop} {Q0 : State → Prop} {dC : Nat → ClassId} {dI : Nat → Nat → Nat} {h0 : Nat} {fs_357 : List Value} {q_113 : Nat} {q_99 : Nat} {q_57 : Nat} {q_50 : Nat} {q_47 : Nat} {q_39 : Nat} {q_35 : Nat} (hx : p.tables.exec = Jvm.exec) (hb : c.code = cX15_init) (hml : c.maxLocals = 3) (hts : ∀ w ∈ wsM15, w.before ([.ref h0] : List Value).toArray s = true) (hown : s.vm.findClass RX15 = some m.cls) (hin : meth.name = "<init>") (hA : ∀ q : Nat, s.heap.size ≤ q → A q) (hN : w_N s) (pl : va_W) {H : Heap} {locs : List Loc} {ls : Array Slot} (hP : va_P (dC, dI) vwCl ([(h0, .inr (15, fs_357))] ++ pl) H) (hD : va_D A ([(h0, .inr (15, fs_357))] ++ pl)) (hK : va_K (dC, dI) vwCl [] s) (hS : va_S A s.heap H locs) (hl : lv_has ls 3 [(0, .ref h0)]) (hF : mF 89 [(36, .ref q_113), (33, .ref q_99), (31, .ref q_57), (30, .ref q_50), (26, .ref q_47), (20, .int (-1)), (17, .int (-1)), (14, .ref q_39), (13, .ref q_35), (0, .int 0), (18, .int 0), (19, .int 0), (21, .int 0), (22, .int 0), (23, .int 0), (24, .int 0), (25, .int 0), (27, .int 0), (28, .int 0), (29, .int 0), (35, .int 0)] fs_357) (kont : ∀ (fs_374 : List Value) (H : Heap) (locs : List Loc) (ls : Array Slot), va_P (dC, dI) vwCl ([(h0, .inr (15, fs_374))] ++ pl) H → va_D A ([(h0, .inr (15, fs_374))] ++ pl) → va_K (dC, dI) vwCl [] s → va_S A s.heap H locs → lv_has ls 3 [(0, .ref h0)] → mF 89 [(36, .ref q_113), (33, .ref q_99), (31, .ref q_57), (30, .ref q_50), (26, .ref q_47), (20, .int (-1)), (17, .int (-1)), (14, .ref q_39), (13, .ref q_35), (0, .int 0), (18, .int 0), (19, .int 0), (21, .int 0), (22, .int 0), (23, .int 0), (24, .int 0), (25, .int 0), (27, .int 0), (28, .int 0), (29, .int 0), (35, .int 0)] fs_374 → W p l e ({ frames := 3, cells := 7193, slots := 3261971, locals := 56 } : Room) s m ([.ref h0] : List Value).toArray below meth c H locs 4912 2919866 Q0 (F0 m 957 ls [])) : W p l e ({ frames := 3, cells := 7193, slots := 3261971, locals := 56 } : Room) s m ([.ref h0] : List Value).toArray below meth c H locs 3971 2890571 Q0 (F0 m 873 ls []) := by
  refine lv_aload_n hx hb dX15_init_873 rfl (lv_at hl 0 rfl) ?_
  refine lv_bipush (v := 30) hx hb dX15_init_874 (by decide) ?_
  refine lv_bipush (v := 30) hx hb dX15_init_876 (by decide) ?_
  refine lv_bipush (v := 30) hx hb dX15_init_878 (by decide) ?_
  refine wm_mna3 (nm1 := "[J") (t0 := .array (.array (.long))) (t1 := .array (.long)) (type := .long) (N' := 30) (K' := 30) (M' := 30) hx hb hown (hts (.classLink RX15 235 "[[[J") (List.mem_of_getElem? (i := 211) rfl)) (hN.2.2.2.2.2.1) (hN.2.2.2.2.1) (hN.2.2.2.1) rfl rfl rfl rfl hP hD hS (by decide) (by decide) (by decide) (by decide) (by decide) (by decide) (Nat.le_of_ble_eq_true rfl) (Nat.le_of_ble_eq_true rfl) (Nat.le_of_ble_eq_true rfl) (Nat.le_of_ble_eq_true rfl) rfl rfl (Nat.le_of_ble_eq_true rfl) (Nat.le_of_ble_eq_true rfl) dX15_init_880 ?_
  clear hP hD hS; try clear H
  intro q_358 H hP hD hS
  replace hP : va_P (dC, dI) vwCl ([(h0, .inr (15, fs_357))] ++ pl) H := hP
  replace hD : va_D A ([(h0, .inr (15, fs_357))] ++ pl) := hD
  refine va_putF (D := (dC, dI)) (ci := 15) (v := .ref q_358) (ty := .array (.array (.array .long))) (C := RX15) (T := TX15) (N := 89) hx hb hts (in_X15_init_X15) tyX15 tyX15_ok nmX15 hown hK hP hD hS 0 rfl rfl 65 (by decide) (hts (.fieldLink RX15 237 "MotionSignsModel" "atLead" "[[[J") (List.mem_of_getElem? (i := 69) rfl)) (fun _ h9 => h9) rfl hin rfl (tyX15_ok 65 (by decide)) rfl rfl (mF.lt hF (by decide)) dX15_init_884 ?_
  clear hP hD hS; try clear H
  intro H locs hP hD hS
  have hF1 := mF.pass hF 65 (.ref q_358) (by decide) rfl
  replace hP : va_P (dC, dI) vwCl ([(h0, .inr (15, (fs_357.set 65 (.ref q_358))))] ++ pl) H := hP
  replace hD : va_D A ([(h0, .inr (15, (fs_357.set 65 (.ref q_358))))] ++ pl) := hD
  generalize fs_357.set 65 (.ref q_358) = fs_359 at hP hD hF1
  replace hF : mF 89 [(36, .ref q_113), (33, .ref q_99), (31, .ref q_57), (30, .ref q_50), (26, .ref q_47), (20, .int (-1)), (17, .int (-1)), (14, .ref q_39), (13, .ref q_35), (0, .int 0), (18, .int 0), (19, .int 0), (21, .int 0), (22, .int 0), (23, .int 0), (24, .int 0), (25, .int 0), (27, .int 0), (28, .int 0), (29, .int 0), (35, .int 0)] fs_359 := hF1
  clear hF1
  replace hP : va_P (dC, dI) vwCl ([(h0, .inr (15, fs_359))] ++ pl) H := hP
  replace hD : va_D A ([(h0, .inr (15, fs_359))] ++ pl) := hD
  refine lv_aload_n hx hb dX15_init_887 rfl (lv_at hl 0 rfl) ?_
  refine va_new (ci := 12) (fs := [.null, .int 0, .int 0]) (C := RX12) (T := TX12) (N := 3) hx hb hts (in_X15_init_X12) tyX12 tyX12_ok hown (hts (.classLink RX15 2 RX12) (List.mem_of_getElem? (i := 4) rfl)) (hts (.instantiable RX12 3) (List.mem_of_getElem? (i := 5) rfl)) (hts (.initialized RX12) (List.mem_of_getElem? (i := 6) rfl)) hK hP hD hS hA rfl (fun j hj => by rcases (show j = 0 ∨ j = 1 ∨ j = 2 by omega) with rfl | rfl | rfl <;> rfl) (Nat.le_of_ble_eq_true rfl) (Nat.le_of_ble_eq_true rfl) dX15_init_888 ?_
  clear hP hD hS; try clear H
  intro q_360 H hP hD hS
  replace hP := va_P.swap hP; replace hD := va_D.swap hD
  replace hP : va_P (dC, dI) vwCl ([(h0, .inr (15, fs_359)), (q_360, .inr (12, [.null, .int 0, .int 0]))] ++ pl) H := hP
  replace hD : va_D A ([(h0, .inr (15, fs_359)), (q_360, .inr (12, [.null, .int 0, .int 0]))] ++ pl) := hD
  refine lv_dup hx hb dX15_init_891 rfl ?_
  refine lv_sipush (v := 270) hx hb dX15_init_892 (by decide) ?_
  have hPc := hP.sub (ws' := [(q_360, .inr (12, [.null, .int 0, .int 0]))]) [1] rfl
  have hDc := hD.sub (ws' := [(q_360, .inr (12, [.null, .int 0, .int 0]))]) [1] (by decide) rfl
  have hKc := hK.sub (tys' := []) [] rfl
  have hFc := va_free (wc := [(q_360, .inr (12, [.null, .int 0, .int 0]))]) hD hS hA [1] rfl
  refine va_callv (va_runIN (As := [.int 270]) (rest := [.ref q_360, .ref h0]) ⟨hx, hb, hml, hown, hts⟩ (c_X12_init l dC dI q_360 H.size) ⟨va_cnB 1 hts gM15_X12 rfl rfl rfl (hN.1 (RX15, 95, yX12_init, RX15) (List.mem_of_getElem? (i := 25) rfl)) (hts (.initialized RX12) (List.mem_of_getElem? (i := 6) rfl)) hd_X12_init ⟨Nat.le_of_ble_eq_true rfl, Nat.le_of_ble_eq_true rfl⟩, rfl, (hts (.instanceMethod yX12_init) (List.mem_of_getElem? (i := 89) rfl))⟩ ⟨fun a U g mk q => by obtain ⟨q0, q1, qP, qK, qD, qE0⟩ := q; exact ⟨q0, q1, qP, va_K.moved (u := U) (U := U.calling g mk a) (Vm.Alike.refl U.vm) qK, qD, w_N.same rfl qE0⟩, fun U hU hW => ⟨rfl, by rw [hU], by rw [hU]; exact hPc, va_K.moved hW.alike hKc, hDc.weaken (fun _ _ _ _ => trivial), w_N.warm hW hN⟩⟩ rfl rfl hl.1 rfl (lv_room (Nat.le_of_ble_eq_true rfl)) dX15_init_895 ⟨(Nat.le_of_ble_eq_true rfl), (Nat.le_of_ble_eq_true rfl)⟩) hS (fun q _ h => hFc q h) hFc (fun u t H1 locs1 ht hvm hw hB hz1 hk1 hS1 => ?_)
  obtain ⟨f_361, hP1, hK1, hD1⟩ := hB
  rw [ht] at hP1
  have hK1 := va_K.moved hvm.symm hK1
  have hJ := va_joinQ (wr := [(h0, .inr (15, fs_359))]) (w1 := [(q_360, .inr (12, f_361))]) hP hD [1] [0] rfl rfl (by decide) (by decide) hk1 hFc hP1 hD1
  clear hP hD hPc hDc hKc hFc hz1 hw; try clear hk1
  obtain ⟨hP, hD⟩ := hJ
  replace hK := (hK.sub (tys' := []) [] rfl).app (hK1.sub (tys' := []) [] rfl)
  clear hP1 hK1 hD1 hvm ht hS; try clear t
  try clear H
  revert hS1
  intro hS
  generalize H1 = H at hP hS ⊢; try clear H1
  replace hP : va_P (dC, dI) vwCl ([(h0, .inr (15, fs_359)), (q_360, .inr (12, f_361))] ++ pl) H := hP
  replace hD : va_D A ([(h0, .inr (15, fs_359)), (q_360, .inr (12, f_361))] ++ pl) := hD
  replace hK : va_K (dC, dI) vwCl [] s := hK
  refine va_putF (D := (dC, dI)) (ci := 15) (v := .ref q_360) (ty := .object "MotionSignsModel$Big") (C := RX15) (T := TX15) (N := 89) hx hb hts (in_X15_init_X15) tyX15 tyX15_ok nmX15 hown hK hP hD hS 0 rfl rfl 67 (by decide) (hts (.fieldLink RX15 240 "MotionSignsModel" "bound" "LMotionSignsModel$Big;") (List.mem_of_getElem? (i := 70) rfl)) (fun _ h9 => h9) rfl hin rfl (tyX15_ok 67 (by decide)) rfl rfl (mF.lt hF (by decide)) dX15_init_898 ?_
  clear hP hD hS; try clear H
  intro H locs hP hD hS
  have hF1 := mF.pass hF 67 (.ref q_360) (by decide) rfl
  replace hP : va_P (dC, dI) vwCl ([(h0, .inr (15, (fs_359.set 67 (.ref q_360)))), (q_360, .inr (12, f_361))] ++ pl) H := hP
  replace hD : va_D A ([(h0, .inr (15, (fs_359.set 67 (.ref q_360)))), (q_360, .inr (12, f_361))] ++ pl) := hD
  generalize fs_359.set 67 (.ref q_360) = fs_362 at hP hD hF1
  replace hF : mF 89 [(36, .ref q_113), (33, .ref q_99), (31, .ref q_57), (30, .ref q_50), (26, .ref q_47), (20, .int (-1)), (17, .int (-1)), (14, .ref q_39), (13, .ref q_35), (0, .int 0), (18, .int 0), (19, .int 0), (21, .int 0), (22, .int 0), (23, .int 0), (24, .int 0), (25, .int 0), (27, .int 0), (28, .int 0), (29, .int 0), (35, .int 0)] fs_362 := hF1
  clear hF1
  replace hP : va_P (dC, dI) vwCl ([(h0, .inr (15, fs_362)), (q_360, .inr (12, f_361))] ++ pl) H := hP
  replace hD : va_D A ([(h0, .inr (15, fs_362)), (q_360, .inr (12, f_361))] ++ pl) := hD
  replace hP := wm_subP (X' := [(h0, .inr (15, fs_362))]) hP [0] rfl
  replace hD := wm_subD (X' := [(h0, .inr (15, fs_362))]) hD [0] (by decide) rfl
  refine lv_aload_n hx hb dX15_init_901 rfl (lv_at hl 0 rfl) ?_
  refine va_new (ci := 12) (fs := [.null, .int 0, .int 0]) (C := RX12) (T := TX12) (N := 3) hx hb hts (in_X15_init_X12) tyX12 tyX12_ok hown (hts (.classLink RX15 2 RX12) (List.mem_of_getElem? (i := 4) rfl)) (hts (.instantiable RX12 3) (List.mem_of_getElem? (i := 5) rfl)) (hts (.initialized RX12) (List.mem_of_getElem? (i := 6) rfl)) hK hP hD hS hA rfl (fun j hj => by rcases (show j = 0 ∨ j = 1 ∨ j = 2 by omega) with rfl | rfl | rfl <;> rfl) (Nat.le_of_ble_eq_true rfl) (Nat.le_of_ble_eq_true rfl) dX15_init_902 ?_
  clear hP hD hS; try clear H
  intro q_363 H hP hD hS
  replace hP := va_P.swap hP; replace hD := va_D.swap hD
  replace hP : va_P (dC, dI) vwCl ([(h0, .inr (15, fs_362)), (q_363, .inr (12, [.null, .int 0, .int 0]))] ++ pl) H := hP
  replace hD : va_D A ([(h0, .inr (15, fs_362)), (q_363, .inr (12, [.null, .int 0, .int 0]))] ++ pl) := hD
  refine lv_dup hx hb dX15_init_905 rfl ?_
  refine lv_sipush (v := 270) hx hb dX15_init_906 (by decide) ?_
  have hPc := hP.sub (ws' := [(q_363, .inr (12, [.null, .int 0, .int 0]))]) [1] rfl
  have hDc := hD.sub (ws' := [(q_363, .inr (12, [.null, .int 0, .int 0]))]) [1] (by decide) rfl
  have hKc := hK.sub (tys' := []) [] rfl
  have hFc := va_free (wc := [(q_363, .inr (12, [.null, .int 0, .int 0]))]) hD hS hA [1] rfl
  refine va_callv (va_runIN (As := [.int 270]) (rest := [.ref q_363, .ref h0]) ⟨hx, hb, hml, hown, hts⟩ (c_X12_init l dC dI q_363 H.size) ⟨va_cnB 1 hts gM15_X12 rfl rfl rfl (hN.1 (RX15, 95, yX12_init, RX15) (List.mem_of_getElem? (i := 25) rfl)) (hts (.initialized RX12) (List.mem_of_getElem? (i := 6) rfl)) hd_X12_init ⟨Nat.le_of_ble_eq_true rfl, Nat.le_of_ble_eq_true rfl⟩, rfl, (hts (.instanceMethod yX12_init) (List.mem_of_getElem? (i := 89) rfl))⟩ ⟨fun a U g mk q => by obtain ⟨q0, q1, qP, qK, qD, qE0⟩ := q; exact ⟨q0, q1, qP, va_K.moved (u := U) (U := U.calling g mk a) (Vm.Alike.refl U.vm) qK, qD, w_N.same rfl qE0⟩, fun U hU hW => ⟨rfl, by rw [hU], by rw [hU]; exact hPc, va_K.moved hW.alike hKc, hDc.weaken (fun _ _ _ _ => trivial), w_N.warm hW hN⟩⟩ rfl rfl hl.1 rfl (lv_room (Nat.le_of_ble_eq_true rfl)) dX15_init_909 ⟨(Nat.le_of_ble_eq_true rfl), (Nat.le_of_ble_eq_true rfl)⟩) hS (fun q _ h => hFc q h) hFc (fun u t H1 locs1 ht hvm hw hB hz1 hk1 hS1 => ?_)
  obtain ⟨f_364, hP1, hK1, hD1⟩ := hB
  rw [ht] at hP1
  have hK1 := va_K.moved hvm.symm hK1
  have hJ := va_joinQ (wr := [(h0, .inr (15, fs_362))]) (w1 := [(q_363, .inr (12, f_364))]) hP hD [1] [0] rfl rfl (by decide) (by decide) hk1 hFc hP1 hD1
  clear hP hD hPc hDc hKc hFc hz1 hw; try clear hk1
  obtain ⟨hP, hD⟩ := hJ
  replace hK := (hK.sub (tys' := []) [] rfl).app (hK1.sub (tys' := []) [] rfl)
  clear hP1 hK1 hD1 hvm ht hS; try clear t
  try clear H
  revert hS1
  intro hS
  generalize H1 = H at hP hS ⊢; try clear H1
  replace hP : va_P (dC, dI) vwCl ([(h0, .inr (15, fs_362)), (q_363, .inr (12, f_364))] ++ pl) H := hP
  replace hD : va_D A ([(h0, .inr (15, fs_362)), (q_363, .inr (12, f_364))] ++ pl) := hD
  replace hK : va_K (dC, dI) vwCl [] s := hK
  refine va_putF (D := (dC, dI)) (ci := 15) (v := .ref q_363) (ty := .object "MotionSignsModel$Big") (C := RX15) (T := TX15) (N := 89) hx hb hts (in_X15_init_X15) tyX15 tyX15_ok nmX15 hown hK hP hD hS 0 rfl rfl 68 (by decide) (hts (.fieldLink RX15 243 "MotionSignsModel" "c0" "LMotionSignsModel$Big;") (List.mem_of_getElem? (i := 71) rfl)) (fun _ h9 => h9) rfl hin rfl (tyX15_ok 68 (by decide)) rfl rfl (mF.lt hF (by decide)) dX15_init_912 ?_
  clear hP hD hS; try clear H
  intro H locs hP hD hS
  have hF1 := mF.pass hF 68 (.ref q_363) (by decide) rfl
  replace hP : va_P (dC, dI) vwCl ([(h0, .inr (15, (fs_362.set 68 (.ref q_363)))), (q_363, .inr (12, f_364))] ++ pl) H := hP
  replace hD : va_D A ([(h0, .inr (15, (fs_362.set 68 (.ref q_363)))), (q_363, .inr (12, f_364))] ++ pl) := hD
  generalize fs_362.set 68 (.ref q_363) = fs_365 at hP hD hF1
  replace hF : mF 89 [(36, .ref q_113), (33, .ref q_99), (31, .ref q_57), (30, .ref q_50), (26, .ref q_47), (20, .int (-1)), (17, .int (-1)), (14, .ref q_39), (13, .ref q_35), (0, .int 0), (18, .int 0), (19, .int 0), (21, .int 0), (22, .int 0), (23, .int 0), (24, .int 0), (25, .int 0), (27, .int 0), (28, .int 0), (29, .int 0), (35, .int 0)] fs_365 := hF1
  clear hF1
  replace hP : va_P (dC, dI) vwCl ([(h0, .inr (15, fs_365)), (q_363, .inr (12, f_364))] ++ pl) H := hP
  replace hD : va_D A ([(h0, .inr (15, fs_365)), (q_363, .inr (12, f_364))] ++ pl) := hD
  replace hP := wm_subP (X' := [(h0, .inr (15, fs_365))]) hP [0] rfl
  replace hD := wm_subD (X' := [(h0, .inr (15, fs_365))]) hD [0] (by decide) rfl
  refine lv_aload_n hx hb dX15_init_915 rfl (lv_at hl 0 rfl) ?_
  refine va_new (ci := 12) (fs := [.null, .int 0, .int 0]) (C := RX12) (T := TX12) (N := 3) hx hb hts (in_X15_init_X12) tyX12 tyX12_ok hown (hts (.classLink RX15 2 RX12) (List.mem_of_getElem? (i := 4) rfl)) (hts (.instantiable RX12 3) (List.mem_of_getElem? (i := 5) rfl)) (hts (.initialized RX12) (List.mem_of_getElem? (i := 6) rfl)) hK hP hD hS hA rfl (fun j hj => by rcases (show j = 0 ∨ j = 1 ∨ j = 2 by omega) with rfl | rfl | rfl <;> rfl) (Nat.le_of_ble_eq_true rfl) (Nat.le_of_ble_eq_true rfl) dX15_init_916 ?_
  clear hP hD hS; try clear H
  intro q_366 H hP hD hS
  replace hP := va_P.swap hP; replace hD := va_D.swap hD
  replace hP : va_P (dC, dI) vwCl ([(h0, .inr (15, fs_365)), (q_366, .inr (12, [.null, .int 0, .int 0]))] ++ pl) H := hP
  replace hD : va_D A ([(h0, .inr (15, fs_365)), (q_366, .inr (12, [.null, .int 0, .int 0]))] ++ pl) := hD
  refine lv_dup hx hb dX15_init_919 rfl ?_
  refine lv_sipush (v := 270) hx hb dX15_init_920 (by decide) ?_
  have hPc := hP.sub (ws' := [(q_366, .inr (12, [.null, .int 0, .int 0]))]) [1] rfl
  have hDc := hD.sub (ws' := [(q_366, .inr (12, [.null, .int 0, .int 0]))]) [1] (by decide) rfl
  have hKc := hK.sub (tys' := []) [] rfl
  have hFc := va_free (wc := [(q_366, .inr (12, [.null, .int 0, .int 0]))]) hD hS hA [1] rfl
  refine va_callv (va_runIN (As := [.int 270]) (rest := [.ref q_366, .ref h0]) ⟨hx, hb, hml, hown, hts⟩ (c_X12_init l dC dI q_366 H.size) ⟨va_cnB 1 hts gM15_X12 rfl rfl rfl (hN.1 (RX15, 95, yX12_init, RX15) (List.mem_of_getElem? (i := 25) rfl)) (hts (.initialized RX12) (List.mem_of_getElem? (i := 6) rfl)) hd_X12_init ⟨Nat.le_of_ble_eq_true rfl, Nat.le_of_ble_eq_true rfl⟩, rfl, (hts (.instanceMethod yX12_init) (List.mem_of_getElem? (i := 89) rfl))⟩ ⟨fun a U g mk q => by obtain ⟨q0, q1, qP, qK, qD, qE0⟩ := q; exact ⟨q0, q1, qP, va_K.moved (u := U) (U := U.calling g mk a) (Vm.Alike.refl U.vm) qK, qD, w_N.same rfl qE0⟩, fun U hU hW => ⟨rfl, by rw [hU], by rw [hU]; exact hPc, va_K.moved hW.alike hKc, hDc.weaken (fun _ _ _ _ => trivial), w_N.warm hW hN⟩⟩ rfl rfl hl.1 rfl (lv_room (Nat.le_of_ble_eq_true rfl)) dX15_init_923 ⟨(Nat.le_of_ble_eq_true rfl), (Nat.le_of_ble_eq_true rfl)⟩) hS (fun q _ h => hFc q h) hFc (fun u t H1 locs1 ht hvm hw hB hz1 hk1 hS1 => ?_)
  obtain ⟨f_367, hP1, hK1, hD1⟩ := hB
  rw [ht] at hP1
  have hK1 := va_K.moved hvm.symm hK1
  have hJ := va_joinQ (wr := [(h0, .inr (15, fs_365))]) (w1 := [(q_366, .inr (12, f_367))]) hP hD [1] [0] rfl rfl (by decide) (by decide) hk1 hFc hP1 hD1
  clear hP hD hPc hDc hKc hFc hz1 hw; try clear hk1
  obtain ⟨hP, hD⟩ := hJ
  replace hK := (hK.sub (tys' := []) [] rfl).app (hK1.sub (tys' := []) [] rfl)
  clear hP1 hK1 hD1 hvm ht hS; try clear t
  try clear H
  revert hS1
  intro hS
  generalize H1 = H at hP hS ⊢; try clear H1
  replace hP : va_P (dC, dI) vwCl ([(h0, .inr (15, fs_365)), (q_366, .inr (12, f_367))] ++ pl) H := hP
  replace hD : va_D A ([(h0, .inr (15, fs_365)), (q_366, .inr (12, f_367))] ++ pl) := hD
  replace hK : va_K (dC, dI) vwCl [] s := hK
  refine va_putF (D := (dC, dI)) (ci := 15) (v := .ref q_366) (ty := .object "MotionSignsModel$Big") (C := RX15) (T := TX15) (N := 89) hx hb hts (in_X15_init_X15) tyX15 tyX15_ok nmX15 hown hK hP hD hS 0 rfl rfl 69 (by decide) (hts (.fieldLink RX15 246 "MotionSignsModel" "c1" "LMotionSignsModel$Big;") (List.mem_of_getElem? (i := 72) rfl)) (fun _ h9 => h9) rfl hin rfl (tyX15_ok 69 (by decide)) rfl rfl (mF.lt hF (by decide)) dX15_init_926 ?_
  clear hP hD hS; try clear H
  intro H locs hP hD hS
  have hF1 := mF.pass hF 69 (.ref q_366) (by decide) rfl
  replace hP : va_P (dC, dI) vwCl ([(h0, .inr (15, (fs_365.set 69 (.ref q_366)))), (q_366, .inr (12, f_367))] ++ pl) H := hP
  replace hD : va_D A ([(h0, .inr (15, (fs_365.set 69 (.ref q_366)))), (q_366, .inr (12, f_367))] ++ pl) := hD
  generalize fs_365.set 69 (.ref q_366) = fs_368 at hP hD hF1
  replace hF : mF 89 [(36, .ref q_113), (33, .ref q_99), (31, .ref q_57), (30, .ref q_50), (26, .ref q_47), (20, .int (-1)), (17, .int (-1)), (14, .ref q_39), (13, .ref q_35), (0, .int 0), (18, .int 0), (19, .int 0), (21, .int 0), (22, .int 0), (23, .int 0), (24, .int 0), (25, .int 0), (27, .int 0), (28, .int 0), (29, .int 0), (35, .int 0)] fs_368 := hF1
  clear hF1
  replace hP : va_P (dC, dI) vwCl ([(h0, .inr (15, fs_368)), (q_366, .inr (12, f_367))] ++ pl) H := hP
  replace hD : va_D A ([(h0, .inr (15, fs_368)), (q_366, .inr (12, f_367))] ++ pl) := hD
  replace hP := wm_subP (X' := [(h0, .inr (15, fs_368))]) hP [0] rfl
  replace hD := wm_subD (X' := [(h0, .inr (15, fs_368))]) hD [0] (by decide) rfl
  refine lv_aload_n hx hb dX15_init_929 rfl (lv_at hl 0 rfl) ?_
  refine va_new (ci := 12) (fs := [.null, .int 0, .int 0]) (C := RX12) (T := TX12) (N := 3) hx hb hts (in_X15_init_X12) tyX12 tyX12_ok hown (hts (.classLink RX15 2 RX12) (List.mem_of_getElem? (i := 4) rfl)) (hts (.instantiable RX12 3) (List.mem_of_getElem? (i := 5) rfl)) (hts (.initialized RX12) (List.mem_of_getElem? (i := 6) rfl)) hK hP hD hS hA rfl (fun j hj => by rcases (show j = 0 ∨ j = 1 ∨ j = 2 by omega) with rfl | rfl | rfl <;> rfl) (Nat.le_of_ble_eq_true rfl) (Nat.le_of_ble_eq_true rfl) dX15_init_930 ?_
  clear hP hD hS; try clear H
  intro q_369 H hP hD hS
  replace hP := va_P.swap hP; replace hD := va_D.swap hD
  replace hP : va_P (dC, dI) vwCl ([(h0, .inr (15, fs_368)), (q_369, .inr (12, [.null, .int 0, .int 0]))] ++ pl) H := hP
  replace hD : va_D A ([(h0, .inr (15, fs_368)), (q_369, .inr (12, [.null, .int 0, .int 0]))] ++ pl) := hD
  refine lv_dup hx hb dX15_init_933 rfl ?_
  refine lv_sipush (v := 270) hx hb dX15_init_934 (by decide) ?_
  have hPc := hP.sub (ws' := [(q_369, .inr (12, [.null, .int 0, .int 0]))]) [1] rfl
  have hDc := hD.sub (ws' := [(q_369, .inr (12, [.null, .int 0, .int 0]))]) [1] (by decide) rfl
  have hKc := hK.sub (tys' := []) [] rfl
  have hFc := va_free (wc := [(q_369, .inr (12, [.null, .int 0, .int 0]))]) hD hS hA [1] rfl
  refine va_callv (va_runIN (As := [.int 270]) (rest := [.ref q_369, .ref h0]) ⟨hx, hb, hml, hown, hts⟩ (c_X12_init l dC dI q_369 H.size) ⟨va_cnB 1 hts gM15_X12 rfl rfl rfl (hN.1 (RX15, 95, yX12_init, RX15) (List.mem_of_getElem? (i := 25) rfl)) (hts (.initialized RX12) (List.mem_of_getElem? (i := 6) rfl)) hd_X12_init ⟨Nat.le_of_ble_eq_true rfl, Nat.le_of_ble_eq_true rfl⟩, rfl, (hts (.instanceMethod yX12_init) (List.mem_of_getElem? (i := 89) rfl))⟩ ⟨fun a U g mk q => by obtain ⟨q0, q1, qP, qK, qD, qE0⟩ := q; exact ⟨q0, q1, qP, va_K.moved (u := U) (U := U.calling g mk a) (Vm.Alike.refl U.vm) qK, qD, w_N.same rfl qE0⟩, fun U hU hW => ⟨rfl, by rw [hU], by rw [hU]; exact hPc, va_K.moved hW.alike hKc, hDc.weaken (fun _ _ _ _ => trivial), w_N.warm hW hN⟩⟩ rfl rfl hl.1 rfl (lv_room (Nat.le_of_ble_eq_true rfl)) dX15_init_937 ⟨(Nat.le_of_ble_eq_true rfl), (Nat.le_of_ble_eq_true rfl)⟩) hS (fun q _ h => hFc q h) hFc (fun u t H1 locs1 ht hvm hw hB hz1 hk1 hS1 => ?_)
  obtain ⟨f_370, hP1, hK1, hD1⟩ := hB
  rw [ht] at hP1
  have hK1 := va_K.moved hvm.symm hK1
  have hJ := va_joinQ (wr := [(h0, .inr (15, fs_368))]) (w1 := [(q_369, .inr (12, f_370))]) hP hD [1] [0] rfl rfl (by decide) (by decide) hk1 hFc hP1 hD1
  clear hP hD hPc hDc hKc hFc hz1 hw; try clear hk1
  obtain ⟨hP, hD⟩ := hJ
  replace hK := (hK.sub (tys' := []) [] rfl).app (hK1.sub (tys' := []) [] rfl)
  clear hP1 hK1 hD1 hvm ht hS; try clear t
  try clear H
  revert hS1
  intro hS
  generalize H1 = H at hP hS ⊢; try clear H1
  replace hP : va_P (dC, dI) vwCl ([(h0, .inr (15, fs_368)), (q_369, .inr (12, f_370))] ++ pl) H := hP
  replace hD : va_D A ([(h0, .inr (15, fs_368)), (q_369, .inr (12, f_370))] ++ pl) := hD
  replace hK : va_K (dC, dI) vwCl [] s := hK
  refine va_putF (D := (dC, dI)) (ci := 15) (v := .ref q_369) (ty := .object "MotionSignsModel$Big") (C := RX15) (T := TX15) (N := 89) hx hb hts (in_X15_init_X15) tyX15 tyX15_ok nmX15 hown hK hP hD hS 0 rfl rfl 70 (by decide) (hts (.fieldLink RX15 249 "MotionSignsModel" "c2" "LMotionSignsModel$Big;") (List.mem_of_getElem? (i := 73) rfl)) (fun _ h9 => h9) rfl hin rfl (tyX15_ok 70 (by decide)) rfl rfl (mF.lt hF (by decide)) dX15_init_940 ?_
  clear hP hD hS; try clear H
  intro H locs hP hD hS
  have hF1 := mF.pass hF 70 (.ref q_369) (by decide) rfl
  replace hP : va_P (dC, dI) vwCl ([(h0, .inr (15, (fs_368.set 70 (.ref q_369)))), (q_369, .inr (12, f_370))] ++ pl) H := hP
  replace hD : va_D A ([(h0, .inr (15, (fs_368.set 70 (.ref q_369)))), (q_369, .inr (12, f_370))] ++ pl) := hD
  generalize fs_368.set 70 (.ref q_369) = fs_371 at hP hD hF1
  replace hF : mF 89 [(36, .ref q_113), (33, .ref q_99), (31, .ref q_57), (30, .ref q_50), (26, .ref q_47), (20, .int (-1)), (17, .int (-1)), (14, .ref q_39), (13, .ref q_35), (0, .int 0), (18, .int 0), (19, .int 0), (21, .int 0), (22, .int 0), (23, .int 0), (24, .int 0), (25, .int 0), (27, .int 0), (28, .int 0), (29, .int 0), (35, .int 0)] fs_371 := hF1
  clear hF1
  replace hP : va_P (dC, dI) vwCl ([(h0, .inr (15, fs_371)), (q_369, .inr (12, f_370))] ++ pl) H := hP
  replace hD : va_D A ([(h0, .inr (15, fs_371)), (q_369, .inr (12, f_370))] ++ pl) := hD
  replace hP := wm_subP (X' := [(h0, .inr (15, fs_371))]) hP [0] rfl
  replace hD := wm_subD (X' := [(h0, .inr (15, fs_371))]) hD [0] (by decide) rfl
  refine lv_aload_n hx hb dX15_init_943 rfl (lv_at hl 0 rfl) ?_
  refine va_new (ci := 12) (fs := [.null, .int 0, .int 0]) (C := RX12) (T := TX12) (N := 3) hx hb hts (in_X15_init_X12) tyX12 tyX12_ok hown (hts (.classLink RX15 2 RX12) (List.mem_of_getElem? (i := 4) rfl)) (hts (.instantiable RX12 3) (List.mem_of_getElem? (i := 5) rfl)) (hts (.initialized RX12) (List.mem_of_getElem? (i := 6) rfl)) hK hP hD hS hA rfl (fun j hj => by rcases (show j = 0 ∨ j = 1 ∨ j = 2 by omega) with rfl | rfl | rfl <;> rfl) (Nat.le_of_ble_eq_true rfl) (Nat.le_of_ble_eq_true rfl) dX15_init_944 ?_
  clear hP hD hS; try clear H
  intro q_372 H hP hD hS
  replace hP := va_P.swap hP; replace hD := va_D.swap hD
  replace hP : va_P (dC, dI) vwCl ([(h0, .inr (15, fs_371)), (q_372, .inr (12, [.null, .int 0, .int 0]))] ++ pl) H := hP
  replace hD : va_D A ([(h0, .inr (15, fs_371)), (q_372, .inr (12, [.null, .int 0, .int 0]))] ++ pl) := hD
  refine lv_dup hx hb dX15_init_947 rfl ?_
  refine lv_sipush (v := 270) hx hb dX15_init_948 (by decide) ?_
  have hPc := hP.sub (ws' := [(q_372, .inr (12, [.null, .int 0, .int 0]))]) [1] rfl
  have hDc := hD.sub (ws' := [(q_372, .inr (12, [.null, .int 0, .int 0]))]) [1] (by decide) rfl
  have hKc := hK.sub (tys' := []) [] rfl
  have hFc := va_free (wc := [(q_372, .inr (12, [.null, .int 0, .int 0]))]) hD hS hA [1] rfl
  refine va_callv (va_runIN (As := [.int 270]) (rest := [.ref q_372, .ref h0]) ⟨hx, hb, hml, hown, hts⟩ (c_X12_init l dC dI q_372 H.size) ⟨va_cnB 1 hts gM15_X12 rfl rfl rfl (hN.1 (RX15, 95, yX12_init, RX15) (List.mem_of_getElem? (i := 25) rfl)) (hts (.initialized RX12) (List.mem_of_getElem? (i := 6) rfl)) hd_X12_init ⟨Nat.le_of_ble_eq_true rfl, Nat.le_of_ble_eq_true rfl⟩, rfl, (hts (.instanceMethod yX12_init) (List.mem_of_getElem? (i := 89) rfl))⟩ ⟨fun a U g mk q => by obtain ⟨q0, q1, qP, qK, qD, qE0⟩ := q; exact ⟨q0, q1, qP, va_K.moved (u := U) (U := U.calling g mk a) (Vm.Alike.refl U.vm) qK, qD, w_N.same rfl qE0⟩, fun U hU hW => ⟨rfl, by rw [hU], by rw [hU]; exact hPc, va_K.moved hW.alike hKc, hDc.weaken (fun _ _ _ _ => trivial), w_N.warm hW hN⟩⟩ rfl rfl hl.1 rfl (lv_room (Nat.le_of_ble_eq_true rfl)) dX15_init_951 ⟨(Nat.le_of_ble_eq_true rfl), (Nat.le_of_ble_eq_true rfl)⟩) hS (fun q _ h => hFc q h) hFc (fun u t H1 locs1 ht hvm hw hB hz1 hk1 hS1 => ?_)
  obtain ⟨f_373, hP1, hK1, hD1⟩ := hB
  rw [ht] at hP1
  have hK1 := va_K.moved hvm.symm hK1
  have hJ := va_joinQ (wr := [(h0, .inr (15, fs_371))]) (w1 := [(q_372, .inr (12, f_373))]) hP hD [1] [0] rfl rfl (by decide) (by decide) hk1 hFc hP1 hD1
  clear hP hD hPc hDc hKc hFc hz1 hw; try clear hk1
  obtain ⟨hP, hD⟩ := hJ
  replace hK := (hK.sub (tys' := []) [] rfl).app (hK1.sub (tys' := []) [] rfl)
  clear hP1 hK1 hD1 hvm ht hS; try clear t
  try clear H
  revert hS1
  intro hS
  generalize H1 = H at hP hS ⊢; try clear H1
  replace hP : va_P (dC, dI) vwCl ([(h0, .inr (15, fs_371)), (q_372, .inr (12, f_373))] ++ pl) H := hP
  replace hD : va_D A ([(h0, .inr (15, fs_371)), (q_372, .inr (12, f_373))] ++ pl) := hD
  replace hK : va_K (dC, dI) vwCl [] s := hK
  refine va_putF (D := (dC, dI)) (ci := 15) (v := .ref q_372) (ty := .object "MotionSignsModel$Big") (C := RX15) (T := TX15) (N := 89) hx hb hts (in_X15_init_X15) tyX15 tyX15_ok nmX15 hown hK hP hD hS 0 rfl rfl 71 (by decide) (hts (.fieldLink RX15 252 "MotionSignsModel" "c3" "LMotionSignsModel$Big;") (List.mem_of_getElem? (i := 74) rfl)) (fun _ h9 => h9) rfl hin rfl (tyX15_ok 71 (by decide)) rfl rfl (mF.lt hF (by decide)) dX15_init_954 ?_
  clear hP hD hS; try clear H
  intro H locs hP hD hS
  have hF1 := mF.pass hF 71 (.ref q_372) (by decide) rfl
  replace hP : va_P (dC, dI) vwCl ([(h0, .inr (15, (fs_371.set 71 (.ref q_372)))), (q_372, .inr (12, f_373))] ++ pl) H := hP
  replace hD : va_D A ([(h0, .inr (15, (fs_371.set 71 (.ref q_372)))), (q_372, .inr (12, f_373))] ++ pl) := hD
  generalize fs_371.set 71 (.ref q_372) = fs_374 at hP hD hF1
  replace hF : mF 89 [(36, .ref q_113), (33, .ref q_99), (31, .ref q_57), (30, .ref q_50), (26, .ref q_47), (20, .int (-1)), (17, .int (-1)), (14, .ref q_39), (13, .ref q_35), (0, .int 0), (18, .int 0), (19, .int 0), (21, .int 0), (22, .int 0), (23, .int 0), (24, .int 0), (25, .int 0), (27, .int 0), (28, .int 0), (29, .int 0), (35, .int 0)] fs_374 := hF1
  clear hF1
  replace hP : va_P (dC, dI) vwCl ([(h0, .inr (15, fs_374)), (q_372, .inr (12, f_373))] ++ pl) H := hP
  replace hD : va_D A ([(h0, .inr (15, fs_374)), (q_372, .inr (12, f_373))] ++ pl) := hD
  replace hP := wm_subP (X' := [(h0, .inr (15, fs_374))]) hP [0] rfl
  replace hD := wm_subD (X' := [(h0, .inr (15, fs_374))]) hD [0] (by decide) rfl
  exact kont fs_374 H locs ls hP hD hK hS hl hF
set_option maxHeartbeats 40000000 in
set_option maxRecDepth 100000 in
/-- the reference: MotionSignsModel(), rows 957 to 1020 -/
theorem c_X15_init_s11 {p : Program} {l : Launch} {e : Env} {s : State} {m : MethodId} {below : List Frame} {meth : Method} {c : Code} {A : Nat → Prop} {Q0 : State → Prop} {dC : Nat → ClassId} {dI : Nat → Nat → Nat} {h0 : Nat} {fs_374 : List Value} {q_113 : Nat} {q_99 : Nat} {q_57 : Nat} {q_50 : Nat} {q_47 : Nat} {q_39 : Nat} {q_35 : Nat} (hx : p.tables.exec = Jvm.exec) (hb : c.code = cX15_init) (hml : c.maxLocals = 3) (hts : ∀ w ∈ wsM15, w.before ([.ref h0] : List Value).toArray s = true) (hown : s.vm.findClass RX15 = some m.cls) (hin : meth.name = "<init>") (hA : ∀ q : Nat, s.heap.size ≤ q → A q) (hN : w_N s) (pl : va_W) {H : Heap} {locs : List Loc} {ls : Array Slot} (hP : va_P (dC, dI) vwCl ([(h0, .inr (15, fs_374))] ++ pl) H) (hD : va_D A ([(h0, .inr (15, fs_374))] ++ pl)) (hK : va_K (dC, dI) vwCl [] s) (hS : va_S A s.heap H locs) (hl : lv_has ls 3 [(0, .ref h0)]) (hF : mF 89 [(36, .ref q_113), (33, .ref q_99), (31, .ref q_57), (30, .ref q_50), (26, .ref q_47), (20, .int (-1)), (17, .int (-1)), (14, .ref q_39), (13, .ref q_35), (0, .int 0), (18, .int 0), (19, .int 0), (21, .int 0), (22, .int 0), (23, .int 0), (24, .int 0), (25, .int 0), (27, .int 0), (28, .int 0), (29, .int 0), (35, .int 0)] fs_374) (kont : ∀ (fs_386 : List Value) (H : Heap) (locs : List Loc) (ls : Array Slot), va_P (dC, dI) vwCl ([(h0, .inr (15, fs_386))] ++ pl) H → va_D A ([(h0, .inr (15, fs_386))] ++ pl) → va_K (dC, dI) vwCl [] s → va_S A s.heap H locs → lv_has ls 3 [(0, .ref h0)] → mF 89 [(36, .ref q_113), (33, .ref q_99), (31, .ref q_57), (30, .ref q_50), (26, .ref q_47), (20, .int (-1)), (17, .int (-1)), (14, .ref q_39), (13, .ref q_35), (0, .int 0), (18, .int 0), (19, .int 0), (21, .int 0), (22, .int 0), (23, .int 0), (24, .int 0), (25, .int 0), (27, .int 0), (28, .int 0), (29, .int 0), (35, .int 0)] fs_386 → W p l e ({ frames := 3, cells := 7193, slots := 3261971, locals := 56 } : Room) s m ([.ref h0] : List Value).toArray below meth c H locs 4988 2921004 Q0 (F0 m 1020 ls [])) : W p l e ({ frames := 3, cells := 7193, slots := 3261971, locals := 56 } : Room) s m ([.ref h0] : List Value).toArray below meth c H locs 4912 2919866 Q0 (F0 m 957 ls []) := by
  refine lv_aload_n hx hb dX15_init_957 rfl (lv_at hl 0 rfl) ?_
  refine lv_bipush (v := 30) hx hb dX15_init_958 (by decide) ?_
  refine lv_bipush (v := 30) hx hb dX15_init_960 (by decide) ?_
  refine wm_mna2 (nm1 := "[LMotionSignsModel$Big;") (t0 := .array (.object "MotionSignsModel$Big")) (type := .object "MotionSignsModel$Big") (N' := 30) (K' := 30) hx hb hown (hts (.classLink RX15 113 "[[LMotionSignsModel$Big;") (List.mem_of_getElem? (i := 209) rfl)) (hN.2.2.2.2.2.2.2.2.2.1) (hN.2.2.2.2.2.2.2.2.1) rfl rfl hP hD hS (by decide) (by decide) (by decide) (by decide) (Nat.le_of_ble_eq_true rfl) (Nat.le_of_ble_eq_true rfl) (Nat.le_of_ble_eq_true rfl) rfl rfl (Nat.le_of_ble_eq_true rfl) (Nat.le_of_ble_eq_true rfl) dX15_init_962 ?_
  clear hP hD hS; try clear H
  intro q_375 H hP hD hS
  replace hP : va_P (dC, dI) vwCl ([(h0, .inr (15, fs_374))] ++ pl) H := hP
  replace hD : va_D A ([(h0, .inr (15, fs_374))] ++ pl) := hD
  refine va_putF (D := (dC, dI)) (ci := 15) (v := .ref q_375) (ty := .array (.array (.object "MotionSignsModel$Big"))) (C := RX15) (T := TX15) (N := 89) hx hb hts (in_X15_init_X15) tyX15 tyX15_ok nmX15 hown hK hP hD hS 0 rfl rfl 72 (by decide) (hts (.fieldLink RX15 255 "MotionSignsModel" "spanned" "[[LMotionSignsModel$Big;") (List.mem_of_getElem? (i := 75) rfl)) (fun _ h9 => h9) rfl hin rfl (tyX15_ok 72 (by decide)) rfl rfl (mF.lt hF (by decide)) dX15_init_966 ?_
  clear hP hD hS; try clear H
  intro H locs hP hD hS
  have hF1 := mF.pass hF 72 (.ref q_375) (by decide) rfl
  replace hP : va_P (dC, dI) vwCl ([(h0, .inr (15, (fs_374.set 72 (.ref q_375))))] ++ pl) H := hP
  replace hD : va_D A ([(h0, .inr (15, (fs_374.set 72 (.ref q_375))))] ++ pl) := hD
  generalize fs_374.set 72 (.ref q_375) = fs_376 at hP hD hF1
  replace hF : mF 89 [(36, .ref q_113), (33, .ref q_99), (31, .ref q_57), (30, .ref q_50), (26, .ref q_47), (20, .int (-1)), (17, .int (-1)), (14, .ref q_39), (13, .ref q_35), (0, .int 0), (18, .int 0), (19, .int 0), (21, .int 0), (22, .int 0), (23, .int 0), (24, .int 0), (25, .int 0), (27, .int 0), (28, .int 0), (29, .int 0), (35, .int 0)] fs_376 := hF1
  clear hF1
  replace hP : va_P (dC, dI) vwCl ([(h0, .inr (15, fs_376))] ++ pl) H := hP
  replace hD : va_D A ([(h0, .inr (15, fs_376))] ++ pl) := hD
  refine lv_aload_n hx hb dX15_init_969 rfl (lv_at hl 0 rfl) ?_
  refine lv_iconst (v := 3) hx hb dX15_init_970 (by decide) ?_
  refine lv_iconst (v := 3) hx hb dX15_init_971 (by decide) ?_
  refine wm_mna2 (nm1 := "[I") (t0 := .array (.int)) (type := .int) (N' := 3) (K' := 3) hx hb hown (hts (.classLink RX15 258 "[[I") (List.mem_of_getElem? (i := 76) rfl)) (hN.2.2.2.2.2.2.2.1) (hN.2.2.2.2.2.2.1) rfl rfl hP hD hS (by decide) (by decide) (by decide) (by decide) (Nat.le_of_ble_eq_true rfl) (Nat.le_of_ble_eq_true rfl) (Nat.le_of_ble_eq_true rfl) rfl rfl (Nat.le_of_ble_eq_true rfl) (Nat.le_of_ble_eq_true rfl) dX15_init_972 ?_
  clear hP hD hS; try clear H
  intro q_377 H hP hD hS
  replace hP : va_P (dC, dI) vwCl ([(h0, .inr (15, fs_376))] ++ pl) H := hP
  replace hD : va_D A ([(h0, .inr (15, fs_376))] ++ pl) := hD
  refine va_putF (D := (dC, dI)) (ci := 15) (v := .ref q_377) (ty := .array (.array .int)) (C := RX15) (T := TX15) (N := 89) hx hb hts (in_X15_init_X15) tyX15 tyX15_ok nmX15 hown hK hP hD hS 0 rfl rfl 73 (by decide) (hts (.fieldLink RX15 260 "MotionSignsModel" "stretch" "[[I") (List.mem_of_getElem? (i := 77) rfl)) (fun _ h9 => h9) rfl hin rfl (tyX15_ok 73 (by decide)) rfl rfl (mF.lt hF (by decide)) dX15_init_976 ?_
  clear hP hD hS; try clear H
  intro H locs hP hD hS
  have hF1 := mF.pass hF 73 (.ref q_377) (by decide) rfl
  replace hP : va_P (dC, dI) vwCl ([(h0, .inr (15, (fs_376.set 73 (.ref q_377))))] ++ pl) H := hP
  replace hD : va_D A ([(h0, .inr (15, (fs_376.set 73 (.ref q_377))))] ++ pl) := hD
  generalize fs_376.set 73 (.ref q_377) = fs_378 at hP hD hF1
  replace hF : mF 89 [(36, .ref q_113), (33, .ref q_99), (31, .ref q_57), (30, .ref q_50), (26, .ref q_47), (20, .int (-1)), (17, .int (-1)), (14, .ref q_39), (13, .ref q_35), (0, .int 0), (18, .int 0), (19, .int 0), (21, .int 0), (22, .int 0), (23, .int 0), (24, .int 0), (25, .int 0), (27, .int 0), (28, .int 0), (29, .int 0), (35, .int 0)] fs_378 := hF1
  clear hF1
  replace hP : va_P (dC, dI) vwCl ([(h0, .inr (15, fs_378))] ++ pl) H := hP
  replace hD : va_D A ([(h0, .inr (15, fs_378))] ++ pl) := hD
  refine lv_aload_n hx hb dX15_init_979 rfl (lv_at hl 0 rfl) ?_
  refine lv_iconst (v := 3) hx hb dX15_init_980 (by decide) ?_
  refine lv_iconst (v := 3) hx hb dX15_init_981 (by decide) ?_
  refine wm_mna2 (nm1 := "[I") (t0 := .array (.int)) (type := .int) (N' := 3) (K' := 3) hx hb hown (hts (.classLink RX15 258 "[[I") (List.mem_of_getElem? (i := 76) rfl)) (hN.2.2.2.2.2.2.2.1) (hN.2.2.2.2.2.2.1) rfl rfl hP hD hS (by decide) (by decide) (by decide) (by decide) (Nat.le_of_ble_eq_true rfl) (Nat.le_of_ble_eq_true rfl) (Nat.le_of_ble_eq_true rfl) rfl rfl (Nat.le_of_ble_eq_true rfl) (Nat.le_of_ble_eq_true rfl) dX15_init_982 ?_
  clear hP hD hS; try clear H
  intro q_379 H hP hD hS
  replace hP : va_P (dC, dI) vwCl ([(h0, .inr (15, fs_378))] ++ pl) H := hP
  replace hD : va_D A ([(h0, .inr (15, fs_378))] ++ pl) := hD
  refine va_putF (D := (dC, dI)) (ci := 15) (v := .ref q_379) (ty := .array (.array .int)) (C := RX15) (T := TX15) (N := 89) hx hb hts (in_X15_init_X15) tyX15 tyX15_ok nmX15 hown hK hP hD hS 0 rfl rfl 74 (by decide) (hts (.fieldLink RX15 263 "MotionSignsModel" "keeps" "[[I") (List.mem_of_getElem? (i := 78) rfl)) (fun _ h9 => h9) rfl hin rfl (tyX15_ok 74 (by decide)) rfl rfl (mF.lt hF (by decide)) dX15_init_986 ?_
  clear hP hD hS; try clear H
  intro H locs hP hD hS
  have hF1 := mF.pass hF 74 (.ref q_379) (by decide) rfl
  replace hP : va_P (dC, dI) vwCl ([(h0, .inr (15, (fs_378.set 74 (.ref q_379))))] ++ pl) H := hP
  replace hD : va_D A ([(h0, .inr (15, (fs_378.set 74 (.ref q_379))))] ++ pl) := hD
  generalize fs_378.set 74 (.ref q_379) = fs_380 at hP hD hF1
  replace hF : mF 89 [(36, .ref q_113), (33, .ref q_99), (31, .ref q_57), (30, .ref q_50), (26, .ref q_47), (20, .int (-1)), (17, .int (-1)), (14, .ref q_39), (13, .ref q_35), (0, .int 0), (18, .int 0), (19, .int 0), (21, .int 0), (22, .int 0), (23, .int 0), (24, .int 0), (25, .int 0), (27, .int 0), (28, .int 0), (29, .int 0), (35, .int 0)] fs_380 := hF1
  clear hF1
  replace hP : va_P (dC, dI) vwCl ([(h0, .inr (15, fs_380))] ++ pl) H := hP
  replace hD : va_D A ([(h0, .inr (15, fs_380))] ++ pl) := hD
  refine lv_aload_n hx hb dX15_init_989 rfl (lv_at hl 0 rfl) ?_
  refine lv_iconst (v := 5) hx hb dX15_init_990 (by decide) ?_
  refine lv_iconst (v := 5) hx hb dX15_init_991 (by decide) ?_
  refine wm_mna2 (nm1 := "[J") (t0 := .array (.long)) (type := .long) (N' := 5) (K' := 5) hx hb hown (hts (.classLink RX15 207 "[[J") (List.mem_of_getElem? (i := 59) rfl)) (hN.2.2.2.2.1) (hN.2.2.2.1) rfl rfl hP hD hS (by decide) (by decide) (by decide) (by decide) (Nat.le_of_ble_eq_true rfl) (Nat.le_of_ble_eq_true rfl) (Nat.le_of_ble_eq_true rfl) rfl rfl (Nat.le_of_ble_eq_true rfl) (Nat.le_of_ble_eq_true rfl) dX15_init_992 ?_
  clear hP hD hS; try clear H
  intro q_381 H hP hD hS
  replace hP : va_P (dC, dI) vwCl ([(h0, .inr (15, fs_380))] ++ pl) H := hP
  replace hD : va_D A ([(h0, .inr (15, fs_380))] ++ pl) := hD
  refine va_putF (D := (dC, dI)) (ci := 15) (v := .ref q_381) (ty := .array (.array .long)) (C := RX15) (T := TX15) (N := 89) hx hb hts (in_X15_init_X15) tyX15 tyX15_ok nmX15 hown hK hP hD hS 0 rfl rfl 77 (by decide) (hts (.fieldLink RX15 266 "MotionSignsModel" "told5" "[[J") (List.mem_of_getElem? (i := 79) rfl)) (fun _ h9 => h9) rfl hin rfl (tyX15_ok 77 (by decide)) rfl rfl (mF.lt hF (by decide)) dX15_init_996 ?_
  clear hP hD hS; try clear H
  intro H locs hP hD hS
  have hF1 := mF.pass hF 77 (.ref q_381) (by decide) rfl
  replace hP : va_P (dC, dI) vwCl ([(h0, .inr (15, (fs_380.set 77 (.ref q_381))))] ++ pl) H := hP
  replace hD : va_D A ([(h0, .inr (15, (fs_380.set 77 (.ref q_381))))] ++ pl) := hD
  generalize fs_380.set 77 (.ref q_381) = fs_382 at hP hD hF1
  replace hF : mF 89 [(36, .ref q_113), (33, .ref q_99), (31, .ref q_57), (30, .ref q_50), (26, .ref q_47), (20, .int (-1)), (17, .int (-1)), (14, .ref q_39), (13, .ref q_35), (0, .int 0), (18, .int 0), (19, .int 0), (21, .int 0), (22, .int 0), (23, .int 0), (24, .int 0), (25, .int 0), (27, .int 0), (28, .int 0), (29, .int 0), (35, .int 0)] fs_382 := hF1
  clear hF1
  replace hP : va_P (dC, dI) vwCl ([(h0, .inr (15, fs_382))] ++ pl) H := hP
  replace hD : va_D A ([(h0, .inr (15, fs_382))] ++ pl) := hD
  refine lv_aload_n hx hb dX15_init_999 rfl (lv_at hl 0 rfl) ?_
  refine lv_iconst (v := 5) hx hb dX15_init_1000 (by decide) ?_
  refine lv_iconst (v := 5) hx hb dX15_init_1001 (by decide) ?_
  refine wm_mna2 (nm1 := "[J") (t0 := .array (.long)) (type := .long) (N' := 5) (K' := 5) hx hb hown (hts (.classLink RX15 207 "[[J") (List.mem_of_getElem? (i := 59) rfl)) (hN.2.2.2.2.1) (hN.2.2.2.1) rfl rfl hP hD hS (by decide) (by decide) (by decide) (by decide) (Nat.le_of_ble_eq_true rfl) (Nat.le_of_ble_eq_true rfl) (Nat.le_of_ble_eq_true rfl) rfl rfl (Nat.le_of_ble_eq_true rfl) (Nat.le_of_ble_eq_true rfl) dX15_init_1002 ?_
  clear hP hD hS; try clear H
  intro q_383 H hP hD hS
  replace hP : va_P (dC, dI) vwCl ([(h0, .inr (15, fs_382))] ++ pl) H := hP
  replace hD : va_D A ([(h0, .inr (15, fs_382))] ++ pl) := hD
  refine va_putF (D := (dC, dI)) (ci := 15) (v := .ref q_383) (ty := .array (.array .long)) (C := RX15) (T := TX15) (N := 89) hx hb hts (in_X15_init_X15) tyX15 tyX15_ok nmX15 hown hK hP hD hS 0 rfl rfl 78 (by decide) (hts (.fieldLink RX15 269 "MotionSignsModel" "made5" "[[J") (List.mem_of_getElem? (i := 80) rfl)) (fun _ h9 => h9) rfl hin rfl (tyX15_ok 78 (by decide)) rfl rfl (mF.lt hF (by decide)) dX15_init_1006 ?_
  clear hP hD hS; try clear H
  intro H locs hP hD hS
  have hF1 := mF.pass hF 78 (.ref q_383) (by decide) rfl
  replace hP : va_P (dC, dI) vwCl ([(h0, .inr (15, (fs_382.set 78 (.ref q_383))))] ++ pl) H := hP
  replace hD : va_D A ([(h0, .inr (15, (fs_382.set 78 (.ref q_383))))] ++ pl) := hD
  generalize fs_382.set 78 (.ref q_383) = fs_384 at hP hD hF1
  replace hF : mF 89 [(36, .ref q_113), (33, .ref q_99), (31, .ref q_57), (30, .ref q_50), (26, .ref q_47), (20, .int (-1)), (17, .int (-1)), (14, .ref q_39), (13, .ref q_35), (0, .int 0), (18, .int 0), (19, .int 0), (21, .int 0), (22, .int 0), (23, .int 0), (24, .int 0), (25, .int 0), (27, .int 0), (28, .int 0), (29, .int 0), (35, .int 0)] fs_384 := hF1
  clear hF1
  replace hP : va_P (dC, dI) vwCl ([(h0, .inr (15, fs_384))] ++ pl) H := hP
  replace hD : va_D A ([(h0, .inr (15, fs_384))] ++ pl) := hD
  refine lv_aload_n hx hb dX15_init_1009 rfl (lv_at hl 0 rfl) ?_
  refine lv_iconst (v := 4) hx hb dX15_init_1010 (by decide) ?_
  refine lv_iconst (v := 5) hx hb dX15_init_1011 (by decide) ?_
  refine lv_iconst (v := 5) hx hb dX15_init_1012 (by decide) ?_
  refine wm_mna3 (nm1 := "[J") (t0 := .array (.array (.long))) (t1 := .array (.long)) (type := .long) (N' := 4) (K' := 5) (M' := 5) hx hb hown (hts (.classLink RX15 235 "[[[J") (List.mem_of_getElem? (i := 211) rfl)) (hN.2.2.2.2.2.1) (hN.2.2.2.2.1) (hN.2.2.2.1) rfl rfl rfl rfl hP hD hS (by decide) (by decide) (by decide) (by decide) (by decide) (by decide) (Nat.le_of_ble_eq_true rfl) (Nat.le_of_ble_eq_true rfl) (Nat.le_of_ble_eq_true rfl) (Nat.le_of_ble_eq_true rfl) rfl rfl (Nat.le_of_ble_eq_true rfl) (Nat.le_of_ble_eq_true rfl) dX15_init_1013 ?_
  clear hP hD hS; try clear H
  intro q_385 H hP hD hS
  replace hP : va_P (dC, dI) vwCl ([(h0, .inr (15, fs_384))] ++ pl) H := hP
  replace hD : va_D A ([(h0, .inr (15, fs_384))] ++ pl) := hD
  refine va_putF (D := (dC, dI)) (ci := 15) (v := .ref q_385) (ty := .array (.array (.array .long))) (C := RX15) (T := TX15) (N := 89) hx hb hts (in_X15_init_X15) tyX15 tyX15_ok nmX15 hown hK hP hD hS 0 rfl rfl 79 (by decide) (hts (.fieldLink RX15 272 "MotionSignsModel" "own" "[[[J") (List.mem_of_getElem? (i := 81) rfl)) (fun _ h9 => h9) rfl hin rfl (tyX15_ok 79 (by decide)) rfl rfl (mF.lt hF (by decide)) dX15_init_1017 ?_
  clear hP hD hS; try clear H
  intro H locs hP hD hS
  have hF1 := mF.pass hF 79 (.ref q_385) (by decide) rfl
  replace hP : va_P (dC, dI) vwCl ([(h0, .inr (15, (fs_384.set 79 (.ref q_385))))] ++ pl) H := hP
  replace hD : va_D A ([(h0, .inr (15, (fs_384.set 79 (.ref q_385))))] ++ pl) := hD
  generalize fs_384.set 79 (.ref q_385) = fs_386 at hP hD hF1
  replace hF : mF 89 [(36, .ref q_113), (33, .ref q_99), (31, .ref q_57), (30, .ref q_50), (26, .ref q_47), (20, .int (-1)), (17, .int (-1)), (14, .ref q_39), (13, .ref q_35), (0, .int 0), (18, .int 0), (19, .int 0), (21, .int 0), (22, .int 0), (23, .int 0), (24, .int 0), (25, .int 0), (27, .int 0), (28, .int 0), (29, .int 0), (35, .int 0)] fs_386 := hF1
  clear hF1
  replace hP : va_P (dC, dI) vwCl ([(h0, .inr (15, fs_386))] ++ pl) H := hP
  replace hD : va_D A ([(h0, .inr (15, fs_386))] ++ pl) := hD
  exact kont fs_386 H locs ls hP hD hK hS hl hF
