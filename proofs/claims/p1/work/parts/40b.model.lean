set_option maxHeartbeats 40000000 in
set_option maxRecDepth 100000 in
/-- the reference: MotionSignsModel(), rows 354 to 436 -/
theorem c_X15_init_s4 {p : Program} {l : Launch} {e : Env} {s : State} {m : MethodId} {below : List Frame} {meth : Method} {c : Code} {A : Nat → Prop} {Q0 : State → Prop} {dC : Nat → ClassId} {dI : Nat → Nat → Nat} {h0 : Nat} {fs_116 : List Value} {q_113 : Nat} {q_99 : Nat} {q_57 : Nat} {q_50 : Nat} {q_47 : Nat} {q_39 : Nat} {q_35 : Nat} (hx : p.tables.exec = Jvm.exec) (hb : c.code = cX15_init) (hml : c.maxLocals = 3) (hts : ∀ w ∈ wsM15, w.before ([.ref h0] : List Value).toArray s = true) (hown : s.vm.findClass RX15 = some m.cls) (hin : meth.name = "<init>") (hA : ∀ q : Nat, s.heap.size ≤ q → A q) (hN : w_N s) (pl : va_W) {H : Heap} {locs : List Loc} {ls : Array Slot} (hP : va_P (dC, dI) vwCl ([(h0, .inr (15, fs_116))] ++ pl) H) (hD : va_D A ([(h0, .inr (15, fs_116))] ++ pl)) (hK : va_K (dC, dI) vwCl [] s) (hS : va_S A s.heap H locs) (hl : lv_has ls 3 [(0, .ref h0)]) (hF : mF 89 [(36, .ref q_113), (33, .ref q_99), (31, .ref q_57), (30, .ref q_50), (26, .ref q_47), (20, .int (-1)), (17, .int (-1)), (14, .ref q_39), (13, .ref q_35), (0, .int 0), (18, .int 0), (19, .int 0), (21, .int 0), (22, .int 0), (23, .int 0), (24, .int 0), (25, .int 0), (27, .int 0), (28, .int 0), (29, .int 0), (35, .int 0)] fs_116) (kont : ∀ (fs_157 : List Value) (H : Heap) (locs : List Loc) (ls : Array Slot), va_P (dC, dI) vwCl ([(h0, .inr (15, fs_157))] ++ pl) H → va_D A ([(h0, .inr (15, fs_157))] ++ pl) → va_K (dC, dI) vwCl [] s → va_S A s.heap H locs → lv_has ls 3 [(0, .ref h0)] → mF 89 [(36, .ref q_113), (33, .ref q_99), (31, .ref q_57), (30, .ref q_50), (26, .ref q_47), (20, .int (-1)), (17, .int (-1)), (14, .ref q_39), (13, .ref q_35), (0, .int 0), (18, .int 0), (19, .int 0), (21, .int 0), (22, .int 0), (23, .int 0), (24, .int 0), (25, .int 0), (27, .int 0), (28, .int 0), (29, .int 0), (35, .int 0)] fs_157 → W p l e ({ frames := 3, cells := 7193, slots := 3261971, locals := 56 } : Room) s m ([.ref h0] : List Value).toArray below meth c H locs 3802 522310 Q0 (F0 m 436 ls [])) : W p l e ({ frames := 3, cells := 7193, slots := 3261971, locals := 56 } : Room) s m ([.ref h0] : List Value).toArray below meth c H locs 3771 520356 Q0 (F0 m 354 ls []) := by
  refine lv_aload_n hx hb dX15_init_354 rfl (lv_at hl 0 rfl) ?_
  refine va_new (ci := 13) (fs := [.null, .null, .null, .null, .int 0]) (C := RX13) (T := TX13) (N := 5) hx hb hts (in_X15_init_X13) tyX13 tyX13_ok hown (hts (.classLink RX15 127 RX13) (List.mem_of_getElem? (i := 29) rfl)) (hts (.instantiable RX13 5) (List.mem_of_getElem? (i := 30) rfl)) (hts (.initialized RX13) (List.mem_of_getElem? (i := 31) rfl)) hK hP hD hS hA rfl (fun j hj => by rcases (show j = 0 ∨ j = 1 ∨ j = 2 ∨ j = 3 ∨ j = 4 by omega) with rfl | rfl | rfl | rfl | rfl <;> rfl) (Nat.le_of_ble_eq_true rfl) (Nat.le_of_ble_eq_true rfl) dX15_init_355 ?_
  clear hP hD hS; try clear H
  intro q_117 H hP hD hS
  replace hP := va_P.swap hP; replace hD := va_D.swap hD
  replace hP : va_P (dC, dI) vwCl ([(h0, .inr (15, fs_116)), (q_117, .inr (13, [.null, .null, .null, .null, .int 0]))] ++ pl) H := hP
  replace hD : va_D A ([(h0, .inr (15, fs_116)), (q_117, .inr (13, [.null, .null, .null, .null, .int 0]))] ++ pl) := hD
  refine lv_dup hx hb dX15_init_358 rfl ?_
  refine lv_bipush (v := 64) hx hb dX15_init_359 (by decide) ?_
  have hPc := hP.sub (ws' := [(q_117, .inr (13, [.null, .null, .null, .null, .int 0]))]) [1] rfl
  have hDc := hD.sub (ws' := [(q_117, .inr (13, [.null, .null, .null, .null, .int 0]))]) [1] (by decide) rfl
  have hKc := hK.sub (tys' := []) [] rfl
  have hFc := va_free (wc := [(q_117, .inr (13, [.null, .null, .null, .null, .int 0]))]) hD hS hA [1] rfl
  refine va_callv (va_runIN (As := [.int 64]) (rest := [.ref q_117, .ref h0]) ⟨hx, hb, hml, hown, hts⟩ (c_X13_init_64 l dC dI q_117 H.size) ⟨va_cnB 1 hts gM15_X13 rfl rfl rfl (hN.1 (RX15, 129, yX13_init, RX15) (List.mem_of_getElem? (i := 28) rfl)) (hts (.initialized RX13) (List.mem_of_getElem? (i := 31) rfl)) hd_X13_init ⟨Nat.le_of_ble_eq_true rfl, Nat.le_of_ble_eq_true rfl⟩, rfl, (hts (.instanceMethod yX13_init) (List.mem_of_getElem? (i := 100) rfl))⟩ ⟨fun a U g mk q => by obtain ⟨q0, q1, qP, qK, qD, qE0⟩ := q; exact ⟨q0, q1, qP, va_K.moved (u := U) (U := U.calling g mk a) (Vm.Alike.refl U.vm) qK, qD, w_N.same rfl qE0⟩, fun U hU hW => ⟨rfl, by rw [hU], by rw [hU]; exact hPc, va_K.moved hW.alike hKc, hDc.weaken (fun _ _ _ _ => trivial), w_N.warm hW hN⟩⟩ rfl rfl hl.1 rfl (lv_room (Nat.le_of_ble_eq_true rfl)) dX15_init_361 ⟨(Nat.le_of_ble_eq_true rfl), (Nat.le_of_ble_eq_true rfl)⟩) hS (fun q _ h => hFc q h) hFc (fun u t H1 locs1 ht hvm hw hB hz1 hk1 hS1 => ?_)
  obtain ⟨q_118, q_119, q_120, q_121, k_122, hP1, hK1, hD1⟩ := hB
  rw [ht] at hP1
  have hK1 := va_K.moved hvm.symm hK1
  have hJ := va_joinQ (wr := [(h0, .inr (15, fs_116))]) (w1 := [(q_117, .inr (13, [.ref q_118, .ref q_119, .ref q_120, .ref q_121, .int 0])), (q_120, .inl (k_122, 128, .inl (fun _ => 0)))]) hP hD [1] [0] rfl rfl (by decide) (by decide) hk1 hFc hP1 hD1
  clear hP hD hPc hDc hKc hFc hz1 hw; try clear hk1
  obtain ⟨hP, hD⟩ := hJ
  replace hK := (hK.sub (tys' := []) [] rfl).app (hK1.sub (tys' := [(k_122, .int)]) [0] rfl)
  clear hP1 hK1 hD1 hvm ht hS; try clear t
  try clear H
  revert hS1
  intro hS
  generalize H1 = H at hP hS ⊢; try clear H1
  replace hP : va_P (dC, dI) vwCl ([(h0, .inr (15, fs_116)), (q_117, .inr (13, [.ref q_118, .ref q_119, .ref q_120, .ref q_121, .int 0])), (q_120, .inl (k_122, 128, .inl (fun _ => 0)))] ++ pl) H := hP
  replace hD : va_D A ([(h0, .inr (15, fs_116)), (q_117, .inr (13, [.ref q_118, .ref q_119, .ref q_120, .ref q_121, .int 0])), (q_120, .inl (k_122, 128, .inl (fun _ => 0)))] ++ pl) := hD
  replace hK : va_K (dC, dI) vwCl [(k_122, .int)] s := hK
  refine va_putF (D := (dC, dI)) (ci := 15) (v := .ref q_117) (ty := .object "MotionSignsModel$Poly") (C := RX15) (T := TX15) (N := 89) hx hb hts (in_X15_init_X15) tyX15 tyX15_ok nmX15 hown hK hP hD hS 0 rfl rfl 37 (by decide) (hts (.fieldLink RX15 152 "MotionSignsModel" "readF" "LMotionSignsModel$Poly;") (List.mem_of_getElem? (i := 38) rfl)) (fun _ h9 => h9) rfl hin rfl (tyX15_ok 37 (by decide)) rfl rfl (mF.lt hF (by decide)) dX15_init_364 ?_
  clear hP hD hS; try clear H
  intro H locs hP hD hS
  have hF1 := mF.pass hF 37 (.ref q_117) (by decide) rfl
  replace hP : va_P (dC, dI) vwCl ([(h0, .inr (15, (fs_116.set 37 (.ref q_117)))), (q_117, .inr (13, [.ref q_118, .ref q_119, .ref q_120, .ref q_121, .int 0])), (q_120, .inl (k_122, 128, .inl (fun _ => 0)))] ++ pl) H := hP
  replace hD : va_D A ([(h0, .inr (15, (fs_116.set 37 (.ref q_117)))), (q_117, .inr (13, [.ref q_118, .ref q_119, .ref q_120, .ref q_121, .int 0])), (q_120, .inl (k_122, 128, .inl (fun _ => 0)))] ++ pl) := hD
  generalize fs_116.set 37 (.ref q_117) = fs_123 at hP hD hF1
  replace hF : mF 89 [(36, .ref q_113), (33, .ref q_99), (31, .ref q_57), (30, .ref q_50), (26, .ref q_47), (20, .int (-1)), (17, .int (-1)), (14, .ref q_39), (13, .ref q_35), (0, .int 0), (18, .int 0), (19, .int 0), (21, .int 0), (22, .int 0), (23, .int 0), (24, .int 0), (25, .int 0), (27, .int 0), (28, .int 0), (29, .int 0), (35, .int 0)] fs_123 := hF1
  clear hF1
  replace hP : va_P (dC, dI) vwCl ([(h0, .inr (15, fs_123)), (q_117, .inr (13, [.ref q_118, .ref q_119, .ref q_120, .ref q_121, .int 0])), (q_120, .inl (k_122, 128, .inl (fun _ => 0)))] ++ pl) H := hP
  replace hD : va_D A ([(h0, .inr (15, fs_123)), (q_117, .inr (13, [.ref q_118, .ref q_119, .ref q_120, .ref q_121, .int 0])), (q_120, .inl (k_122, 128, .inl (fun _ => 0)))] ++ pl) := hD
  replace hP := wm_subP (X' := [(h0, .inr (15, fs_123))]) hP [0] rfl
  replace hD := wm_subD (X' := [(h0, .inr (15, fs_123))]) hD [0] (by decide) rfl
  replace hK := hK.sub (tys' := []) [] rfl
  refine lv_aload_n hx hb dX15_init_367 rfl (lv_at hl 0 rfl) ?_
  refine lv_iconst (v := 4) hx hb dX15_init_368 (by decide) ?_
  refine va_newq (C := RX13) (N' := 4) hx hb hown (hts (.classLink RX15 127 RX13) (List.mem_of_getElem? (i := 29) rfl)) (hN.2.2.1 RX13 (List.mem_of_getElem? (i := 5) rfl)) hK hP hD hS hA (by decide) (by decide) (Nat.le_of_ble_eq_true rfl) (Nat.le_of_ble_eq_true rfl) (Nat.le_of_ble_eq_true rfl) dX15_init_369 ?_
  clear hP hD hS hK; try clear H
  intro q_124 k_125 H hK hP hD hS
  replace hP := va_P.swap hP; replace hD := va_D.swap hD
  replace hP : va_P (dC, dI) vwCl ([(h0, .inr (15, fs_123)), (q_124, .inl (k_125, 4, .inr (.inr (.inr (.inr (fun _ => none))))))] ++ pl) H := hP
  replace hD : va_D A ([(h0, .inr (15, fs_123)), (q_124, .inl (k_125, 4, .inr (.inr (.inr (.inr (fun _ => none))))))] ++ pl) := hD
  replace hK : va_K (dC, dI) vwCl [(k_125, .object RX13)] s := hK
  refine lv_dup hx hb dX15_init_372 rfl ?_
  refine lv_iconst (v := 0) hx hb dX15_init_373 (by decide) ?_
  refine va_new (ci := 13) (fs := [.null, .null, .null, .null, .int 0]) (C := RX13) (T := TX13) (N := 5) hx hb hts (in_X15_init_X13) tyX13 tyX13_ok hown (hts (.classLink RX15 127 RX13) (List.mem_of_getElem? (i := 29) rfl)) (hts (.instantiable RX13 5) (List.mem_of_getElem? (i := 30) rfl)) (hts (.initialized RX13) (List.mem_of_getElem? (i := 31) rfl)) hK hP hD hS hA rfl (fun j hj => by rcases (show j = 0 ∨ j = 1 ∨ j = 2 ∨ j = 3 ∨ j = 4 by omega) with rfl | rfl | rfl | rfl | rfl <;> rfl) (Nat.le_of_ble_eq_true rfl) (Nat.le_of_ble_eq_true rfl) dX15_init_374 ?_
  clear hP hD hS; try clear H
  intro q_126 H hP hD hS
  replace hP := va_P.swap hP; replace hD := va_D.swap hD
  replace hP : va_P (dC, dI) vwCl ([(h0, .inr (15, fs_123)), (q_124, .inl (k_125, 4, .inr (.inr (.inr (.inr (fun _ => none)))))), (q_126, .inr (13, [.null, .null, .null, .null, .int 0]))] ++ pl) H := hP
  replace hD : va_D A ([(h0, .inr (15, fs_123)), (q_124, .inl (k_125, 4, .inr (.inr (.inr (.inr (fun _ => none)))))), (q_126, .inr (13, [.null, .null, .null, .null, .int 0]))] ++ pl) := hD
  refine lv_dup hx hb dX15_init_377 rfl ?_
  refine lv_bipush (v := 64) hx hb dX15_init_378 (by decide) ?_
  have hPc := hP.sub (ws' := [(q_126, .inr (13, [.null, .null, .null, .null, .int 0]))]) [2] rfl
  have hDc := hD.sub (ws' := [(q_126, .inr (13, [.null, .null, .null, .null, .int 0]))]) [2] (by decide) rfl
  have hKc := hK.sub (tys' := []) [] rfl
  have hFc := va_free (wc := [(q_126, .inr (13, [.null, .null, .null, .null, .int 0]))]) hD hS hA [2] rfl
  refine va_callv (va_runIN (As := [.int 64]) (rest := [.ref q_126, .int 0, .ref q_124, .ref q_124, .ref h0]) ⟨hx, hb, hml, hown, hts⟩ (c_X13_init_64 l dC dI q_126 H.size) ⟨va_cnB 1 hts gM15_X13 rfl rfl rfl (hN.1 (RX15, 129, yX13_init, RX15) (List.mem_of_getElem? (i := 28) rfl)) (hts (.initialized RX13) (List.mem_of_getElem? (i := 31) rfl)) hd_X13_init ⟨Nat.le_of_ble_eq_true rfl, Nat.le_of_ble_eq_true rfl⟩, rfl, (hts (.instanceMethod yX13_init) (List.mem_of_getElem? (i := 100) rfl))⟩ ⟨fun a U g mk q => by obtain ⟨q0, q1, qP, qK, qD, qE0⟩ := q; exact ⟨q0, q1, qP, va_K.moved (u := U) (U := U.calling g mk a) (Vm.Alike.refl U.vm) qK, qD, w_N.same rfl qE0⟩, fun U hU hW => ⟨rfl, by rw [hU], by rw [hU]; exact hPc, va_K.moved hW.alike hKc, hDc.weaken (fun _ _ _ _ => trivial), w_N.warm hW hN⟩⟩ rfl rfl hl.1 rfl (lv_room (Nat.le_of_ble_eq_true rfl)) dX15_init_380 ⟨(Nat.le_of_ble_eq_true rfl), (Nat.le_of_ble_eq_true rfl)⟩) hS (fun q _ h => hFc q h) hFc (fun u t H1 locs1 ht hvm hw hB hz1 hk1 hS1 => ?_)
  obtain ⟨q_127, q_128, q_129, q_130, k_131, hP1, hK1, hD1⟩ := hB
  rw [ht] at hP1
  have hK1 := va_K.moved hvm.symm hK1
  have hJ := va_joinQ (wr := [(h0, .inr (15, fs_123)), (q_124, .inl (k_125, 4, .inr (.inr (.inr (.inr (fun _ => none))))))]) (w1 := [(q_126, .inr (13, [.ref q_127, .ref q_128, .ref q_129, .ref q_130, .int 0])), (q_129, .inl (k_131, 128, .inl (fun _ => 0)))]) hP hD [2] [0, 1] rfl rfl (by decide) (by decide) hk1 hFc hP1 hD1
  clear hP hD hPc hDc hKc hFc hz1 hw; try clear hk1
  obtain ⟨hP, hD⟩ := hJ
  replace hK := (hK.sub (tys' := [(k_125, .object RX13)]) [0] rfl).app (hK1.sub (tys' := [(k_131, .int)]) [0] rfl)
  clear hP1 hK1 hD1 hvm ht hS; try clear t
  try clear H
  revert hS1
  intro hS
  generalize H1 = H at hP hS ⊢; try clear H1
  replace hP : va_P (dC, dI) vwCl ([(h0, .inr (15, fs_123)), (q_124, .inl (k_125, 4, .inr (.inr (.inr (.inr (fun _ => none)))))), (q_126, .inr (13, [.ref q_127, .ref q_128, .ref q_129, .ref q_130, .int 0])), (q_129, .inl (k_131, 128, .inl (fun _ => 0)))] ++ pl) H := hP
  replace hD : va_D A ([(h0, .inr (15, fs_123)), (q_124, .inl (k_125, 4, .inr (.inr (.inr (.inr (fun _ => none)))))), (q_126, .inr (13, [.ref q_127, .ref q_128, .ref q_129, .ref q_130, .int 0])), (q_129, .inl (k_131, 128, .inl (fun _ => 0)))] ++ pl) := hD
  replace hK : va_K (dC, dI) vwCl [(k_125, .object RX13), (k_131, .int)] s := hK
  refine va_astq hx hb hK hP hD hS 1 0 2 13 rfl rfl rfl rfl (by exact fun h => by rcases h with h | h <;> revert h <;> decide) dX15_init_383 ?_
  clear hP hD hS; try clear H
  intro H locs hP hD hS
  replace hP : va_P (dC, dI) vwCl ([(h0, .inr (15, fs_123)), (q_124, .inl (k_125, 4, .inr (.inr (.inr (.inr (va_up (fun _ => none) (0 : Int32).toNatClampNeg (some q_126))))))), (q_126, .inr (13, [.ref q_127, .ref q_128, .ref q_129, .ref q_130, .int 0])), (q_129, .inl (k_131, 128, .inl (fun _ => 0)))] ++ pl) H := hP
  replace hD : va_D A ([(h0, .inr (15, fs_123)), (q_124, .inl (k_125, 4, .inr (.inr (.inr (.inr (va_up (fun _ => none) (0 : Int32).toNatClampNeg (some q_126))))))), (q_126, .inr (13, [.ref q_127, .ref q_128, .ref q_129, .ref q_130, .int 0])), (q_129, .inl (k_131, 128, .inl (fun _ => 0)))] ++ pl) := hD
  refine lv_dup hx hb dX15_init_384 rfl ?_
  refine lv_iconst (v := 1) hx hb dX15_init_385 (by decide) ?_
  refine va_new (ci := 13) (fs := [.null, .null, .null, .null, .int 0]) (C := RX13) (T := TX13) (N := 5) hx hb hts (in_X15_init_X13) tyX13 tyX13_ok hown (hts (.classLink RX15 127 RX13) (List.mem_of_getElem? (i := 29) rfl)) (hts (.instantiable RX13 5) (List.mem_of_getElem? (i := 30) rfl)) (hts (.initialized RX13) (List.mem_of_getElem? (i := 31) rfl)) hK hP hD hS hA rfl (fun j hj => by rcases (show j = 0 ∨ j = 1 ∨ j = 2 ∨ j = 3 ∨ j = 4 by omega) with rfl | rfl | rfl | rfl | rfl <;> rfl) (Nat.le_of_ble_eq_true rfl) (Nat.le_of_ble_eq_true rfl) dX15_init_386 ?_
  clear hP hD hS; try clear H
  intro q_132 H hP hD hS
  replace hP := va_P.swap hP; replace hD := va_D.swap hD
  replace hP : va_P (dC, dI) vwCl ([(h0, .inr (15, fs_123)), (q_124, .inl (k_125, 4, .inr (.inr (.inr (.inr (va_up (fun _ => none) (0 : Int32).toNatClampNeg (some q_126))))))), (q_126, .inr (13, [.ref q_127, .ref q_128, .ref q_129, .ref q_130, .int 0])), (q_129, .inl (k_131, 128, .inl (fun _ => 0))), (q_132, .inr (13, [.null, .null, .null, .null, .int 0]))] ++ pl) H := hP
  replace hD : va_D A ([(h0, .inr (15, fs_123)), (q_124, .inl (k_125, 4, .inr (.inr (.inr (.inr (va_up (fun _ => none) (0 : Int32).toNatClampNeg (some q_126))))))), (q_126, .inr (13, [.ref q_127, .ref q_128, .ref q_129, .ref q_130, .int 0])), (q_129, .inl (k_131, 128, .inl (fun _ => 0))), (q_132, .inr (13, [.null, .null, .null, .null, .int 0]))] ++ pl) := hD
  refine lv_dup hx hb dX15_init_389 rfl ?_
  refine lv_bipush (v := 64) hx hb dX15_init_390 (by decide) ?_
  have hPc := hP.sub (ws' := [(q_132, .inr (13, [.null, .null, .null, .null, .int 0]))]) [4] rfl
  have hDc := hD.sub (ws' := [(q_132, .inr (13, [.null, .null, .null, .null, .int 0]))]) [4] (by decide) rfl
  have hKc := hK.sub (tys' := []) [] rfl
  have hFc := va_free (wc := [(q_132, .inr (13, [.null, .null, .null, .null, .int 0]))]) hD hS hA [4] rfl
  refine va_callv (va_runIN (As := [.int 64]) (rest := [.ref q_132, .int 1, .ref q_124, .ref q_124, .ref h0]) ⟨hx, hb, hml, hown, hts⟩ (c_X13_init_64 l dC dI q_132 H.size) ⟨va_cnB 1 hts gM15_X13 rfl rfl rfl (hN.1 (RX15, 129, yX13_init, RX15) (List.mem_of_getElem? (i := 28) rfl)) (hts (.initialized RX13) (List.mem_of_getElem? (i := 31) rfl)) hd_X13_init ⟨Nat.le_of_ble_eq_true rfl, Nat.le_of_ble_eq_true rfl⟩, rfl, (hts (.instanceMethod yX13_init) (List.mem_of_getElem? (i := 100) rfl))⟩ ⟨fun a U g mk q => by obtain ⟨q0, q1, qP, qK, qD, qE0⟩ := q; exact ⟨q0, q1, qP, va_K.moved (u := U) (U := U.calling g mk a) (Vm.Alike.refl U.vm) qK, qD, w_N.same rfl qE0⟩, fun U hU hW => ⟨rfl, by rw [hU], by rw [hU]; exact hPc, va_K.moved hW.alike hKc, hDc.weaken (fun _ _ _ _ => trivial), w_N.warm hW hN⟩⟩ rfl rfl hl.1 rfl (lv_room (Nat.le_of_ble_eq_true rfl)) dX15_init_392 ⟨(Nat.le_of_ble_eq_true rfl), (Nat.le_of_ble_eq_true rfl)⟩) hS (fun q _ h => hFc q h) hFc (fun u t H1 locs1 ht hvm hw hB hz1 hk1 hS1 => ?_)
  obtain ⟨q_133, q_134, q_135, q_136, k_137, hP1, hK1, hD1⟩ := hB
  rw [ht] at hP1
  have hK1 := va_K.moved hvm.symm hK1
  have hJ := va_joinQ (wr := [(h0, .inr (15, fs_123)), (q_124, .inl (k_125, 4, .inr (.inr (.inr (.inr (va_up (fun _ => none) (0 : Int32).toNatClampNeg (some q_126))))))), (q_126, .inr (13, [.ref q_127, .ref q_128, .ref q_129, .ref q_130, .int 0])), (q_129, .inl (k_131, 128, .inl (fun _ => 0)))]) (w1 := [(q_132, .inr (13, [.ref q_133, .ref q_134, .ref q_135, .ref q_136, .int 0])), (q_135, .inl (k_137, 128, .inl (fun _ => 0)))]) hP hD [4] [0, 1, 2, 3] rfl rfl (by decide) (by decide) hk1 hFc hP1 hD1
  clear hP hD hPc hDc hKc hFc hz1 hw; try clear hk1
  obtain ⟨hP, hD⟩ := hJ
  replace hK := (hK.sub (tys' := [(k_125, .object RX13), (k_131, .int)]) [0, 1] rfl).app (hK1.sub (tys' := [(k_137, .int)]) [0] rfl)
  clear hP1 hK1 hD1 hvm ht hS; try clear t
  try clear H
  revert hS1
  intro hS
  generalize H1 = H at hP hS ⊢; try clear H1
  replace hP : va_P (dC, dI) vwCl ([(h0, .inr (15, fs_123)), (q_124, .inl (k_125, 4, .inr (.inr (.inr (.inr (va_up (fun _ => none) (0 : Int32).toNatClampNeg (some q_126))))))), (q_126, .inr (13, [.ref q_127, .ref q_128, .ref q_129, .ref q_130, .int 0])), (q_129, .inl (k_131, 128, .inl (fun _ => 0))), (q_132, .inr (13, [.ref q_133, .ref q_134, .ref q_135, .ref q_136, .int 0])), (q_135, .inl (k_137, 128, .inl (fun _ => 0)))] ++ pl) H := hP
  replace hD : va_D A ([(h0, .inr (15, fs_123)), (q_124, .inl (k_125, 4, .inr (.inr (.inr (.inr (va_up (fun _ => none) (0 : Int32).toNatClampNeg (some q_126))))))), (q_126, .inr (13, [.ref q_127, .ref q_128, .ref q_129, .ref q_130, .int 0])), (q_129, .inl (k_131, 128, .inl (fun _ => 0))), (q_132, .inr (13, [.ref q_133, .ref q_134, .ref q_135, .ref q_136, .int 0])), (q_135, .inl (k_137, 128, .inl (fun _ => 0)))] ++ pl) := hD
  replace hK : va_K (dC, dI) vwCl [(k_125, .object RX13), (k_131, .int), (k_137, .int)] s := hK
  refine va_astq hx hb hK hP hD hS 1 0 4 13 rfl rfl rfl rfl (by exact fun h => by rcases h with h | h <;> revert h <;> decide) dX15_init_395 ?_
  clear hP hD hS; try clear H
  intro H locs hP hD hS
  replace hP : va_P (dC, dI) vwCl ([(h0, .inr (15, fs_123)), (q_124, .inl (k_125, 4, .inr (.inr (.inr (.inr (va_up (va_up (fun _ => none) (0 : Int32).toNatClampNeg (some q_126)) (1 : Int32).toNatClampNeg (some q_132))))))), (q_126, .inr (13, [.ref q_127, .ref q_128, .ref q_129, .ref q_130, .int 0])), (q_129, .inl (k_131, 128, .inl (fun _ => 0))), (q_132, .inr (13, [.ref q_133, .ref q_134, .ref q_135, .ref q_136, .int 0])), (q_135, .inl (k_137, 128, .inl (fun _ => 0)))] ++ pl) H := hP
  replace hD : va_D A ([(h0, .inr (15, fs_123)), (q_124, .inl (k_125, 4, .inr (.inr (.inr (.inr (va_up (va_up (fun _ => none) (0 : Int32).toNatClampNeg (some q_126)) (1 : Int32).toNatClampNeg (some q_132))))))), (q_126, .inr (13, [.ref q_127, .ref q_128, .ref q_129, .ref q_130, .int 0])), (q_129, .inl (k_131, 128, .inl (fun _ => 0))), (q_132, .inr (13, [.ref q_133, .ref q_134, .ref q_135, .ref q_136, .int 0])), (q_135, .inl (k_137, 128, .inl (fun _ => 0)))] ++ pl) := hD
  refine lv_dup hx hb dX15_init_396 rfl ?_
  refine lv_iconst (v := 2) hx hb dX15_init_397 (by decide) ?_
  refine va_new (ci := 13) (fs := [.null, .null, .null, .null, .int 0]) (C := RX13) (T := TX13) (N := 5) hx hb hts (in_X15_init_X13) tyX13 tyX13_ok hown (hts (.classLink RX15 127 RX13) (List.mem_of_getElem? (i := 29) rfl)) (hts (.instantiable RX13 5) (List.mem_of_getElem? (i := 30) rfl)) (hts (.initialized RX13) (List.mem_of_getElem? (i := 31) rfl)) hK hP hD hS hA rfl (fun j hj => by rcases (show j = 0 ∨ j = 1 ∨ j = 2 ∨ j = 3 ∨ j = 4 by omega) with rfl | rfl | rfl | rfl | rfl <;> rfl) (Nat.le_of_ble_eq_true rfl) (Nat.le_of_ble_eq_true rfl) dX15_init_398 ?_
  clear hP hD hS; try clear H
  intro q_138 H hP hD hS
  replace hP := va_P.swap hP; replace hD := va_D.swap hD
  replace hP : va_P (dC, dI) vwCl ([(h0, .inr (15, fs_123)), (q_124, .inl (k_125, 4, .inr (.inr (.inr (.inr (va_up (va_up (fun _ => none) (0 : Int32).toNatClampNeg (some q_126)) (1 : Int32).toNatClampNeg (some q_132))))))), (q_126, .inr (13, [.ref q_127, .ref q_128, .ref q_129, .ref q_130, .int 0])), (q_129, .inl (k_131, 128, .inl (fun _ => 0))), (q_132, .inr (13, [.ref q_133, .ref q_134, .ref q_135, .ref q_136, .int 0])), (q_135, .inl (k_137, 128, .inl (fun _ => 0))), (q_138, .inr (13, [.null, .null, .null, .null, .int 0]))] ++ pl) H := hP
  replace hD : va_D A ([(h0, .inr (15, fs_123)), (q_124, .inl (k_125, 4, .inr (.inr (.inr (.inr (va_up (va_up (fun _ => none) (0 : Int32).toNatClampNeg (some q_126)) (1 : Int32).toNatClampNeg (some q_132))))))), (q_126, .inr (13, [.ref q_127, .ref q_128, .ref q_129, .ref q_130, .int 0])), (q_129, .inl (k_131, 128, .inl (fun _ => 0))), (q_132, .inr (13, [.ref q_133, .ref q_134, .ref q_135, .ref q_136, .int 0])), (q_135, .inl (k_137, 128, .inl (fun _ => 0))), (q_138, .inr (13, [.null, .null, .null, .null, .int 0]))] ++ pl) := hD
  refine lv_dup hx hb dX15_init_401 rfl ?_
  refine lv_bipush (v := 64) hx hb dX15_init_402 (by decide) ?_
  have hPc := hP.sub (ws' := [(q_138, .inr (13, [.null, .null, .null, .null, .int 0]))]) [6] rfl
  have hDc := hD.sub (ws' := [(q_138, .inr (13, [.null, .null, .null, .null, .int 0]))]) [6] (by decide) rfl
  have hKc := hK.sub (tys' := []) [] rfl
  have hFc := va_free (wc := [(q_138, .inr (13, [.null, .null, .null, .null, .int 0]))]) hD hS hA [6] rfl
  refine va_callv (va_runIN (As := [.int 64]) (rest := [.ref q_138, .int 2, .ref q_124, .ref q_124, .ref h0]) ⟨hx, hb, hml, hown, hts⟩ (c_X13_init_64 l dC dI q_138 H.size) ⟨va_cnB 1 hts gM15_X13 rfl rfl rfl (hN.1 (RX15, 129, yX13_init, RX15) (List.mem_of_getElem? (i := 28) rfl)) (hts (.initialized RX13) (List.mem_of_getElem? (i := 31) rfl)) hd_X13_init ⟨Nat.le_of_ble_eq_true rfl, Nat.le_of_ble_eq_true rfl⟩, rfl, (hts (.instanceMethod yX13_init) (List.mem_of_getElem? (i := 100) rfl))⟩ ⟨fun a U g mk q => by obtain ⟨q0, q1, qP, qK, qD, qE0⟩ := q; exact ⟨q0, q1, qP, va_K.moved (u := U) (U := U.calling g mk a) (Vm.Alike.refl U.vm) qK, qD, w_N.same rfl qE0⟩, fun U hU hW => ⟨rfl, by rw [hU], by rw [hU]; exact hPc, va_K.moved hW.alike hKc, hDc.weaken (fun _ _ _ _ => trivial), w_N.warm hW hN⟩⟩ rfl rfl hl.1 rfl (lv_room (Nat.le_of_ble_eq_true rfl)) dX15_init_404 ⟨(Nat.le_of_ble_eq_true rfl), (Nat.le_of_ble_eq_true rfl)⟩) hS (fun q _ h => hFc q h) hFc (fun u t H1 locs1 ht hvm hw hB hz1 hk1 hS1 => ?_)
  obtain ⟨q_139, q_140, q_141, q_142, k_143, hP1, hK1, hD1⟩ := hB
  rw [ht] at hP1
  have hK1 := va_K.moved hvm.symm hK1
  have hJ := va_joinQ (wr := [(h0, .inr (15, fs_123)), (q_124, .inl (k_125, 4, .inr (.inr (.inr (.inr (va_up (va_up (fun _ => none) (0 : Int32).toNatClampNeg (some q_126)) (1 : Int32).toNatClampNeg (some q_132))))))), (q_126, .inr (13, [.ref q_127, .ref q_128, .ref q_129, .ref q_130, .int 0])), (q_129, .inl (k_131, 128, .inl (fun _ => 0))), (q_132, .inr (13, [.ref q_133, .ref q_134, .ref q_135, .ref q_136, .int 0])), (q_135, .inl (k_137, 128, .inl (fun _ => 0)))]) (w1 := [(q_138, .inr (13, [.ref q_139, .ref q_140, .ref q_141, .ref q_142, .int 0])), (q_141, .inl (k_143, 128, .inl (fun _ => 0)))]) hP hD [6] [0, 1, 2, 3, 4, 5] rfl rfl (by decide) (by decide) hk1 hFc hP1 hD1
  clear hP hD hPc hDc hKc hFc hz1 hw; try clear hk1
  obtain ⟨hP, hD⟩ := hJ
  replace hK := (hK.sub (tys' := [(k_125, .object RX13), (k_131, .int), (k_137, .int)]) [0, 1, 2] rfl).app (hK1.sub (tys' := [(k_143, .int)]) [0] rfl)
  clear hP1 hK1 hD1 hvm ht hS; try clear t
  try clear H
  revert hS1
  intro hS
  generalize H1 = H at hP hS ⊢; try clear H1
  replace hP : va_P (dC, dI) vwCl ([(h0, .inr (15, fs_123)), (q_124, .inl (k_125, 4, .inr (.inr (.inr (.inr (va_up (va_up (fun _ => none) (0 : Int32).toNatClampNeg (some q_126)) (1 : Int32).toNatClampNeg (some q_132))))))), (q_126, .inr (13, [.ref q_127, .ref q_128, .ref q_129, .ref q_130, .int 0])), (q_129, .inl (k_131, 128, .inl (fun _ => 0))), (q_132, .inr (13, [.ref q_133, .ref q_134, .ref q_135, .ref q_136, .int 0])), (q_135, .inl (k_137, 128, .inl (fun _ => 0))), (q_138, .inr (13, [.ref q_139, .ref q_140, .ref q_141, .ref q_142, .int 0])), (q_141, .inl (k_143, 128, .inl (fun _ => 0)))] ++ pl) H := hP
  replace hD : va_D A ([(h0, .inr (15, fs_123)), (q_124, .inl (k_125, 4, .inr (.inr (.inr (.inr (va_up (va_up (fun _ => none) (0 : Int32).toNatClampNeg (some q_126)) (1 : Int32).toNatClampNeg (some q_132))))))), (q_126, .inr (13, [.ref q_127, .ref q_128, .ref q_129, .ref q_130, .int 0])), (q_129, .inl (k_131, 128, .inl (fun _ => 0))), (q_132, .inr (13, [.ref q_133, .ref q_134, .ref q_135, .ref q_136, .int 0])), (q_135, .inl (k_137, 128, .inl (fun _ => 0))), (q_138, .inr (13, [.ref q_139, .ref q_140, .ref q_141, .ref q_142, .int 0])), (q_141, .inl (k_143, 128, .inl (fun _ => 0)))] ++ pl) := hD
  replace hK : va_K (dC, dI) vwCl [(k_125, .object RX13), (k_131, .int), (k_137, .int), (k_143, .int)] s := hK
  refine va_astq hx hb hK hP hD hS 1 0 6 13 rfl rfl rfl rfl (by exact fun h => by rcases h with h | h <;> revert h <;> decide) dX15_init_407 ?_
  clear hP hD hS; try clear H
  intro H locs hP hD hS
  replace hP : va_P (dC, dI) vwCl ([(h0, .inr (15, fs_123)), (q_124, .inl (k_125, 4, .inr (.inr (.inr (.inr (va_up (va_up (va_up (fun _ => none) (0 : Int32).toNatClampNeg (some q_126)) (1 : Int32).toNatClampNeg (some q_132)) (2 : Int32).toNatClampNeg (some q_138))))))), (q_126, .inr (13, [.ref q_127, .ref q_128, .ref q_129, .ref q_130, .int 0])), (q_129, .inl (k_131, 128, .inl (fun _ => 0))), (q_132, .inr (13, [.ref q_133, .ref q_134, .ref q_135, .ref q_136, .int 0])), (q_135, .inl (k_137, 128, .inl (fun _ => 0))), (q_138, .inr (13, [.ref q_139, .ref q_140, .ref q_141, .ref q_142, .int 0])), (q_141, .inl (k_143, 128, .inl (fun _ => 0)))] ++ pl) H := hP
  replace hD : va_D A ([(h0, .inr (15, fs_123)), (q_124, .inl (k_125, 4, .inr (.inr (.inr (.inr (va_up (va_up (va_up (fun _ => none) (0 : Int32).toNatClampNeg (some q_126)) (1 : Int32).toNatClampNeg (some q_132)) (2 : Int32).toNatClampNeg (some q_138))))))), (q_126, .inr (13, [.ref q_127, .ref q_128, .ref q_129, .ref q_130, .int 0])), (q_129, .inl (k_131, 128, .inl (fun _ => 0))), (q_132, .inr (13, [.ref q_133, .ref q_134, .ref q_135, .ref q_136, .int 0])), (q_135, .inl (k_137, 128, .inl (fun _ => 0))), (q_138, .inr (13, [.ref q_139, .ref q_140, .ref q_141, .ref q_142, .int 0])), (q_141, .inl (k_143, 128, .inl (fun _ => 0)))] ++ pl) := hD
  refine lv_dup hx hb dX15_init_408 rfl ?_
  refine lv_iconst (v := 3) hx hb dX15_init_409 (by decide) ?_
  refine va_new (ci := 13) (fs := [.null, .null, .null, .null, .int 0]) (C := RX13) (T := TX13) (N := 5) hx hb hts (in_X15_init_X13) tyX13 tyX13_ok hown (hts (.classLink RX15 127 RX13) (List.mem_of_getElem? (i := 29) rfl)) (hts (.instantiable RX13 5) (List.mem_of_getElem? (i := 30) rfl)) (hts (.initialized RX13) (List.mem_of_getElem? (i := 31) rfl)) hK hP hD hS hA rfl (fun j hj => by rcases (show j = 0 ∨ j = 1 ∨ j = 2 ∨ j = 3 ∨ j = 4 by omega) with rfl | rfl | rfl | rfl | rfl <;> rfl) (Nat.le_of_ble_eq_true rfl) (Nat.le_of_ble_eq_true rfl) dX15_init_410 ?_
  clear hP hD hS; try clear H
  intro q_144 H hP hD hS
  replace hP := va_P.swap hP; replace hD := va_D.swap hD
  replace hP : va_P (dC, dI) vwCl ([(h0, .inr (15, fs_123)), (q_124, .inl (k_125, 4, .inr (.inr (.inr (.inr (va_up (va_up (va_up (fun _ => none) (0 : Int32).toNatClampNeg (some q_126)) (1 : Int32).toNatClampNeg (some q_132)) (2 : Int32).toNatClampNeg (some q_138))))))), (q_126, .inr (13, [.ref q_127, .ref q_128, .ref q_129, .ref q_130, .int 0])), (q_129, .inl (k_131, 128, .inl (fun _ => 0))), (q_132, .inr (13, [.ref q_133, .ref q_134, .ref q_135, .ref q_136, .int 0])), (q_135, .inl (k_137, 128, .inl (fun _ => 0))), (q_138, .inr (13, [.ref q_139, .ref q_140, .ref q_141, .ref q_142, .int 0])), (q_141, .inl (k_143, 128, .inl (fun _ => 0))), (q_144, .inr (13, [.null, .null, .null, .null, .int 0]))] ++ pl) H := hP
  replace hD : va_D A ([(h0, .inr (15, fs_123)), (q_124, .inl (k_125, 4, .inr (.inr (.inr (.inr (va_up (va_up (va_up (fun _ => none) (0 : Int32).toNatClampNeg (some q_126)) (1 : Int32).toNatClampNeg (some q_132)) (2 : Int32).toNatClampNeg (some q_138))))))), (q_126, .inr (13, [.ref q_127, .ref q_128, .ref q_129, .ref q_130, .int 0])), (q_129, .inl (k_131, 128, .inl (fun _ => 0))), (q_132, .inr (13, [.ref q_133, .ref q_134, .ref q_135, .ref q_136, .int 0])), (q_135, .inl (k_137, 128, .inl (fun _ => 0))), (q_138, .inr (13, [.ref q_139, .ref q_140, .ref q_141, .ref q_142, .int 0])), (q_141, .inl (k_143, 128, .inl (fun _ => 0))), (q_144, .inr (13, [.null, .null, .null, .null, .int 0]))] ++ pl) := hD
  refine lv_dup hx hb dX15_init_413 rfl ?_
  refine lv_bipush (v := 64) hx hb dX15_init_414 (by decide) ?_
  have hPc := hP.sub (ws' := [(q_144, .inr (13, [.null, .null, .null, .null, .int 0]))]) [8] rfl
  have hDc := hD.sub (ws' := [(q_144, .inr (13, [.null, .null, .null, .null, .int 0]))]) [8] (by decide) rfl
  have hKc := hK.sub (tys' := []) [] rfl
  have hFc := va_free (wc := [(q_144, .inr (13, [.null, .null, .null, .null, .int 0]))]) hD hS hA [8] rfl
  refine va_callv (va_runIN (As := [.int 64]) (rest := [.ref q_144, .int 3, .ref q_124, .ref q_124, .ref h0]) ⟨hx, hb, hml, hown, hts⟩ (c_X13_init_64 l dC dI q_144 H.size) ⟨va_cnB 1 hts gM15_X13 rfl rfl rfl (hN.1 (RX15, 129, yX13_init, RX15) (List.mem_of_getElem? (i := 28) rfl)) (hts (.initialized RX13) (List.mem_of_getElem? (i := 31) rfl)) hd_X13_init ⟨Nat.le_of_ble_eq_true rfl, Nat.le_of_ble_eq_true rfl⟩, rfl, (hts (.instanceMethod yX13_init) (List.mem_of_getElem? (i := 100) rfl))⟩ ⟨fun a U g mk q => by obtain ⟨q0, q1, qP, qK, qD, qE0⟩ := q; exact ⟨q0, q1, qP, va_K.moved (u := U) (U := U.calling g mk a) (Vm.Alike.refl U.vm) qK, qD, w_N.same rfl qE0⟩, fun U hU hW => ⟨rfl, by rw [hU], by rw [hU]; exact hPc, va_K.moved hW.alike hKc, hDc.weaken (fun _ _ _ _ => trivial), w_N.warm hW hN⟩⟩ rfl rfl hl.1 rfl (lv_room (Nat.le_of_ble_eq_true rfl)) dX15_init_416 ⟨(Nat.le_of_ble_eq_true rfl), (Nat.le_of_ble_eq_true rfl)⟩) hS (fun q _ h => hFc q h) hFc (fun u t H1 locs1 ht hvm hw hB hz1 hk1 hS1 => ?_)
  obtain ⟨q_145, q_146, q_147, q_148, k_149, hP1, hK1, hD1⟩ := hB
  rw [ht] at hP1
  have hK1 := va_K.moved hvm.symm hK1
  have hJ := va_joinQ (wr := [(h0, .inr (15, fs_123)), (q_124, .inl (k_125, 4, .inr (.inr (.inr (.inr (va_up (va_up (va_up (fun _ => none) (0 : Int32).toNatClampNeg (some q_126)) (1 : Int32).toNatClampNeg (some q_132)) (2 : Int32).toNatClampNeg (some q_138))))))), (q_126, .inr (13, [.ref q_127, .ref q_128, .ref q_129, .ref q_130, .int 0])), (q_129, .inl (k_131, 128, .inl (fun _ => 0))), (q_132, .inr (13, [.ref q_133, .ref q_134, .ref q_135, .ref q_136, .int 0])), (q_135, .inl (k_137, 128, .inl (fun _ => 0))), (q_138, .inr (13, [.ref q_139, .ref q_140, .ref q_141, .ref q_142, .int 0])), (q_141, .inl (k_143, 128, .inl (fun _ => 0)))]) (w1 := [(q_144, .inr (13, [.ref q_145, .ref q_146, .ref q_147, .ref q_148, .int 0])), (q_147, .inl (k_149, 128, .inl (fun _ => 0)))]) hP hD [8] [0, 1, 2, 3, 4, 5, 6, 7] rfl rfl (by decide) (by decide) hk1 hFc hP1 hD1
  clear hP hD hPc hDc hKc hFc hz1 hw; try clear hk1
  obtain ⟨hP, hD⟩ := hJ
  replace hK := (hK.sub (tys' := [(k_125, .object RX13), (k_131, .int), (k_137, .int), (k_143, .int)]) [0, 1, 2, 3] rfl).app (hK1.sub (tys' := [(k_149, .int)]) [0] rfl)
  clear hP1 hK1 hD1 hvm ht hS; try clear t
  try clear H
  revert hS1
  intro hS
  generalize H1 = H at hP hS ⊢; try clear H1
  replace hP : va_P (dC, dI) vwCl ([(h0, .inr (15, fs_123)), (q_124, .inl (k_125, 4, .inr (.inr (.inr (.inr (va_up (va_up (va_up (fun _ => none) (0 : Int32).toNatClampNeg (some q_126)) (1 : Int32).toNatClampNeg (some q_132)) (2 : Int32).toNatClampNeg (some q_138))))))), (q_126, .inr (13, [.ref q_127, .ref q_128, .ref q_129, .ref q_130, .int 0])), (q_129, .inl (k_131, 128, .inl (fun _ => 0))), (q_132, .inr (13, [.ref q_133, .ref q_134, .ref q_135, .ref q_136, .int 0])), (q_135, .inl (k_137, 128, .inl (fun _ => 0))), (q_138, .inr (13, [.ref q_139, .ref q_140, .ref q_141, .ref q_142, .int 0])), (q_141, .inl (k_143, 128, .inl (fun _ => 0))), (q_144, .inr (13, [.ref q_145, .ref q_146, .ref q_147, .ref q_148, .int 0])), (q_147, .inl (k_149, 128, .inl (fun _ => 0)))] ++ pl) H := hP
  replace hD : va_D A ([(h0, .inr (15, fs_123)), (q_124, .inl (k_125, 4, .inr (.inr (.inr (.inr (va_up (va_up (va_up (fun _ => none) (0 : Int32).toNatClampNeg (some q_126)) (1 : Int32).toNatClampNeg (some q_132)) (2 : Int32).toNatClampNeg (some q_138))))))), (q_126, .inr (13, [.ref q_127, .ref q_128, .ref q_129, .ref q_130, .int 0])), (q_129, .inl (k_131, 128, .inl (fun _ => 0))), (q_132, .inr (13, [.ref q_133, .ref q_134, .ref q_135, .ref q_136, .int 0])), (q_135, .inl (k_137, 128, .inl (fun _ => 0))), (q_138, .inr (13, [.ref q_139, .ref q_140, .ref q_141, .ref q_142, .int 0])), (q_141, .inl (k_143, 128, .inl (fun _ => 0))), (q_144, .inr (13, [.ref q_145, .ref q_146, .ref q_147, .ref q_148, .int 0])), (q_147, .inl (k_149, 128, .inl (fun _ => 0)))] ++ pl) := hD
  replace hK : va_K (dC, dI) vwCl [(k_125, .object RX13), (k_131, .int), (k_137, .int), (k_143, .int), (k_149, .int)] s := hK
  refine va_astq hx hb hK hP hD hS 1 0 8 13 rfl rfl rfl rfl (by exact fun h => by rcases h with h | h <;> revert h <;> decide) dX15_init_419 ?_
  clear hP hD hS; try clear H
  intro H locs hP hD hS
  replace hP : va_P (dC, dI) vwCl ([(h0, .inr (15, fs_123)), (q_124, .inl (k_125, 4, .inr (.inr (.inr (.inr (va_up (va_up (va_up (va_up (fun _ => none) (0 : Int32).toNatClampNeg (some q_126)) (1 : Int32).toNatClampNeg (some q_132)) (2 : Int32).toNatClampNeg (some q_138)) (3 : Int32).toNatClampNeg (some q_144))))))), (q_126, .inr (13, [.ref q_127, .ref q_128, .ref q_129, .ref q_130, .int 0])), (q_129, .inl (k_131, 128, .inl (fun _ => 0))), (q_132, .inr (13, [.ref q_133, .ref q_134, .ref q_135, .ref q_136, .int 0])), (q_135, .inl (k_137, 128, .inl (fun _ => 0))), (q_138, .inr (13, [.ref q_139, .ref q_140, .ref q_141, .ref q_142, .int 0])), (q_141, .inl (k_143, 128, .inl (fun _ => 0))), (q_144, .inr (13, [.ref q_145, .ref q_146, .ref q_147, .ref q_148, .int 0])), (q_147, .inl (k_149, 128, .inl (fun _ => 0)))] ++ pl) H := hP
  replace hD : va_D A ([(h0, .inr (15, fs_123)), (q_124, .inl (k_125, 4, .inr (.inr (.inr (.inr (va_up (va_up (va_up (va_up (fun _ => none) (0 : Int32).toNatClampNeg (some q_126)) (1 : Int32).toNatClampNeg (some q_132)) (2 : Int32).toNatClampNeg (some q_138)) (3 : Int32).toNatClampNeg (some q_144))))))), (q_126, .inr (13, [.ref q_127, .ref q_128, .ref q_129, .ref q_130, .int 0])), (q_129, .inl (k_131, 128, .inl (fun _ => 0))), (q_132, .inr (13, [.ref q_133, .ref q_134, .ref q_135, .ref q_136, .int 0])), (q_135, .inl (k_137, 128, .inl (fun _ => 0))), (q_138, .inr (13, [.ref q_139, .ref q_140, .ref q_141, .ref q_142, .int 0])), (q_141, .inl (k_143, 128, .inl (fun _ => 0))), (q_144, .inr (13, [.ref q_145, .ref q_146, .ref q_147, .ref q_148, .int 0])), (q_147, .inl (k_149, 128, .inl (fun _ => 0)))] ++ pl) := hD
  refine va_putF (D := (dC, dI)) (ci := 15) (v := .ref q_124) (ty := .array (.object "MotionSignsModel$Poly")) (C := RX15) (T := TX15) (N := 89) hx hb hts (in_X15_init_X15) tyX15 tyX15_ok nmX15 hown hK hP hD hS 0 rfl rfl 38 (by decide) (hts (.fieldLink RX15 155 "MotionSignsModel" "by" "[LMotionSignsModel$Poly;") (List.mem_of_getElem? (i := 39) rfl)) (fun _ h9 => h9) rfl hin rfl (tyX15_ok 38 (by decide)) rfl rfl (mF.lt hF (by decide)) dX15_init_420 ?_
  clear hP hD hS; try clear H
  intro H locs hP hD hS
  have hF1 := mF.pass hF 38 (.ref q_124) (by decide) rfl
  replace hP : va_P (dC, dI) vwCl ([(h0, .inr (15, (fs_123.set 38 (.ref q_124)))), (q_124, .inl (k_125, 4, .inr (.inr (.inr (.inr (va_up (va_up (va_up (va_up (fun _ => none) (0 : Int32).toNatClampNeg (some q_126)) (1 : Int32).toNatClampNeg (some q_132)) (2 : Int32).toNatClampNeg (some q_138)) (3 : Int32).toNatClampNeg (some q_144))))))), (q_126, .inr (13, [.ref q_127, .ref q_128, .ref q_129, .ref q_130, .int 0])), (q_129, .inl (k_131, 128, .inl (fun _ => 0))), (q_132, .inr (13, [.ref q_133, .ref q_134, .ref q_135, .ref q_136, .int 0])), (q_135, .inl (k_137, 128, .inl (fun _ => 0))), (q_138, .inr (13, [.ref q_139, .ref q_140, .ref q_141, .ref q_142, .int 0])), (q_141, .inl (k_143, 128, .inl (fun _ => 0))), (q_144, .inr (13, [.ref q_145, .ref q_146, .ref q_147, .ref q_148, .int 0])), (q_147, .inl (k_149, 128, .inl (fun _ => 0)))] ++ pl) H := hP
  replace hD : va_D A ([(h0, .inr (15, (fs_123.set 38 (.ref q_124)))), (q_124, .inl (k_125, 4, .inr (.inr (.inr (.inr (va_up (va_up (va_up (va_up (fun _ => none) (0 : Int32).toNatClampNeg (some q_126)) (1 : Int32).toNatClampNeg (some q_132)) (2 : Int32).toNatClampNeg (some q_138)) (3 : Int32).toNatClampNeg (some q_144))))))), (q_126, .inr (13, [.ref q_127, .ref q_128, .ref q_129, .ref q_130, .int 0])), (q_129, .inl (k_131, 128, .inl (fun _ => 0))), (q_132, .inr (13, [.ref q_133, .ref q_134, .ref q_135, .ref q_136, .int 0])), (q_135, .inl (k_137, 128, .inl (fun _ => 0))), (q_138, .inr (13, [.ref q_139, .ref q_140, .ref q_141, .ref q_142, .int 0])), (q_141, .inl (k_143, 128, .inl (fun _ => 0))), (q_144, .inr (13, [.ref q_145, .ref q_146, .ref q_147, .ref q_148, .int 0])), (q_147, .inl (k_149, 128, .inl (fun _ => 0)))] ++ pl) := hD
  generalize fs_123.set 38 (.ref q_124) = fs_150 at hP hD hF1
  replace hF : mF 89 [(36, .ref q_113), (33, .ref q_99), (31, .ref q_57), (30, .ref q_50), (26, .ref q_47), (20, .int (-1)), (17, .int (-1)), (14, .ref q_39), (13, .ref q_35), (0, .int 0), (18, .int 0), (19, .int 0), (21, .int 0), (22, .int 0), (23, .int 0), (24, .int 0), (25, .int 0), (27, .int 0), (28, .int 0), (29, .int 0), (35, .int 0)] fs_150 := hF1
  clear hF1
  replace hP : va_P (dC, dI) vwCl ([(h0, .inr (15, fs_150)), (q_124, .inl (k_125, 4, .inr (.inr (.inr (.inr (va_up (va_up (va_up (va_up (fun _ => none) (0 : Int32).toNatClampNeg (some q_126)) (1 : Int32).toNatClampNeg (some q_132)) (2 : Int32).toNatClampNeg (some q_138)) (3 : Int32).toNatClampNeg (some q_144))))))), (q_126, .inr (13, [.ref q_127, .ref q_128, .ref q_129, .ref q_130, .int 0])), (q_129, .inl (k_131, 128, .inl (fun _ => 0))), (q_132, .inr (13, [.ref q_133, .ref q_134, .ref q_135, .ref q_136, .int 0])), (q_135, .inl (k_137, 128, .inl (fun _ => 0))), (q_138, .inr (13, [.ref q_139, .ref q_140, .ref q_141, .ref q_142, .int 0])), (q_141, .inl (k_143, 128, .inl (fun _ => 0))), (q_144, .inr (13, [.ref q_145, .ref q_146, .ref q_147, .ref q_148, .int 0])), (q_147, .inl (k_149, 128, .inl (fun _ => 0)))] ++ pl) H := hP
  replace hD : va_D A ([(h0, .inr (15, fs_150)), (q_124, .inl (k_125, 4, .inr (.inr (.inr (.inr (va_up (va_up (va_up (va_up (fun _ => none) (0 : Int32).toNatClampNeg (some q_126)) (1 : Int32).toNatClampNeg (some q_132)) (2 : Int32).toNatClampNeg (some q_138)) (3 : Int32).toNatClampNeg (some q_144))))))), (q_126, .inr (13, [.ref q_127, .ref q_128, .ref q_129, .ref q_130, .int 0])), (q_129, .inl (k_131, 128, .inl (fun _ => 0))), (q_132, .inr (13, [.ref q_133, .ref q_134, .ref q_135, .ref q_136, .int 0])), (q_135, .inl (k_137, 128, .inl (fun _ => 0))), (q_138, .inr (13, [.ref q_139, .ref q_140, .ref q_141, .ref q_142, .int 0])), (q_141, .inl (k_143, 128, .inl (fun _ => 0))), (q_144, .inr (13, [.ref q_145, .ref q_146, .ref q_147, .ref q_148, .int 0])), (q_147, .inl (k_149, 128, .inl (fun _ => 0)))] ++ pl) := hD
  replace hP := wm_subP (X' := [(h0, .inr (15, fs_150))]) hP [0] rfl
  replace hD := wm_subD (X' := [(h0, .inr (15, fs_150))]) hD [0] (by decide) rfl
  replace hK := hK.sub (tys' := []) [] rfl
  refine lv_aload_n hx hb dX15_init_423 rfl (lv_at hl 0 rfl) ?_
  refine va_new (ci := 13) (fs := [.null, .null, .null, .null, .int 0]) (C := RX13) (T := TX13) (N := 5) hx hb hts (in_X15_init_X13) tyX13 tyX13_ok hown (hts (.classLink RX15 127 RX13) (List.mem_of_getElem? (i := 29) rfl)) (hts (.instantiable RX13 5) (List.mem_of_getElem? (i := 30) rfl)) (hts (.initialized RX13) (List.mem_of_getElem? (i := 31) rfl)) hK hP hD hS hA rfl (fun j hj => by rcases (show j = 0 ∨ j = 1 ∨ j = 2 ∨ j = 3 ∨ j = 4 by omega) with rfl | rfl | rfl | rfl | rfl <;> rfl) (Nat.le_of_ble_eq_true rfl) (Nat.le_of_ble_eq_true rfl) dX15_init_424 ?_
  clear hP hD hS; try clear H
  intro q_151 H hP hD hS
  replace hP := va_P.swap hP; replace hD := va_D.swap hD
  replace hP : va_P (dC, dI) vwCl ([(h0, .inr (15, fs_150)), (q_151, .inr (13, [.null, .null, .null, .null, .int 0]))] ++ pl) H := hP
  replace hD : va_D A ([(h0, .inr (15, fs_150)), (q_151, .inr (13, [.null, .null, .null, .null, .int 0]))] ++ pl) := hD
  refine lv_dup hx hb dX15_init_427 rfl ?_
  refine lv_bipush (v := 64) hx hb dX15_init_428 (by decide) ?_
  have hPc := hP.sub (ws' := [(q_151, .inr (13, [.null, .null, .null, .null, .int 0]))]) [1] rfl
  have hDc := hD.sub (ws' := [(q_151, .inr (13, [.null, .null, .null, .null, .int 0]))]) [1] (by decide) rfl
  have hKc := hK.sub (tys' := []) [] rfl
  have hFc := va_free (wc := [(q_151, .inr (13, [.null, .null, .null, .null, .int 0]))]) hD hS hA [1] rfl
  refine va_callv (va_runIN (As := [.int 64]) (rest := [.ref q_151, .ref h0]) ⟨hx, hb, hml, hown, hts⟩ (c_X13_init_64 l dC dI q_151 H.size) ⟨va_cnB 1 hts gM15_X13 rfl rfl rfl (hN.1 (RX15, 129, yX13_init, RX15) (List.mem_of_getElem? (i := 28) rfl)) (hts (.initialized RX13) (List.mem_of_getElem? (i := 31) rfl)) hd_X13_init ⟨Nat.le_of_ble_eq_true rfl, Nat.le_of_ble_eq_true rfl⟩, rfl, (hts (.instanceMethod yX13_init) (List.mem_of_getElem? (i := 100) rfl))⟩ ⟨fun a U g mk q => by obtain ⟨q0, q1, qP, qK, qD, qE0⟩ := q; exact ⟨q0, q1, qP, va_K.moved (u := U) (U := U.calling g mk a) (Vm.Alike.refl U.vm) qK, qD, w_N.same rfl qE0⟩, fun U hU hW => ⟨rfl, by rw [hU], by rw [hU]; exact hPc, va_K.moved hW.alike hKc, hDc.weaken (fun _ _ _ _ => trivial), w_N.warm hW hN⟩⟩ rfl rfl hl.1 rfl (lv_room (Nat.le_of_ble_eq_true rfl)) dX15_init_430 ⟨(Nat.le_of_ble_eq_true rfl), (Nat.le_of_ble_eq_true rfl)⟩) hS (fun q _ h => hFc q h) hFc (fun u t H1 locs1 ht hvm hw hB hz1 hk1 hS1 => ?_)
  obtain ⟨q_152, q_153, q_154, q_155, k_156, hP1, hK1, hD1⟩ := hB
  rw [ht] at hP1
  have hK1 := va_K.moved hvm.symm hK1
  have hJ := va_joinQ (wr := [(h0, .inr (15, fs_150))]) (w1 := [(q_151, .inr (13, [.ref q_152, .ref q_153, .ref q_154, .ref q_155, .int 0])), (q_154, .inl (k_156, 128, .inl (fun _ => 0)))]) hP hD [1] [0] rfl rfl (by decide) (by decide) hk1 hFc hP1 hD1
  clear hP hD hPc hDc hKc hFc hz1 hw; try clear hk1
  obtain ⟨hP, hD⟩ := hJ
  replace hK := (hK.sub (tys' := []) [] rfl).app (hK1.sub (tys' := [(k_156, .int)]) [0] rfl)
  clear hP1 hK1 hD1 hvm ht hS; try clear t
  try clear H
  revert hS1
  intro hS
  generalize H1 = H at hP hS ⊢; try clear H1
  replace hP : va_P (dC, dI) vwCl ([(h0, .inr (15, fs_150)), (q_151, .inr (13, [.ref q_152, .ref q_153, .ref q_154, .ref q_155, .int 0])), (q_154, .inl (k_156, 128, .inl (fun _ => 0)))] ++ pl) H := hP
  replace hD : va_D A ([(h0, .inr (15, fs_150)), (q_151, .inr (13, [.ref q_152, .ref q_153, .ref q_154, .ref q_155, .int 0])), (q_154, .inl (k_156, 128, .inl (fun _ => 0)))] ++ pl) := hD
  replace hK : va_K (dC, dI) vwCl [(k_156, .int)] s := hK
  refine va_putF (D := (dC, dI)) (ci := 15) (v := .ref q_151) (ty := .object "MotionSignsModel$Poly") (C := RX15) (T := TX15) (N := 89) hx hb hts (in_X15_init_X15) tyX15 tyX15_ok nmX15 hown hK hP hD hS 0 rfl rfl 39 (by decide) (hts (.fieldLink RX15 158 "MotionSignsModel" "byX" "LMotionSignsModel$Poly;") (List.mem_of_getElem? (i := 40) rfl)) (fun _ h9 => h9) rfl hin rfl (tyX15_ok 39 (by decide)) rfl rfl (mF.lt hF (by decide)) dX15_init_433 ?_
  clear hP hD hS; try clear H
  intro H locs hP hD hS
  have hF1 := mF.pass hF 39 (.ref q_151) (by decide) rfl
  replace hP : va_P (dC, dI) vwCl ([(h0, .inr (15, (fs_150.set 39 (.ref q_151)))), (q_151, .inr (13, [.ref q_152, .ref q_153, .ref q_154, .ref q_155, .int 0])), (q_154, .inl (k_156, 128, .inl (fun _ => 0)))] ++ pl) H := hP
  replace hD : va_D A ([(h0, .inr (15, (fs_150.set 39 (.ref q_151)))), (q_151, .inr (13, [.ref q_152, .ref q_153, .ref q_154, .ref q_155, .int 0])), (q_154, .inl (k_156, 128, .inl (fun _ => 0)))] ++ pl) := hD
  generalize fs_150.set 39 (.ref q_151) = fs_157 at hP hD hF1
  replace hF : mF 89 [(36, .ref q_113), (33, .ref q_99), (31, .ref q_57), (30, .ref q_50), (26, .ref q_47), (20, .int (-1)), (17, .int (-1)), (14, .ref q_39), (13, .ref q_35), (0, .int 0), (18, .int 0), (19, .int 0), (21, .int 0), (22, .int 0), (23, .int 0), (24, .int 0), (25, .int 0), (27, .int 0), (28, .int 0), (29, .int 0), (35, .int 0)] fs_157 := hF1
  clear hF1
  replace hP : va_P (dC, dI) vwCl ([(h0, .inr (15, fs_157)), (q_151, .inr (13, [.ref q_152, .ref q_153, .ref q_154, .ref q_155, .int 0])), (q_154, .inl (k_156, 128, .inl (fun _ => 0)))] ++ pl) H := hP
  replace hD : va_D A ([(h0, .inr (15, fs_157)), (q_151, .inr (13, [.ref q_152, .ref q_153, .ref q_154, .ref q_155, .int 0])), (q_154, .inl (k_156, 128, .inl (fun _ => 0)))] ++ pl) := hD
  replace hP := wm_subP (X' := [(h0, .inr (15, fs_157))]) hP [0] rfl
  replace hD := wm_subD (X' := [(h0, .inr (15, fs_157))]) hD [0] (by decide) rfl
  replace hK := hK.sub (tys' := []) [] rfl
  exact kont fs_157 H locs ls hP hD hK hS hl hF
set_option maxHeartbeats 40000000 in
set_option maxRecDepth 100000 in
/-- the reference: MotionSignsModel(), rows 436 to 554 -/
theorem c_X15_init_s5 {p : Program} {l : Launch} {e : Env} {s : State} {m : MethodId} {below : List Frame} {meth : Method} {c : Code} {A : Nat → Prop} {Q0 : State → Prop} {dC : Nat → ClassId} {dI : Nat → Nat → Nat} {h0 : Nat} {fs_157 : List Value} {q_113 : Nat} {q_99 : Nat} {q_57 : Nat} {q_50 : Nat} {q_47 : Nat} {q_39 : Nat} {q_35 : Nat} (hx : p.tables.exec = Jvm.exec) (hb : c.code = cX15_init) (hml : c.maxLocals = 3) (hts : ∀ w ∈ wsM15, w.before ([.ref h0] : List Value).toArray s = true) (hown : s.vm.findClass RX15 = some m.cls) (hin : meth.name = "<init>") (hA : ∀ q : Nat, s.heap.size ≤ q → A q) (hN : w_N s) (pl : va_W) {H : Heap} {locs : List Loc} {ls : Array Slot} (hP : va_P (dC, dI) vwCl ([(h0, .inr (15, fs_157))] ++ pl) H) (hD : va_D A ([(h0, .inr (15, fs_157))] ++ pl)) (hK : va_K (dC, dI) vwCl [] s) (hS : va_S A s.heap H locs) (hl : lv_has ls 3 [(0, .ref h0)]) (hF : mF 89 [(36, .ref q_113), (33, .ref q_99), (31, .ref q_57), (30, .ref q_50), (26, .ref q_47), (20, .int (-1)), (17, .int (-1)), (14, .ref q_39), (13, .ref q_35), (0, .int 0), (18, .int 0), (19, .int 0), (21, .int 0), (22, .int 0), (23, .int 0), (24, .int 0), (25, .int 0), (27, .int 0), (28, .int 0), (29, .int 0), (35, .int 0)] fs_157) (kont : ∀ (fs_212 : List Value) (H : Heap) (locs : List Loc) (ls : Array Slot), va_P (dC, dI) vwCl ([(h0, .inr (15, fs_212))] ++ pl) H → va_D A ([(h0, .inr (15, fs_212))] ++ pl) → va_K (dC, dI) vwCl [] s → va_S A s.heap H locs → lv_has ls 3 [(0, .ref h0)] → mF 89 [(36, .ref q_113), (33, .ref q_99), (31, .ref q_57), (30, .ref q_50), (26, .ref q_47), (20, .int (-1)), (17, .int (-1)), (14, .ref q_39), (13, .ref q_35), (0, .int 0), (18, .int 0), (19, .int 0), (21, .int 0), (22, .int 0), (23, .int 0), (24, .int 0), (25, .int 0), (27, .int 0), (28, .int 0), (29, .int 0), (35, .int 0)] fs_212 → W p l e ({ frames := 3, cells := 7193, slots := 3261971, locals := 56 } : Room) s m ([.ref h0] : List Value).toArray below meth c H locs 3844 577077 Q0 (F0 m 554 ls [])) : W p l e ({ frames := 3, cells := 7193, slots := 3261971, locals := 56 } : Room) s m ([.ref h0] : List Value).toArray below meth c H locs 3802 522310 Q0 (F0 m 436 ls []) := by
  refine lv_aload_n hx hb dX15_init_436 rfl (lv_at hl 0 rfl) ?_
  refine va_new (ci := 13) (fs := [.null, .null, .null, .null, .int 0]) (C := RX13) (T := TX13) (N := 5) hx hb hts (in_X15_init_X13) tyX13 tyX13_ok hown (hts (.classLink RX15 127 RX13) (List.mem_of_getElem? (i := 29) rfl)) (hts (.instantiable RX13 5) (List.mem_of_getElem? (i := 30) rfl)) (hts (.initialized RX13) (List.mem_of_getElem? (i := 31) rfl)) hK hP hD hS hA rfl (fun j hj => by rcases (show j = 0 ∨ j = 1 ∨ j = 2 ∨ j = 3 ∨ j = 4 by omega) with rfl | rfl | rfl | rfl | rfl <;> rfl) (Nat.le_of_ble_eq_true rfl) (Nat.le_of_ble_eq_true rfl) dX15_init_437 ?_
  clear hP hD hS; try clear H
  intro q_158 H hP hD hS
  replace hP := va_P.swap hP; replace hD := va_D.swap hD
  replace hP : va_P (dC, dI) vwCl ([(h0, .inr (15, fs_157)), (q_158, .inr (13, [.null, .null, .null, .null, .int 0]))] ++ pl) H := hP
  replace hD : va_D A ([(h0, .inr (15, fs_157)), (q_158, .inr (13, [.null, .null, .null, .null, .int 0]))] ++ pl) := hD
  refine lv_dup hx hb dX15_init_440 rfl ?_
  refine lv_bipush (v := 64) hx hb dX15_init_441 (by decide) ?_
  have hPc := hP.sub (ws' := [(q_158, .inr (13, [.null, .null, .null, .null, .int 0]))]) [1] rfl
  have hDc := hD.sub (ws' := [(q_158, .inr (13, [.null, .null, .null, .null, .int 0]))]) [1] (by decide) rfl
  have hKc := hK.sub (tys' := []) [] rfl
  have hFc := va_free (wc := [(q_158, .inr (13, [.null, .null, .null, .null, .int 0]))]) hD hS hA [1] rfl
  refine va_callv (va_runIN (As := [.int 64]) (rest := [.ref q_158, .ref h0]) ⟨hx, hb, hml, hown, hts⟩ (c_X13_init_64 l dC dI q_158 H.size) ⟨va_cnB 1 hts gM15_X13 rfl rfl rfl (hN.1 (RX15, 129, yX13_init, RX15) (List.mem_of_getElem? (i := 28) rfl)) (hts (.initialized RX13) (List.mem_of_getElem? (i := 31) rfl)) hd_X13_init ⟨Nat.le_of_ble_eq_true rfl, Nat.le_of_ble_eq_true rfl⟩, rfl, (hts (.instanceMethod yX13_init) (List.mem_of_getElem? (i := 100) rfl))⟩ ⟨fun a U g mk q => by obtain ⟨q0, q1, qP, qK, qD, qE0⟩ := q; exact ⟨q0, q1, qP, va_K.moved (u := U) (U := U.calling g mk a) (Vm.Alike.refl U.vm) qK, qD, w_N.same rfl qE0⟩, fun U hU hW => ⟨rfl, by rw [hU], by rw [hU]; exact hPc, va_K.moved hW.alike hKc, hDc.weaken (fun _ _ _ _ => trivial), w_N.warm hW hN⟩⟩ rfl rfl hl.1 rfl (lv_room (Nat.le_of_ble_eq_true rfl)) dX15_init_443 ⟨(Nat.le_of_ble_eq_true rfl), (Nat.le_of_ble_eq_true rfl)⟩) hS (fun q _ h => hFc q h) hFc (fun u t H1 locs1 ht hvm hw hB hz1 hk1 hS1 => ?_)
  obtain ⟨q_159, q_160, q_161, q_162, k_163, hP1, hK1, hD1⟩ := hB
  rw [ht] at hP1
  have hK1 := va_K.moved hvm.symm hK1
  have hJ := va_joinQ (wr := [(h0, .inr (15, fs_157))]) (w1 := [(q_158, .inr (13, [.ref q_159, .ref q_160, .ref q_161, .ref q_162, .int 0])), (q_161, .inl (k_163, 128, .inl (fun _ => 0)))]) hP hD [1] [0] rfl rfl (by decide) (by decide) hk1 hFc hP1 hD1
  clear hP hD hPc hDc hKc hFc hz1 hw; try clear hk1
  obtain ⟨hP, hD⟩ := hJ
  replace hK := (hK.sub (tys' := []) [] rfl).app (hK1.sub (tys' := [(k_163, .int)]) [0] rfl)
  clear hP1 hK1 hD1 hvm ht hS; try clear t
  try clear H
  revert hS1
  intro hS
  generalize H1 = H at hP hS ⊢; try clear H1
  replace hP : va_P (dC, dI) vwCl ([(h0, .inr (15, fs_157)), (q_158, .inr (13, [.ref q_159, .ref q_160, .ref q_161, .ref q_162, .int 0])), (q_161, .inl (k_163, 128, .inl (fun _ => 0)))] ++ pl) H := hP
  replace hD : va_D A ([(h0, .inr (15, fs_157)), (q_158, .inr (13, [.ref q_159, .ref q_160, .ref q_161, .ref q_162, .int 0])), (q_161, .inl (k_163, 128, .inl (fun _ => 0)))] ++ pl) := hD
  replace hK : va_K (dC, dI) vwCl [(k_163, .int)] s := hK
  refine va_putF (D := (dC, dI)) (ci := 15) (v := .ref q_158) (ty := .object "MotionSignsModel$Poly") (C := RX15) (T := TX15) (N := 89) hx hb hts (in_X15_init_X15) tyX15 tyX15_ok nmX15 hown hK hP hD hS 0 rfl rfl 40 (by decide) (hts (.fieldLink RX15 161 "MotionSignsModel" "byT" "LMotionSignsModel$Poly;") (List.mem_of_getElem? (i := 41) rfl)) (fun _ h9 => h9) rfl hin rfl (tyX15_ok 40 (by decide)) rfl rfl (mF.lt hF (by decide)) dX15_init_446 ?_
  clear hP hD hS; try clear H
  intro H locs hP hD hS
  have hF1 := mF.pass hF 40 (.ref q_158) (by decide) rfl
  replace hP : va_P (dC, dI) vwCl ([(h0, .inr (15, (fs_157.set 40 (.ref q_158)))), (q_158, .inr (13, [.ref q_159, .ref q_160, .ref q_161, .ref q_162, .int 0])), (q_161, .inl (k_163, 128, .inl (fun _ => 0)))] ++ pl) H := hP
  replace hD : va_D A ([(h0, .inr (15, (fs_157.set 40 (.ref q_158)))), (q_158, .inr (13, [.ref q_159, .ref q_160, .ref q_161, .ref q_162, .int 0])), (q_161, .inl (k_163, 128, .inl (fun _ => 0)))] ++ pl) := hD
  generalize fs_157.set 40 (.ref q_158) = fs_164 at hP hD hF1
  replace hF : mF 89 [(36, .ref q_113), (33, .ref q_99), (31, .ref q_57), (30, .ref q_50), (26, .ref q_47), (20, .int (-1)), (17, .int (-1)), (14, .ref q_39), (13, .ref q_35), (0, .int 0), (18, .int 0), (19, .int 0), (21, .int 0), (22, .int 0), (23, .int 0), (24, .int 0), (25, .int 0), (27, .int 0), (28, .int 0), (29, .int 0), (35, .int 0)] fs_164 := hF1
  clear hF1
  replace hP : va_P (dC, dI) vwCl ([(h0, .inr (15, fs_164)), (q_158, .inr (13, [.ref q_159, .ref q_160, .ref q_161, .ref q_162, .int 0])), (q_161, .inl (k_163, 128, .inl (fun _ => 0)))] ++ pl) H := hP
  replace hD : va_D A ([(h0, .inr (15, fs_164)), (q_158, .inr (13, [.ref q_159, .ref q_160, .ref q_161, .ref q_162, .int 0])), (q_161, .inl (k_163, 128, .inl (fun _ => 0)))] ++ pl) := hD
  replace hP := wm_subP (X' := [(h0, .inr (15, fs_164))]) hP [0] rfl
  replace hD := wm_subD (X' := [(h0, .inr (15, fs_164))]) hD [0] (by decide) rfl
  replace hK := hK.sub (tys' := []) [] rfl
  refine lv_aload_n hx hb dX15_init_449 rfl (lv_at hl 0 rfl) ?_
  refine lv_iconst (v := 3) hx hb dX15_init_450 (by decide) ?_
  refine va_newq (C := RX13) (N' := 3) hx hb hown (hts (.classLink RX15 127 RX13) (List.mem_of_getElem? (i := 29) rfl)) (hN.2.2.1 RX13 (List.mem_of_getElem? (i := 5) rfl)) hK hP hD hS hA (by decide) (by decide) (Nat.le_of_ble_eq_true rfl) (Nat.le_of_ble_eq_true rfl) (Nat.le_of_ble_eq_true rfl) dX15_init_451 ?_
  clear hP hD hS hK; try clear H
  intro q_165 k_166 H hK hP hD hS
  replace hP := va_P.swap hP; replace hD := va_D.swap hD
  replace hP : va_P (dC, dI) vwCl ([(h0, .inr (15, fs_164)), (q_165, .inl (k_166, 3, .inr (.inr (.inr (.inr (fun _ => none))))))] ++ pl) H := hP
  replace hD : va_D A ([(h0, .inr (15, fs_164)), (q_165, .inl (k_166, 3, .inr (.inr (.inr (.inr (fun _ => none))))))] ++ pl) := hD
  replace hK : va_K (dC, dI) vwCl [(k_166, .object RX13)] s := hK
  refine lv_dup hx hb dX15_init_454 rfl ?_
  refine lv_iconst (v := 0) hx hb dX15_init_455 (by decide) ?_
  refine va_new (ci := 13) (fs := [.null, .null, .null, .null, .int 0]) (C := RX13) (T := TX13) (N := 5) hx hb hts (in_X15_init_X13) tyX13 tyX13_ok hown (hts (.classLink RX15 127 RX13) (List.mem_of_getElem? (i := 29) rfl)) (hts (.instantiable RX13 5) (List.mem_of_getElem? (i := 30) rfl)) (hts (.initialized RX13) (List.mem_of_getElem? (i := 31) rfl)) hK hP hD hS hA rfl (fun j hj => by rcases (show j = 0 ∨ j = 1 ∨ j = 2 ∨ j = 3 ∨ j = 4 by omega) with rfl | rfl | rfl | rfl | rfl <;> rfl) (Nat.le_of_ble_eq_true rfl) (Nat.le_of_ble_eq_true rfl) dX15_init_456 ?_
  clear hP hD hS; try clear H
  intro q_167 H hP hD hS
  replace hP := va_P.swap hP; replace hD := va_D.swap hD
  replace hP : va_P (dC, dI) vwCl ([(h0, .inr (15, fs_164)), (q_165, .inl (k_166, 3, .inr (.inr (.inr (.inr (fun _ => none)))))), (q_167, .inr (13, [.null, .null, .null, .null, .int 0]))] ++ pl) H := hP
  replace hD : va_D A ([(h0, .inr (15, fs_164)), (q_165, .inl (k_166, 3, .inr (.inr (.inr (.inr (fun _ => none)))))), (q_167, .inr (13, [.null, .null, .null, .null, .int 0]))] ++ pl) := hD
  refine lv_dup hx hb dX15_init_459 rfl ?_
  refine lv_bipush (v := 64) hx hb dX15_init_460 (by decide) ?_
  have hPc := hP.sub (ws' := [(q_167, .inr (13, [.null, .null, .null, .null, .int 0]))]) [2] rfl
  have hDc := hD.sub (ws' := [(q_167, .inr (13, [.null, .null, .null, .null, .int 0]))]) [2] (by decide) rfl
  have hKc := hK.sub (tys' := []) [] rfl
  have hFc := va_free (wc := [(q_167, .inr (13, [.null, .null, .null, .null, .int 0]))]) hD hS hA [2] rfl
  refine va_callv (va_runIN (As := [.int 64]) (rest := [.ref q_167, .int 0, .ref q_165, .ref q_165, .ref h0]) ⟨hx, hb, hml, hown, hts⟩ (c_X13_init_64 l dC dI q_167 H.size) ⟨va_cnB 1 hts gM15_X13 rfl rfl rfl (hN.1 (RX15, 129, yX13_init, RX15) (List.mem_of_getElem? (i := 28) rfl)) (hts (.initialized RX13) (List.mem_of_getElem? (i := 31) rfl)) hd_X13_init ⟨Nat.le_of_ble_eq_true rfl, Nat.le_of_ble_eq_true rfl⟩, rfl, (hts (.instanceMethod yX13_init) (List.mem_of_getElem? (i := 100) rfl))⟩ ⟨fun a U g mk q => by obtain ⟨q0, q1, qP, qK, qD, qE0⟩ := q; exact ⟨q0, q1, qP, va_K.moved (u := U) (U := U.calling g mk a) (Vm.Alike.refl U.vm) qK, qD, w_N.same rfl qE0⟩, fun U hU hW => ⟨rfl, by rw [hU], by rw [hU]; exact hPc, va_K.moved hW.alike hKc, hDc.weaken (fun _ _ _ _ => trivial), w_N.warm hW hN⟩⟩ rfl rfl hl.1 rfl (lv_room (Nat.le_of_ble_eq_true rfl)) dX15_init_462 ⟨(Nat.le_of_ble_eq_true rfl), (Nat.le_of_ble_eq_true rfl)⟩) hS (fun q _ h => hFc q h) hFc (fun u t H1 locs1 ht hvm hw hB hz1 hk1 hS1 => ?_)
  obtain ⟨q_168, q_169, q_170, q_171, k_172, hP1, hK1, hD1⟩ := hB
  rw [ht] at hP1
  have hK1 := va_K.moved hvm.symm hK1
  have hJ := va_joinQ (wr := [(h0, .inr (15, fs_164)), (q_165, .inl (k_166, 3, .inr (.inr (.inr (.inr (fun _ => none))))))]) (w1 := [(q_167, .inr (13, [.ref q_168, .ref q_169, .ref q_170, .ref q_171, .int 0])), (q_170, .inl (k_172, 128, .inl (fun _ => 0)))]) hP hD [2] [0, 1] rfl rfl (by decide) (by decide) hk1 hFc hP1 hD1
  clear hP hD hPc hDc hKc hFc hz1 hw; try clear hk1
  obtain ⟨hP, hD⟩ := hJ
  replace hK := (hK.sub (tys' := [(k_166, .object RX13)]) [0] rfl).app (hK1.sub (tys' := [(k_172, .int)]) [0] rfl)
  clear hP1 hK1 hD1 hvm ht hS; try clear t
  try clear H
  revert hS1
  intro hS
  generalize H1 = H at hP hS ⊢; try clear H1
  replace hP : va_P (dC, dI) vwCl ([(h0, .inr (15, fs_164)), (q_165, .inl (k_166, 3, .inr (.inr (.inr (.inr (fun _ => none)))))), (q_167, .inr (13, [.ref q_168, .ref q_169, .ref q_170, .ref q_171, .int 0])), (q_170, .inl (k_172, 128, .inl (fun _ => 0)))] ++ pl) H := hP
  replace hD : va_D A ([(h0, .inr (15, fs_164)), (q_165, .inl (k_166, 3, .inr (.inr (.inr (.inr (fun _ => none)))))), (q_167, .inr (13, [.ref q_168, .ref q_169, .ref q_170, .ref q_171, .int 0])), (q_170, .inl (k_172, 128, .inl (fun _ => 0)))] ++ pl) := hD
  replace hK : va_K (dC, dI) vwCl [(k_166, .object RX13), (k_172, .int)] s := hK
  refine va_astq hx hb hK hP hD hS 1 0 2 13 rfl rfl rfl rfl (by exact fun h => by rcases h with h | h <;> revert h <;> decide) dX15_init_465 ?_
  clear hP hD hS; try clear H
  intro H locs hP hD hS
  replace hP : va_P (dC, dI) vwCl ([(h0, .inr (15, fs_164)), (q_165, .inl (k_166, 3, .inr (.inr (.inr (.inr (va_up (fun _ => none) (0 : Int32).toNatClampNeg (some q_167))))))), (q_167, .inr (13, [.ref q_168, .ref q_169, .ref q_170, .ref q_171, .int 0])), (q_170, .inl (k_172, 128, .inl (fun _ => 0)))] ++ pl) H := hP
  replace hD : va_D A ([(h0, .inr (15, fs_164)), (q_165, .inl (k_166, 3, .inr (.inr (.inr (.inr (va_up (fun _ => none) (0 : Int32).toNatClampNeg (some q_167))))))), (q_167, .inr (13, [.ref q_168, .ref q_169, .ref q_170, .ref q_171, .int 0])), (q_170, .inl (k_172, 128, .inl (fun _ => 0)))] ++ pl) := hD
  refine lv_dup hx hb dX15_init_466 rfl ?_
  refine lv_iconst (v := 1) hx hb dX15_init_467 (by decide) ?_
  refine va_new (ci := 13) (fs := [.null, .null, .null, .null, .int 0]) (C := RX13) (T := TX13) (N := 5) hx hb hts (in_X15_init_X13) tyX13 tyX13_ok hown (hts (.classLink RX15 127 RX13) (List.mem_of_getElem? (i := 29) rfl)) (hts (.instantiable RX13 5) (List.mem_of_getElem? (i := 30) rfl)) (hts (.initialized RX13) (List.mem_of_getElem? (i := 31) rfl)) hK hP hD hS hA rfl (fun j hj => by rcases (show j = 0 ∨ j = 1 ∨ j = 2 ∨ j = 3 ∨ j = 4 by omega) with rfl | rfl | rfl | rfl | rfl <;> rfl) (Nat.le_of_ble_eq_true rfl) (Nat.le_of_ble_eq_true rfl) dX15_init_468 ?_
  clear hP hD hS; try clear H
  intro q_173 H hP hD hS
  replace hP := va_P.swap hP; replace hD := va_D.swap hD
  replace hP : va_P (dC, dI) vwCl ([(h0, .inr (15, fs_164)), (q_165, .inl (k_166, 3, .inr (.inr (.inr (.inr (va_up (fun _ => none) (0 : Int32).toNatClampNeg (some q_167))))))), (q_167, .inr (13, [.ref q_168, .ref q_169, .ref q_170, .ref q_171, .int 0])), (q_170, .inl (k_172, 128, .inl (fun _ => 0))), (q_173, .inr (13, [.null, .null, .null, .null, .int 0]))] ++ pl) H := hP
  replace hD : va_D A ([(h0, .inr (15, fs_164)), (q_165, .inl (k_166, 3, .inr (.inr (.inr (.inr (va_up (fun _ => none) (0 : Int32).toNatClampNeg (some q_167))))))), (q_167, .inr (13, [.ref q_168, .ref q_169, .ref q_170, .ref q_171, .int 0])), (q_170, .inl (k_172, 128, .inl (fun _ => 0))), (q_173, .inr (13, [.null, .null, .null, .null, .int 0]))] ++ pl) := hD
  refine lv_dup hx hb dX15_init_471 rfl ?_
  refine lv_sipush (v := 256) hx hb dX15_init_472 (by decide) ?_
  have hPc := hP.sub (ws' := [(q_173, .inr (13, [.null, .null, .null, .null, .int 0]))]) [4] rfl
  have hDc := hD.sub (ws' := [(q_173, .inr (13, [.null, .null, .null, .null, .int 0]))]) [4] (by decide) rfl
  have hKc := hK.sub (tys' := []) [] rfl
  have hFc := va_free (wc := [(q_173, .inr (13, [.null, .null, .null, .null, .int 0]))]) hD hS hA [4] rfl
  refine va_callv (va_runIN (As := [.int 256]) (rest := [.ref q_173, .int 1, .ref q_165, .ref q_165, .ref h0]) ⟨hx, hb, hml, hown, hts⟩ (c_X13_init_256 l dC dI q_173 H.size) ⟨va_cnB 1 hts gM15_X13 rfl rfl rfl (hN.1 (RX15, 129, yX13_init, RX15) (List.mem_of_getElem? (i := 28) rfl)) (hts (.initialized RX13) (List.mem_of_getElem? (i := 31) rfl)) hd_X13_init ⟨Nat.le_of_ble_eq_true rfl, Nat.le_of_ble_eq_true rfl⟩, rfl, (hts (.instanceMethod yX13_init) (List.mem_of_getElem? (i := 100) rfl))⟩ ⟨fun a U g mk q => by obtain ⟨q0, q1, qP, qK, qD, qE0⟩ := q; exact ⟨q0, q1, qP, va_K.moved (u := U) (U := U.calling g mk a) (Vm.Alike.refl U.vm) qK, qD, w_N.same rfl qE0⟩, fun U hU hW => ⟨rfl, by rw [hU], by rw [hU]; exact hPc, va_K.moved hW.alike hKc, hDc.weaken (fun _ _ _ _ => trivial), w_N.warm hW hN⟩⟩ rfl rfl hl.1 rfl (lv_room (Nat.le_of_ble_eq_true rfl)) dX15_init_475 ⟨(Nat.le_of_ble_eq_true rfl), (Nat.le_of_ble_eq_true rfl)⟩) hS (fun q _ h => hFc q h) hFc (fun u t H1 locs1 ht hvm hw hB hz1 hk1 hS1 => ?_)
  obtain ⟨q_174, q_175, q_176, q_177, k_178, hP1, hK1, hD1⟩ := hB
  rw [ht] at hP1
  have hK1 := va_K.moved hvm.symm hK1
  have hJ := va_joinQ (wr := [(h0, .inr (15, fs_164)), (q_165, .inl (k_166, 3, .inr (.inr (.inr (.inr (va_up (fun _ => none) (0 : Int32).toNatClampNeg (some q_167))))))), (q_167, .inr (13, [.ref q_168, .ref q_169, .ref q_170, .ref q_171, .int 0])), (q_170, .inl (k_172, 128, .inl (fun _ => 0)))]) (w1 := [(q_173, .inr (13, [.ref q_174, .ref q_175, .ref q_176, .ref q_177, .int 0])), (q_176, .inl (k_178, 512, .inl (fun _ => 0)))]) hP hD [4] [0, 1, 2, 3] rfl rfl (by decide) (by decide) hk1 hFc hP1 hD1
  clear hP hD hPc hDc hKc hFc hz1 hw; try clear hk1
  obtain ⟨hP, hD⟩ := hJ
  replace hK := (hK.sub (tys' := [(k_166, .object RX13), (k_172, .int)]) [0, 1] rfl).app (hK1.sub (tys' := [(k_178, .int)]) [0] rfl)
  clear hP1 hK1 hD1 hvm ht hS; try clear t
  try clear H
  revert hS1
  intro hS
  generalize H1 = H at hP hS ⊢; try clear H1
  replace hP : va_P (dC, dI) vwCl ([(h0, .inr (15, fs_164)), (q_165, .inl (k_166, 3, .inr (.inr (.inr (.inr (va_up (fun _ => none) (0 : Int32).toNatClampNeg (some q_167))))))), (q_167, .inr (13, [.ref q_168, .ref q_169, .ref q_170, .ref q_171, .int 0])), (q_170, .inl (k_172, 128, .inl (fun _ => 0))), (q_173, .inr (13, [.ref q_174, .ref q_175, .ref q_176, .ref q_177, .int 0])), (q_176, .inl (k_178, 512, .inl (fun _ => 0)))] ++ pl) H := hP
  replace hD : va_D A ([(h0, .inr (15, fs_164)), (q_165, .inl (k_166, 3, .inr (.inr (.inr (.inr (va_up (fun _ => none) (0 : Int32).toNatClampNeg (some q_167))))))), (q_167, .inr (13, [.ref q_168, .ref q_169, .ref q_170, .ref q_171, .int 0])), (q_170, .inl (k_172, 128, .inl (fun _ => 0))), (q_173, .inr (13, [.ref q_174, .ref q_175, .ref q_176, .ref q_177, .int 0])), (q_176, .inl (k_178, 512, .inl (fun _ => 0)))] ++ pl) := hD
  replace hK : va_K (dC, dI) vwCl [(k_166, .object RX13), (k_172, .int), (k_178, .int)] s := hK
  refine va_astq hx hb hK hP hD hS 1 0 4 13 rfl rfl rfl rfl (by exact fun h => by rcases h with h | h <;> revert h <;> decide) dX15_init_478 ?_
  clear hP hD hS; try clear H
  intro H locs hP hD hS
  replace hP : va_P (dC, dI) vwCl ([(h0, .inr (15, fs_164)), (q_165, .inl (k_166, 3, .inr (.inr (.inr (.inr (va_up (va_up (fun _ => none) (0 : Int32).toNatClampNeg (some q_167)) (1 : Int32).toNatClampNeg (some q_173))))))), (q_167, .inr (13, [.ref q_168, .ref q_169, .ref q_170, .ref q_171, .int 0])), (q_170, .inl (k_172, 128, .inl (fun _ => 0))), (q_173, .inr (13, [.ref q_174, .ref q_175, .ref q_176, .ref q_177, .int 0])), (q_176, .inl (k_178, 512, .inl (fun _ => 0)))] ++ pl) H := hP
  replace hD : va_D A ([(h0, .inr (15, fs_164)), (q_165, .inl (k_166, 3, .inr (.inr (.inr (.inr (va_up (va_up (fun _ => none) (0 : Int32).toNatClampNeg (some q_167)) (1 : Int32).toNatClampNeg (some q_173))))))), (q_167, .inr (13, [.ref q_168, .ref q_169, .ref q_170, .ref q_171, .int 0])), (q_170, .inl (k_172, 128, .inl (fun _ => 0))), (q_173, .inr (13, [.ref q_174, .ref q_175, .ref q_176, .ref q_177, .int 0])), (q_176, .inl (k_178, 512, .inl (fun _ => 0)))] ++ pl) := hD
  refine lv_dup hx hb dX15_init_479 rfl ?_
  refine lv_iconst (v := 2) hx hb dX15_init_480 (by decide) ?_
  refine va_new (ci := 13) (fs := [.null, .null, .null, .null, .int 0]) (C := RX13) (T := TX13) (N := 5) hx hb hts (in_X15_init_X13) tyX13 tyX13_ok hown (hts (.classLink RX15 127 RX13) (List.mem_of_getElem? (i := 29) rfl)) (hts (.instantiable RX13 5) (List.mem_of_getElem? (i := 30) rfl)) (hts (.initialized RX13) (List.mem_of_getElem? (i := 31) rfl)) hK hP hD hS hA rfl (fun j hj => by rcases (show j = 0 ∨ j = 1 ∨ j = 2 ∨ j = 3 ∨ j = 4 by omega) with rfl | rfl | rfl | rfl | rfl <;> rfl) (Nat.le_of_ble_eq_true rfl) (Nat.le_of_ble_eq_true rfl) dX15_init_481 ?_
  clear hP hD hS; try clear H
  intro q_179 H hP hD hS
  replace hP := va_P.swap hP; replace hD := va_D.swap hD
  replace hP : va_P (dC, dI) vwCl ([(h0, .inr (15, fs_164)), (q_165, .inl (k_166, 3, .inr (.inr (.inr (.inr (va_up (va_up (fun _ => none) (0 : Int32).toNatClampNeg (some q_167)) (1 : Int32).toNatClampNeg (some q_173))))))), (q_167, .inr (13, [.ref q_168, .ref q_169, .ref q_170, .ref q_171, .int 0])), (q_170, .inl (k_172, 128, .inl (fun _ => 0))), (q_173, .inr (13, [.ref q_174, .ref q_175, .ref q_176, .ref q_177, .int 0])), (q_176, .inl (k_178, 512, .inl (fun _ => 0))), (q_179, .inr (13, [.null, .null, .null, .null, .int 0]))] ++ pl) H := hP
  replace hD : va_D A ([(h0, .inr (15, fs_164)), (q_165, .inl (k_166, 3, .inr (.inr (.inr (.inr (va_up (va_up (fun _ => none) (0 : Int32).toNatClampNeg (some q_167)) (1 : Int32).toNatClampNeg (some q_173))))))), (q_167, .inr (13, [.ref q_168, .ref q_169, .ref q_170, .ref q_171, .int 0])), (q_170, .inl (k_172, 128, .inl (fun _ => 0))), (q_173, .inr (13, [.ref q_174, .ref q_175, .ref q_176, .ref q_177, .int 0])), (q_176, .inl (k_178, 512, .inl (fun _ => 0))), (q_179, .inr (13, [.null, .null, .null, .null, .int 0]))] ++ pl) := hD
  refine lv_dup hx hb dX15_init_484 rfl ?_
  refine lv_sipush (v := 1024) hx hb dX15_init_485 (by decide) ?_
  have hPc := hP.sub (ws' := [(q_179, .inr (13, [.null, .null, .null, .null, .int 0]))]) [6] rfl
  have hDc := hD.sub (ws' := [(q_179, .inr (13, [.null, .null, .null, .null, .int 0]))]) [6] (by decide) rfl
  have hKc := hK.sub (tys' := []) [] rfl
  have hFc := va_free (wc := [(q_179, .inr (13, [.null, .null, .null, .null, .int 0]))]) hD hS hA [6] rfl
  refine va_callv (va_runIN (As := [.int 1024]) (rest := [.ref q_179, .int 2, .ref q_165, .ref q_165, .ref h0]) ⟨hx, hb, hml, hown, hts⟩ (c_X13_init_1024 l dC dI q_179 H.size) ⟨va_cnB 1 hts gM15_X13 rfl rfl rfl (hN.1 (RX15, 129, yX13_init, RX15) (List.mem_of_getElem? (i := 28) rfl)) (hts (.initialized RX13) (List.mem_of_getElem? (i := 31) rfl)) hd_X13_init ⟨Nat.le_of_ble_eq_true rfl, Nat.le_of_ble_eq_true rfl⟩, rfl, (hts (.instanceMethod yX13_init) (List.mem_of_getElem? (i := 100) rfl))⟩ ⟨fun a U g mk q => by obtain ⟨q0, q1, qP, qK, qD, qE0⟩ := q; exact ⟨q0, q1, qP, va_K.moved (u := U) (U := U.calling g mk a) (Vm.Alike.refl U.vm) qK, qD, w_N.same rfl qE0⟩, fun U hU hW => ⟨rfl, by rw [hU], by rw [hU]; exact hPc, va_K.moved hW.alike hKc, hDc.weaken (fun _ _ _ _ => trivial), w_N.warm hW hN⟩⟩ rfl rfl hl.1 rfl (lv_room (Nat.le_of_ble_eq_true rfl)) dX15_init_488 ⟨(Nat.le_of_ble_eq_true rfl), (Nat.le_of_ble_eq_true rfl)⟩) hS (fun q _ h => hFc q h) hFc (fun u t H1 locs1 ht hvm hw hB hz1 hk1 hS1 => ?_)
  obtain ⟨q_180, q_181, q_182, q_183, k_184, hP1, hK1, hD1⟩ := hB
  rw [ht] at hP1
  have hK1 := va_K.moved hvm.symm hK1
  have hJ := va_joinQ (wr := [(h0, .inr (15, fs_164)), (q_165, .inl (k_166, 3, .inr (.inr (.inr (.inr (va_up (va_up (fun _ => none) (0 : Int32).toNatClampNeg (some q_167)) (1 : Int32).toNatClampNeg (some q_173))))))), (q_167, .inr (13, [.ref q_168, .ref q_169, .ref q_170, .ref q_171, .int 0])), (q_170, .inl (k_172, 128, .inl (fun _ => 0))), (q_173, .inr (13, [.ref q_174, .ref q_175, .ref q_176, .ref q_177, .int 0])), (q_176, .inl (k_178, 512, .inl (fun _ => 0)))]) (w1 := [(q_179, .inr (13, [.ref q_180, .ref q_181, .ref q_182, .ref q_183, .int 0])), (q_182, .inl (k_184, 2048, .inl (fun _ => 0)))]) hP hD [6] [0, 1, 2, 3, 4, 5] rfl rfl (by decide) (by decide) hk1 hFc hP1 hD1
  clear hP hD hPc hDc hKc hFc hz1 hw; try clear hk1
  obtain ⟨hP, hD⟩ := hJ
  replace hK := (hK.sub (tys' := [(k_166, .object RX13), (k_172, .int), (k_178, .int)]) [0, 1, 2] rfl).app (hK1.sub (tys' := [(k_184, .int)]) [0] rfl)
  clear hP1 hK1 hD1 hvm ht hS; try clear t
  try clear H
  revert hS1
  intro hS
  generalize H1 = H at hP hS ⊢; try clear H1
  replace hP : va_P (dC, dI) vwCl ([(h0, .inr (15, fs_164)), (q_165, .inl (k_166, 3, .inr (.inr (.inr (.inr (va_up (va_up (fun _ => none) (0 : Int32).toNatClampNeg (some q_167)) (1 : Int32).toNatClampNeg (some q_173))))))), (q_167, .inr (13, [.ref q_168, .ref q_169, .ref q_170, .ref q_171, .int 0])), (q_170, .inl (k_172, 128, .inl (fun _ => 0))), (q_173, .inr (13, [.ref q_174, .ref q_175, .ref q_176, .ref q_177, .int 0])), (q_176, .inl (k_178, 512, .inl (fun _ => 0))), (q_179, .inr (13, [.ref q_180, .ref q_181, .ref q_182, .ref q_183, .int 0])), (q_182, .inl (k_184, 2048, .inl (fun _ => 0)))] ++ pl) H := hP
  replace hD : va_D A ([(h0, .inr (15, fs_164)), (q_165, .inl (k_166, 3, .inr (.inr (.inr (.inr (va_up (va_up (fun _ => none) (0 : Int32).toNatClampNeg (some q_167)) (1 : Int32).toNatClampNeg (some q_173))))))), (q_167, .inr (13, [.ref q_168, .ref q_169, .ref q_170, .ref q_171, .int 0])), (q_170, .inl (k_172, 128, .inl (fun _ => 0))), (q_173, .inr (13, [.ref q_174, .ref q_175, .ref q_176, .ref q_177, .int 0])), (q_176, .inl (k_178, 512, .inl (fun _ => 0))), (q_179, .inr (13, [.ref q_180, .ref q_181, .ref q_182, .ref q_183, .int 0])), (q_182, .inl (k_184, 2048, .inl (fun _ => 0)))] ++ pl) := hD
  replace hK : va_K (dC, dI) vwCl [(k_166, .object RX13), (k_172, .int), (k_178, .int), (k_184, .int)] s := hK
  refine va_astq hx hb hK hP hD hS 1 0 6 13 rfl rfl rfl rfl (by exact fun h => by rcases h with h | h <;> revert h <;> decide) dX15_init_491 ?_
  clear hP hD hS; try clear H
  intro H locs hP hD hS
  replace hP : va_P (dC, dI) vwCl ([(h0, .inr (15, fs_164)), (q_165, .inl (k_166, 3, .inr (.inr (.inr (.inr (va_up (va_up (va_up (fun _ => none) (0 : Int32).toNatClampNeg (some q_167)) (1 : Int32).toNatClampNeg (some q_173)) (2 : Int32).toNatClampNeg (some q_179))))))), (q_167, .inr (13, [.ref q_168, .ref q_169, .ref q_170, .ref q_171, .int 0])), (q_170, .inl (k_172, 128, .inl (fun _ => 0))), (q_173, .inr (13, [.ref q_174, .ref q_175, .ref q_176, .ref q_177, .int 0])), (q_176, .inl (k_178, 512, .inl (fun _ => 0))), (q_179, .inr (13, [.ref q_180, .ref q_181, .ref q_182, .ref q_183, .int 0])), (q_182, .inl (k_184, 2048, .inl (fun _ => 0)))] ++ pl) H := hP
  replace hD : va_D A ([(h0, .inr (15, fs_164)), (q_165, .inl (k_166, 3, .inr (.inr (.inr (.inr (va_up (va_up (va_up (fun _ => none) (0 : Int32).toNatClampNeg (some q_167)) (1 : Int32).toNatClampNeg (some q_173)) (2 : Int32).toNatClampNeg (some q_179))))))), (q_167, .inr (13, [.ref q_168, .ref q_169, .ref q_170, .ref q_171, .int 0])), (q_170, .inl (k_172, 128, .inl (fun _ => 0))), (q_173, .inr (13, [.ref q_174, .ref q_175, .ref q_176, .ref q_177, .int 0])), (q_176, .inl (k_178, 512, .inl (fun _ => 0))), (q_179, .inr (13, [.ref q_180, .ref q_181, .ref q_182, .ref q_183, .int 0])), (q_182, .inl (k_184, 2048, .inl (fun _ => 0)))] ++ pl) := hD
  refine va_putF (D := (dC, dI)) (ci := 15) (v := .ref q_165) (ty := .array (.object "MotionSignsModel$Poly")) (C := RX15) (T := TX15) (N := 89) hx hb hts (in_X15_init_X15) tyX15 tyX15_ok nmX15 hown hK hP hD hS 0 rfl rfl 41 (by decide) (hts (.fieldLink RX15 164 "MotionSignsModel" "along" "[LMotionSignsModel$Poly;") (List.mem_of_getElem? (i := 42) rfl)) (fun _ h9 => h9) rfl hin rfl (tyX15_ok 41 (by decide)) rfl rfl (mF.lt hF (by decide)) dX15_init_492 ?_
  clear hP hD hS; try clear H
  intro H locs hP hD hS
  have hF1 := mF.pass hF 41 (.ref q_165) (by decide) rfl
  replace hP : va_P (dC, dI) vwCl ([(h0, .inr (15, (fs_164.set 41 (.ref q_165)))), (q_165, .inl (k_166, 3, .inr (.inr (.inr (.inr (va_up (va_up (va_up (fun _ => none) (0 : Int32).toNatClampNeg (some q_167)) (1 : Int32).toNatClampNeg (some q_173)) (2 : Int32).toNatClampNeg (some q_179))))))), (q_167, .inr (13, [.ref q_168, .ref q_169, .ref q_170, .ref q_171, .int 0])), (q_170, .inl (k_172, 128, .inl (fun _ => 0))), (q_173, .inr (13, [.ref q_174, .ref q_175, .ref q_176, .ref q_177, .int 0])), (q_176, .inl (k_178, 512, .inl (fun _ => 0))), (q_179, .inr (13, [.ref q_180, .ref q_181, .ref q_182, .ref q_183, .int 0])), (q_182, .inl (k_184, 2048, .inl (fun _ => 0)))] ++ pl) H := hP
  replace hD : va_D A ([(h0, .inr (15, (fs_164.set 41 (.ref q_165)))), (q_165, .inl (k_166, 3, .inr (.inr (.inr (.inr (va_up (va_up (va_up (fun _ => none) (0 : Int32).toNatClampNeg (some q_167)) (1 : Int32).toNatClampNeg (some q_173)) (2 : Int32).toNatClampNeg (some q_179))))))), (q_167, .inr (13, [.ref q_168, .ref q_169, .ref q_170, .ref q_171, .int 0])), (q_170, .inl (k_172, 128, .inl (fun _ => 0))), (q_173, .inr (13, [.ref q_174, .ref q_175, .ref q_176, .ref q_177, .int 0])), (q_176, .inl (k_178, 512, .inl (fun _ => 0))), (q_179, .inr (13, [.ref q_180, .ref q_181, .ref q_182, .ref q_183, .int 0])), (q_182, .inl (k_184, 2048, .inl (fun _ => 0)))] ++ pl) := hD
  generalize fs_164.set 41 (.ref q_165) = fs_185 at hP hD hF1
  replace hF : mF 89 [(36, .ref q_113), (33, .ref q_99), (31, .ref q_57), (30, .ref q_50), (26, .ref q_47), (20, .int (-1)), (17, .int (-1)), (14, .ref q_39), (13, .ref q_35), (0, .int 0), (18, .int 0), (19, .int 0), (21, .int 0), (22, .int 0), (23, .int 0), (24, .int 0), (25, .int 0), (27, .int 0), (28, .int 0), (29, .int 0), (35, .int 0)] fs_185 := hF1
  clear hF1
  replace hP : va_P (dC, dI) vwCl ([(h0, .inr (15, fs_185)), (q_165, .inl (k_166, 3, .inr (.inr (.inr (.inr (va_up (va_up (va_up (fun _ => none) (0 : Int32).toNatClampNeg (some q_167)) (1 : Int32).toNatClampNeg (some q_173)) (2 : Int32).toNatClampNeg (some q_179))))))), (q_167, .inr (13, [.ref q_168, .ref q_169, .ref q_170, .ref q_171, .int 0])), (q_170, .inl (k_172, 128, .inl (fun _ => 0))), (q_173, .inr (13, [.ref q_174, .ref q_175, .ref q_176, .ref q_177, .int 0])), (q_176, .inl (k_178, 512, .inl (fun _ => 0))), (q_179, .inr (13, [.ref q_180, .ref q_181, .ref q_182, .ref q_183, .int 0])), (q_182, .inl (k_184, 2048, .inl (fun _ => 0)))] ++ pl) H := hP
  replace hD : va_D A ([(h0, .inr (15, fs_185)), (q_165, .inl (k_166, 3, .inr (.inr (.inr (.inr (va_up (va_up (va_up (fun _ => none) (0 : Int32).toNatClampNeg (some q_167)) (1 : Int32).toNatClampNeg (some q_173)) (2 : Int32).toNatClampNeg (some q_179))))))), (q_167, .inr (13, [.ref q_168, .ref q_169, .ref q_170, .ref q_171, .int 0])), (q_170, .inl (k_172, 128, .inl (fun _ => 0))), (q_173, .inr (13, [.ref q_174, .ref q_175, .ref q_176, .ref q_177, .int 0])), (q_176, .inl (k_178, 512, .inl (fun _ => 0))), (q_179, .inr (13, [.ref q_180, .ref q_181, .ref q_182, .ref q_183, .int 0])), (q_182, .inl (k_184, 2048, .inl (fun _ => 0)))] ++ pl) := hD
  replace hP := wm_subP (X' := [(h0, .inr (15, fs_185))]) hP [0] rfl
  replace hD := wm_subD (X' := [(h0, .inr (15, fs_185))]) hD [0] (by decide) rfl
  replace hK := hK.sub (tys' := []) [] rfl
  refine lv_aload_n hx hb dX15_init_495 rfl (lv_at hl 0 rfl) ?_
  refine lv_iconst (v := 4) hx hb dX15_init_496 (by decide) ?_
  refine va_newq (C := RX13) (N' := 4) hx hb hown (hts (.classLink RX15 127 RX13) (List.mem_of_getElem? (i := 29) rfl)) (hN.2.2.1 RX13 (List.mem_of_getElem? (i := 5) rfl)) hK hP hD hS hA (by decide) (by decide) (Nat.le_of_ble_eq_true rfl) (Nat.le_of_ble_eq_true rfl) (Nat.le_of_ble_eq_true rfl) dX15_init_497 ?_
  clear hP hD hS hK; try clear H
  intro q_186 k_187 H hK hP hD hS
  replace hP := va_P.swap hP; replace hD := va_D.swap hD
  replace hP : va_P (dC, dI) vwCl ([(h0, .inr (15, fs_185)), (q_186, .inl (k_187, 4, .inr (.inr (.inr (.inr (fun _ => none))))))] ++ pl) H := hP
  replace hD : va_D A ([(h0, .inr (15, fs_185)), (q_186, .inl (k_187, 4, .inr (.inr (.inr (.inr (fun _ => none))))))] ++ pl) := hD
  replace hK : va_K (dC, dI) vwCl [(k_187, .object RX13)] s := hK
  refine lv_dup hx hb dX15_init_500 rfl ?_
  refine lv_iconst (v := 0) hx hb dX15_init_501 (by decide) ?_
  refine va_new (ci := 13) (fs := [.null, .null, .null, .null, .int 0]) (C := RX13) (T := TX13) (N := 5) hx hb hts (in_X15_init_X13) tyX13 tyX13_ok hown (hts (.classLink RX15 127 RX13) (List.mem_of_getElem? (i := 29) rfl)) (hts (.instantiable RX13 5) (List.mem_of_getElem? (i := 30) rfl)) (hts (.initialized RX13) (List.mem_of_getElem? (i := 31) rfl)) hK hP hD hS hA rfl (fun j hj => by rcases (show j = 0 ∨ j = 1 ∨ j = 2 ∨ j = 3 ∨ j = 4 by omega) with rfl | rfl | rfl | rfl | rfl <;> rfl) (Nat.le_of_ble_eq_true rfl) (Nat.le_of_ble_eq_true rfl) dX15_init_502 ?_
  clear hP hD hS; try clear H
  intro q_188 H hP hD hS
  replace hP := va_P.swap hP; replace hD := va_D.swap hD
  replace hP : va_P (dC, dI) vwCl ([(h0, .inr (15, fs_185)), (q_186, .inl (k_187, 4, .inr (.inr (.inr (.inr (fun _ => none)))))), (q_188, .inr (13, [.null, .null, .null, .null, .int 0]))] ++ pl) H := hP
  replace hD : va_D A ([(h0, .inr (15, fs_185)), (q_186, .inl (k_187, 4, .inr (.inr (.inr (.inr (fun _ => none)))))), (q_188, .inr (13, [.null, .null, .null, .null, .int 0]))] ++ pl) := hD
  refine lv_dup hx hb dX15_init_505 rfl ?_
  refine lv_bipush (v := 64) hx hb dX15_init_506 (by decide) ?_
  have hPc := hP.sub (ws' := [(q_188, .inr (13, [.null, .null, .null, .null, .int 0]))]) [2] rfl
  have hDc := hD.sub (ws' := [(q_188, .inr (13, [.null, .null, .null, .null, .int 0]))]) [2] (by decide) rfl
  have hKc := hK.sub (tys' := []) [] rfl
  have hFc := va_free (wc := [(q_188, .inr (13, [.null, .null, .null, .null, .int 0]))]) hD hS hA [2] rfl
  refine va_callv (va_runIN (As := [.int 64]) (rest := [.ref q_188, .int 0, .ref q_186, .ref q_186, .ref h0]) ⟨hx, hb, hml, hown, hts⟩ (c_X13_init_64 l dC dI q_188 H.size) ⟨va_cnB 1 hts gM15_X13 rfl rfl rfl (hN.1 (RX15, 129, yX13_init, RX15) (List.mem_of_getElem? (i := 28) rfl)) (hts (.initialized RX13) (List.mem_of_getElem? (i := 31) rfl)) hd_X13_init ⟨Nat.le_of_ble_eq_true rfl, Nat.le_of_ble_eq_true rfl⟩, rfl, (hts (.instanceMethod yX13_init) (List.mem_of_getElem? (i := 100) rfl))⟩ ⟨fun a U g mk q => by obtain ⟨q0, q1, qP, qK, qD, qE0⟩ := q; exact ⟨q0, q1, qP, va_K.moved (u := U) (U := U.calling g mk a) (Vm.Alike.refl U.vm) qK, qD, w_N.same rfl qE0⟩, fun U hU hW => ⟨rfl, by rw [hU], by rw [hU]; exact hPc, va_K.moved hW.alike hKc, hDc.weaken (fun _ _ _ _ => trivial), w_N.warm hW hN⟩⟩ rfl rfl hl.1 rfl (lv_room (Nat.le_of_ble_eq_true rfl)) dX15_init_508 ⟨(Nat.le_of_ble_eq_true rfl), (Nat.le_of_ble_eq_true rfl)⟩) hS (fun q _ h => hFc q h) hFc (fun u t H1 locs1 ht hvm hw hB hz1 hk1 hS1 => ?_)
  obtain ⟨q_189, q_190, q_191, q_192, k_193, hP1, hK1, hD1⟩ := hB
  rw [ht] at hP1
  have hK1 := va_K.moved hvm.symm hK1
  have hJ := va_joinQ (wr := [(h0, .inr (15, fs_185)), (q_186, .inl (k_187, 4, .inr (.inr (.inr (.inr (fun _ => none))))))]) (w1 := [(q_188, .inr (13, [.ref q_189, .ref q_190, .ref q_191, .ref q_192, .int 0])), (q_191, .inl (k_193, 128, .inl (fun _ => 0)))]) hP hD [2] [0, 1] rfl rfl (by decide) (by decide) hk1 hFc hP1 hD1
  clear hP hD hPc hDc hKc hFc hz1 hw; try clear hk1
  obtain ⟨hP, hD⟩ := hJ
  replace hK := (hK.sub (tys' := [(k_187, .object RX13)]) [0] rfl).app (hK1.sub (tys' := [(k_193, .int)]) [0] rfl)
  clear hP1 hK1 hD1 hvm ht hS; try clear t
  try clear H
  revert hS1
  intro hS
  generalize H1 = H at hP hS ⊢; try clear H1
  replace hP : va_P (dC, dI) vwCl ([(h0, .inr (15, fs_185)), (q_186, .inl (k_187, 4, .inr (.inr (.inr (.inr (fun _ => none)))))), (q_188, .inr (13, [.ref q_189, .ref q_190, .ref q_191, .ref q_192, .int 0])), (q_191, .inl (k_193, 128, .inl (fun _ => 0)))] ++ pl) H := hP
  replace hD : va_D A ([(h0, .inr (15, fs_185)), (q_186, .inl (k_187, 4, .inr (.inr (.inr (.inr (fun _ => none)))))), (q_188, .inr (13, [.ref q_189, .ref q_190, .ref q_191, .ref q_192, .int 0])), (q_191, .inl (k_193, 128, .inl (fun _ => 0)))] ++ pl) := hD
  replace hK : va_K (dC, dI) vwCl [(k_187, .object RX13), (k_193, .int)] s := hK
  refine va_astq hx hb hK hP hD hS 1 0 2 13 rfl rfl rfl rfl (by exact fun h => by rcases h with h | h <;> revert h <;> decide) dX15_init_511 ?_
  clear hP hD hS; try clear H
  intro H locs hP hD hS
  replace hP : va_P (dC, dI) vwCl ([(h0, .inr (15, fs_185)), (q_186, .inl (k_187, 4, .inr (.inr (.inr (.inr (va_up (fun _ => none) (0 : Int32).toNatClampNeg (some q_188))))))), (q_188, .inr (13, [.ref q_189, .ref q_190, .ref q_191, .ref q_192, .int 0])), (q_191, .inl (k_193, 128, .inl (fun _ => 0)))] ++ pl) H := hP
  replace hD : va_D A ([(h0, .inr (15, fs_185)), (q_186, .inl (k_187, 4, .inr (.inr (.inr (.inr (va_up (fun _ => none) (0 : Int32).toNatClampNeg (some q_188))))))), (q_188, .inr (13, [.ref q_189, .ref q_190, .ref q_191, .ref q_192, .int 0])), (q_191, .inl (k_193, 128, .inl (fun _ => 0)))] ++ pl) := hD
  refine lv_dup hx hb dX15_init_512 rfl ?_
  refine lv_iconst (v := 1) hx hb dX15_init_513 (by decide) ?_
  refine va_new (ci := 13) (fs := [.null, .null, .null, .null, .int 0]) (C := RX13) (T := TX13) (N := 5) hx hb hts (in_X15_init_X13) tyX13 tyX13_ok hown (hts (.classLink RX15 127 RX13) (List.mem_of_getElem? (i := 29) rfl)) (hts (.instantiable RX13 5) (List.mem_of_getElem? (i := 30) rfl)) (hts (.initialized RX13) (List.mem_of_getElem? (i := 31) rfl)) hK hP hD hS hA rfl (fun j hj => by rcases (show j = 0 ∨ j = 1 ∨ j = 2 ∨ j = 3 ∨ j = 4 by omega) with rfl | rfl | rfl | rfl | rfl <;> rfl) (Nat.le_of_ble_eq_true rfl) (Nat.le_of_ble_eq_true rfl) dX15_init_514 ?_
  clear hP hD hS; try clear H
  intro q_194 H hP hD hS
  replace hP := va_P.swap hP; replace hD := va_D.swap hD
  replace hP : va_P (dC, dI) vwCl ([(h0, .inr (15, fs_185)), (q_186, .inl (k_187, 4, .inr (.inr (.inr (.inr (va_up (fun _ => none) (0 : Int32).toNatClampNeg (some q_188))))))), (q_188, .inr (13, [.ref q_189, .ref q_190, .ref q_191, .ref q_192, .int 0])), (q_191, .inl (k_193, 128, .inl (fun _ => 0))), (q_194, .inr (13, [.null, .null, .null, .null, .int 0]))] ++ pl) H := hP
  replace hD : va_D A ([(h0, .inr (15, fs_185)), (q_186, .inl (k_187, 4, .inr (.inr (.inr (.inr (va_up (fun _ => none) (0 : Int32).toNatClampNeg (some q_188))))))), (q_188, .inr (13, [.ref q_189, .ref q_190, .ref q_191, .ref q_192, .int 0])), (q_191, .inl (k_193, 128, .inl (fun _ => 0))), (q_194, .inr (13, [.null, .null, .null, .null, .int 0]))] ++ pl) := hD
  refine lv_dup hx hb dX15_init_517 rfl ?_
  refine lv_sipush (v := 256) hx hb dX15_init_518 (by decide) ?_
  have hPc := hP.sub (ws' := [(q_194, .inr (13, [.null, .null, .null, .null, .int 0]))]) [4] rfl
  have hDc := hD.sub (ws' := [(q_194, .inr (13, [.null, .null, .null, .null, .int 0]))]) [4] (by decide) rfl
  have hKc := hK.sub (tys' := []) [] rfl
  have hFc := va_free (wc := [(q_194, .inr (13, [.null, .null, .null, .null, .int 0]))]) hD hS hA [4] rfl
  refine va_callv (va_runIN (As := [.int 256]) (rest := [.ref q_194, .int 1, .ref q_186, .ref q_186, .ref h0]) ⟨hx, hb, hml, hown, hts⟩ (c_X13_init_256 l dC dI q_194 H.size) ⟨va_cnB 1 hts gM15_X13 rfl rfl rfl (hN.1 (RX15, 129, yX13_init, RX15) (List.mem_of_getElem? (i := 28) rfl)) (hts (.initialized RX13) (List.mem_of_getElem? (i := 31) rfl)) hd_X13_init ⟨Nat.le_of_ble_eq_true rfl, Nat.le_of_ble_eq_true rfl⟩, rfl, (hts (.instanceMethod yX13_init) (List.mem_of_getElem? (i := 100) rfl))⟩ ⟨fun a U g mk q => by obtain ⟨q0, q1, qP, qK, qD, qE0⟩ := q; exact ⟨q0, q1, qP, va_K.moved (u := U) (U := U.calling g mk a) (Vm.Alike.refl U.vm) qK, qD, w_N.same rfl qE0⟩, fun U hU hW => ⟨rfl, by rw [hU], by rw [hU]; exact hPc, va_K.moved hW.alike hKc, hDc.weaken (fun _ _ _ _ => trivial), w_N.warm hW hN⟩⟩ rfl rfl hl.1 rfl (lv_room (Nat.le_of_ble_eq_true rfl)) dX15_init_521 ⟨(Nat.le_of_ble_eq_true rfl), (Nat.le_of_ble_eq_true rfl)⟩) hS (fun q _ h => hFc q h) hFc (fun u t H1 locs1 ht hvm hw hB hz1 hk1 hS1 => ?_)
  obtain ⟨q_195, q_196, q_197, q_198, k_199, hP1, hK1, hD1⟩ := hB
  rw [ht] at hP1
  have hK1 := va_K.moved hvm.symm hK1
  have hJ := va_joinQ (wr := [(h0, .inr (15, fs_185)), (q_186, .inl (k_187, 4, .inr (.inr (.inr (.inr (va_up (fun _ => none) (0 : Int32).toNatClampNeg (some q_188))))))), (q_188, .inr (13, [.ref q_189, .ref q_190, .ref q_191, .ref q_192, .int 0])), (q_191, .inl (k_193, 128, .inl (fun _ => 0)))]) (w1 := [(q_194, .inr (13, [.ref q_195, .ref q_196, .ref q_197, .ref q_198, .int 0])), (q_197, .inl (k_199, 512, .inl (fun _ => 0)))]) hP hD [4] [0, 1, 2, 3] rfl rfl (by decide) (by decide) hk1 hFc hP1 hD1
  clear hP hD hPc hDc hKc hFc hz1 hw; try clear hk1
  obtain ⟨hP, hD⟩ := hJ
  replace hK := (hK.sub (tys' := [(k_187, .object RX13), (k_193, .int)]) [0, 1] rfl).app (hK1.sub (tys' := [(k_199, .int)]) [0] rfl)
  clear hP1 hK1 hD1 hvm ht hS; try clear t
  try clear H
  revert hS1
  intro hS
  generalize H1 = H at hP hS ⊢; try clear H1
  replace hP : va_P (dC, dI) vwCl ([(h0, .inr (15, fs_185)), (q_186, .inl (k_187, 4, .inr (.inr (.inr (.inr (va_up (fun _ => none) (0 : Int32).toNatClampNeg (some q_188))))))), (q_188, .inr (13, [.ref q_189, .ref q_190, .ref q_191, .ref q_192, .int 0])), (q_191, .inl (k_193, 128, .inl (fun _ => 0))), (q_194, .inr (13, [.ref q_195, .ref q_196, .ref q_197, .ref q_198, .int 0])), (q_197, .inl (k_199, 512, .inl (fun _ => 0)))] ++ pl) H := hP
  replace hD : va_D A ([(h0, .inr (15, fs_185)), (q_186, .inl (k_187, 4, .inr (.inr (.inr (.inr (va_up (fun _ => none) (0 : Int32).toNatClampNeg (some q_188))))))), (q_188, .inr (13, [.ref q_189, .ref q_190, .ref q_191, .ref q_192, .int 0])), (q_191, .inl (k_193, 128, .inl (fun _ => 0))), (q_194, .inr (13, [.ref q_195, .ref q_196, .ref q_197, .ref q_198, .int 0])), (q_197, .inl (k_199, 512, .inl (fun _ => 0)))] ++ pl) := hD
  replace hK : va_K (dC, dI) vwCl [(k_187, .object RX13), (k_193, .int), (k_199, .int)] s := hK
  refine va_astq hx hb hK hP hD hS 1 0 4 13 rfl rfl rfl rfl (by exact fun h => by rcases h with h | h <;> revert h <;> decide) dX15_init_524 ?_
  clear hP hD hS; try clear H
  intro H locs hP hD hS
  replace hP : va_P (dC, dI) vwCl ([(h0, .inr (15, fs_185)), (q_186, .inl (k_187, 4, .inr (.inr (.inr (.inr (va_up (va_up (fun _ => none) (0 : Int32).toNatClampNeg (some q_188)) (1 : Int32).toNatClampNeg (some q_194))))))), (q_188, .inr (13, [.ref q_189, .ref q_190, .ref q_191, .ref q_192, .int 0])), (q_191, .inl (k_193, 128, .inl (fun _ => 0))), (q_194, .inr (13, [.ref q_195, .ref q_196, .ref q_197, .ref q_198, .int 0])), (q_197, .inl (k_199, 512, .inl (fun _ => 0)))] ++ pl) H := hP
  replace hD : va_D A ([(h0, .inr (15, fs_185)), (q_186, .inl (k_187, 4, .inr (.inr (.inr (.inr (va_up (va_up (fun _ => none) (0 : Int32).toNatClampNeg (some q_188)) (1 : Int32).toNatClampNeg (some q_194))))))), (q_188, .inr (13, [.ref q_189, .ref q_190, .ref q_191, .ref q_192, .int 0])), (q_191, .inl (k_193, 128, .inl (fun _ => 0))), (q_194, .inr (13, [.ref q_195, .ref q_196, .ref q_197, .ref q_198, .int 0])), (q_197, .inl (k_199, 512, .inl (fun _ => 0)))] ++ pl) := hD
  refine lv_dup hx hb dX15_init_525 rfl ?_
  refine lv_iconst (v := 2) hx hb dX15_init_526 (by decide) ?_
  refine va_new (ci := 13) (fs := [.null, .null, .null, .null, .int 0]) (C := RX13) (T := TX13) (N := 5) hx hb hts (in_X15_init_X13) tyX13 tyX13_ok hown (hts (.classLink RX15 127 RX13) (List.mem_of_getElem? (i := 29) rfl)) (hts (.instantiable RX13 5) (List.mem_of_getElem? (i := 30) rfl)) (hts (.initialized RX13) (List.mem_of_getElem? (i := 31) rfl)) hK hP hD hS hA rfl (fun j hj => by rcases (show j = 0 ∨ j = 1 ∨ j = 2 ∨ j = 3 ∨ j = 4 by omega) with rfl | rfl | rfl | rfl | rfl <;> rfl) (Nat.le_of_ble_eq_true rfl) (Nat.le_of_ble_eq_true rfl) dX15_init_527 ?_
  clear hP hD hS; try clear H
  intro q_200 H hP hD hS
  replace hP := va_P.swap hP; replace hD := va_D.swap hD
  replace hP : va_P (dC, dI) vwCl ([(h0, .inr (15, fs_185)), (q_186, .inl (k_187, 4, .inr (.inr (.inr (.inr (va_up (va_up (fun _ => none) (0 : Int32).toNatClampNeg (some q_188)) (1 : Int32).toNatClampNeg (some q_194))))))), (q_188, .inr (13, [.ref q_189, .ref q_190, .ref q_191, .ref q_192, .int 0])), (q_191, .inl (k_193, 128, .inl (fun _ => 0))), (q_194, .inr (13, [.ref q_195, .ref q_196, .ref q_197, .ref q_198, .int 0])), (q_197, .inl (k_199, 512, .inl (fun _ => 0))), (q_200, .inr (13, [.null, .null, .null, .null, .int 0]))] ++ pl) H := hP
  replace hD : va_D A ([(h0, .inr (15, fs_185)), (q_186, .inl (k_187, 4, .inr (.inr (.inr (.inr (va_up (va_up (fun _ => none) (0 : Int32).toNatClampNeg (some q_188)) (1 : Int32).toNatClampNeg (some q_194))))))), (q_188, .inr (13, [.ref q_189, .ref q_190, .ref q_191, .ref q_192, .int 0])), (q_191, .inl (k_193, 128, .inl (fun _ => 0))), (q_194, .inr (13, [.ref q_195, .ref q_196, .ref q_197, .ref q_198, .int 0])), (q_197, .inl (k_199, 512, .inl (fun _ => 0))), (q_200, .inr (13, [.null, .null, .null, .null, .int 0]))] ++ pl) := hD
  refine lv_dup hx hb dX15_init_530 rfl ?_
  refine lv_sipush (v := 1024) hx hb dX15_init_531 (by decide) ?_
  have hPc := hP.sub (ws' := [(q_200, .inr (13, [.null, .null, .null, .null, .int 0]))]) [6] rfl
  have hDc := hD.sub (ws' := [(q_200, .inr (13, [.null, .null, .null, .null, .int 0]))]) [6] (by decide) rfl
  have hKc := hK.sub (tys' := []) [] rfl
  have hFc := va_free (wc := [(q_200, .inr (13, [.null, .null, .null, .null, .int 0]))]) hD hS hA [6] rfl
  refine va_callv (va_runIN (As := [.int 1024]) (rest := [.ref q_200, .int 2, .ref q_186, .ref q_186, .ref h0]) ⟨hx, hb, hml, hown, hts⟩ (c_X13_init_1024 l dC dI q_200 H.size) ⟨va_cnB 1 hts gM15_X13 rfl rfl rfl (hN.1 (RX15, 129, yX13_init, RX15) (List.mem_of_getElem? (i := 28) rfl)) (hts (.initialized RX13) (List.mem_of_getElem? (i := 31) rfl)) hd_X13_init ⟨Nat.le_of_ble_eq_true rfl, Nat.le_of_ble_eq_true rfl⟩, rfl, (hts (.instanceMethod yX13_init) (List.mem_of_getElem? (i := 100) rfl))⟩ ⟨fun a U g mk q => by obtain ⟨q0, q1, qP, qK, qD, qE0⟩ := q; exact ⟨q0, q1, qP, va_K.moved (u := U) (U := U.calling g mk a) (Vm.Alike.refl U.vm) qK, qD, w_N.same rfl qE0⟩, fun U hU hW => ⟨rfl, by rw [hU], by rw [hU]; exact hPc, va_K.moved hW.alike hKc, hDc.weaken (fun _ _ _ _ => trivial), w_N.warm hW hN⟩⟩ rfl rfl hl.1 rfl (lv_room (Nat.le_of_ble_eq_true rfl)) dX15_init_534 ⟨(Nat.le_of_ble_eq_true rfl), (Nat.le_of_ble_eq_true rfl)⟩) hS (fun q _ h => hFc q h) hFc (fun u t H1 locs1 ht hvm hw hB hz1 hk1 hS1 => ?_)
  obtain ⟨q_201, q_202, q_203, q_204, k_205, hP1, hK1, hD1⟩ := hB
  rw [ht] at hP1
  have hK1 := va_K.moved hvm.symm hK1
  have hJ := va_joinQ (wr := [(h0, .inr (15, fs_185)), (q_186, .inl (k_187, 4, .inr (.inr (.inr (.inr (va_up (va_up (fun _ => none) (0 : Int32).toNatClampNeg (some q_188)) (1 : Int32).toNatClampNeg (some q_194))))))), (q_188, .inr (13, [.ref q_189, .ref q_190, .ref q_191, .ref q_192, .int 0])), (q_191, .inl (k_193, 128, .inl (fun _ => 0))), (q_194, .inr (13, [.ref q_195, .ref q_196, .ref q_197, .ref q_198, .int 0])), (q_197, .inl (k_199, 512, .inl (fun _ => 0)))]) (w1 := [(q_200, .inr (13, [.ref q_201, .ref q_202, .ref q_203, .ref q_204, .int 0])), (q_203, .inl (k_205, 2048, .inl (fun _ => 0)))]) hP hD [6] [0, 1, 2, 3, 4, 5] rfl rfl (by decide) (by decide) hk1 hFc hP1 hD1
  clear hP hD hPc hDc hKc hFc hz1 hw; try clear hk1
  obtain ⟨hP, hD⟩ := hJ
  replace hK := (hK.sub (tys' := [(k_187, .object RX13), (k_193, .int), (k_199, .int)]) [0, 1, 2] rfl).app (hK1.sub (tys' := [(k_205, .int)]) [0] rfl)
  clear hP1 hK1 hD1 hvm ht hS; try clear t
  try clear H
  revert hS1
  intro hS
  generalize H1 = H at hP hS ⊢; try clear H1
  replace hP : va_P (dC, dI) vwCl ([(h0, .inr (15, fs_185)), (q_186, .inl (k_187, 4, .inr (.inr (.inr (.inr (va_up (va_up (fun _ => none) (0 : Int32).toNatClampNeg (some q_188)) (1 : Int32).toNatClampNeg (some q_194))))))), (q_188, .inr (13, [.ref q_189, .ref q_190, .ref q_191, .ref q_192, .int 0])), (q_191, .inl (k_193, 128, .inl (fun _ => 0))), (q_194, .inr (13, [.ref q_195, .ref q_196, .ref q_197, .ref q_198, .int 0])), (q_197, .inl (k_199, 512, .inl (fun _ => 0))), (q_200, .inr (13, [.ref q_201, .ref q_202, .ref q_203, .ref q_204, .int 0])), (q_203, .inl (k_205, 2048, .inl (fun _ => 0)))] ++ pl) H := hP
  replace hD : va_D A ([(h0, .inr (15, fs_185)), (q_186, .inl (k_187, 4, .inr (.inr (.inr (.inr (va_up (va_up (fun _ => none) (0 : Int32).toNatClampNeg (some q_188)) (1 : Int32).toNatClampNeg (some q_194))))))), (q_188, .inr (13, [.ref q_189, .ref q_190, .ref q_191, .ref q_192, .int 0])), (q_191, .inl (k_193, 128, .inl (fun _ => 0))), (q_194, .inr (13, [.ref q_195, .ref q_196, .ref q_197, .ref q_198, .int 0])), (q_197, .inl (k_199, 512, .inl (fun _ => 0))), (q_200, .inr (13, [.ref q_201, .ref q_202, .ref q_203, .ref q_204, .int 0])), (q_203, .inl (k_205, 2048, .inl (fun _ => 0)))] ++ pl) := hD
  replace hK : va_K (dC, dI) vwCl [(k_187, .object RX13), (k_193, .int), (k_199, .int), (k_205, .int)] s := hK
  refine va_astq hx hb hK hP hD hS 1 0 6 13 rfl rfl rfl rfl (by exact fun h => by rcases h with h | h <;> revert h <;> decide) dX15_init_537 ?_
  clear hP hD hS; try clear H
  intro H locs hP hD hS
  replace hP : va_P (dC, dI) vwCl ([(h0, .inr (15, fs_185)), (q_186, .inl (k_187, 4, .inr (.inr (.inr (.inr (va_up (va_up (va_up (fun _ => none) (0 : Int32).toNatClampNeg (some q_188)) (1 : Int32).toNatClampNeg (some q_194)) (2 : Int32).toNatClampNeg (some q_200))))))), (q_188, .inr (13, [.ref q_189, .ref q_190, .ref q_191, .ref q_192, .int 0])), (q_191, .inl (k_193, 128, .inl (fun _ => 0))), (q_194, .inr (13, [.ref q_195, .ref q_196, .ref q_197, .ref q_198, .int 0])), (q_197, .inl (k_199, 512, .inl (fun _ => 0))), (q_200, .inr (13, [.ref q_201, .ref q_202, .ref q_203, .ref q_204, .int 0])), (q_203, .inl (k_205, 2048, .inl (fun _ => 0)))] ++ pl) H := hP
  replace hD : va_D A ([(h0, .inr (15, fs_185)), (q_186, .inl (k_187, 4, .inr (.inr (.inr (.inr (va_up (va_up (va_up (fun _ => none) (0 : Int32).toNatClampNeg (some q_188)) (1 : Int32).toNatClampNeg (some q_194)) (2 : Int32).toNatClampNeg (some q_200))))))), (q_188, .inr (13, [.ref q_189, .ref q_190, .ref q_191, .ref q_192, .int 0])), (q_191, .inl (k_193, 128, .inl (fun _ => 0))), (q_194, .inr (13, [.ref q_195, .ref q_196, .ref q_197, .ref q_198, .int 0])), (q_197, .inl (k_199, 512, .inl (fun _ => 0))), (q_200, .inr (13, [.ref q_201, .ref q_202, .ref q_203, .ref q_204, .int 0])), (q_203, .inl (k_205, 2048, .inl (fun _ => 0)))] ++ pl) := hD
  refine lv_dup hx hb dX15_init_538 rfl ?_
  refine lv_iconst (v := 3) hx hb dX15_init_539 (by decide) ?_
  refine va_new (ci := 13) (fs := [.null, .null, .null, .null, .int 0]) (C := RX13) (T := TX13) (N := 5) hx hb hts (in_X15_init_X13) tyX13 tyX13_ok hown (hts (.classLink RX15 127 RX13) (List.mem_of_getElem? (i := 29) rfl)) (hts (.instantiable RX13 5) (List.mem_of_getElem? (i := 30) rfl)) (hts (.initialized RX13) (List.mem_of_getElem? (i := 31) rfl)) hK hP hD hS hA rfl (fun j hj => by rcases (show j = 0 ∨ j = 1 ∨ j = 2 ∨ j = 3 ∨ j = 4 by omega) with rfl | rfl | rfl | rfl | rfl <;> rfl) (Nat.le_of_ble_eq_true rfl) (Nat.le_of_ble_eq_true rfl) dX15_init_540 ?_
  clear hP hD hS; try clear H
  intro q_206 H hP hD hS
  replace hP := va_P.swap hP; replace hD := va_D.swap hD
  replace hP : va_P (dC, dI) vwCl ([(h0, .inr (15, fs_185)), (q_186, .inl (k_187, 4, .inr (.inr (.inr (.inr (va_up (va_up (va_up (fun _ => none) (0 : Int32).toNatClampNeg (some q_188)) (1 : Int32).toNatClampNeg (some q_194)) (2 : Int32).toNatClampNeg (some q_200))))))), (q_188, .inr (13, [.ref q_189, .ref q_190, .ref q_191, .ref q_192, .int 0])), (q_191, .inl (k_193, 128, .inl (fun _ => 0))), (q_194, .inr (13, [.ref q_195, .ref q_196, .ref q_197, .ref q_198, .int 0])), (q_197, .inl (k_199, 512, .inl (fun _ => 0))), (q_200, .inr (13, [.ref q_201, .ref q_202, .ref q_203, .ref q_204, .int 0])), (q_203, .inl (k_205, 2048, .inl (fun _ => 0))), (q_206, .inr (13, [.null, .null, .null, .null, .int 0]))] ++ pl) H := hP
  replace hD : va_D A ([(h0, .inr (15, fs_185)), (q_186, .inl (k_187, 4, .inr (.inr (.inr (.inr (va_up (va_up (va_up (fun _ => none) (0 : Int32).toNatClampNeg (some q_188)) (1 : Int32).toNatClampNeg (some q_194)) (2 : Int32).toNatClampNeg (some q_200))))))), (q_188, .inr (13, [.ref q_189, .ref q_190, .ref q_191, .ref q_192, .int 0])), (q_191, .inl (k_193, 128, .inl (fun _ => 0))), (q_194, .inr (13, [.ref q_195, .ref q_196, .ref q_197, .ref q_198, .int 0])), (q_197, .inl (k_199, 512, .inl (fun _ => 0))), (q_200, .inr (13, [.ref q_201, .ref q_202, .ref q_203, .ref q_204, .int 0])), (q_203, .inl (k_205, 2048, .inl (fun _ => 0))), (q_206, .inr (13, [.null, .null, .null, .null, .int 0]))] ++ pl) := hD
  refine lv_dup hx hb dX15_init_543 rfl ?_
  refine lv_sipush (v := 8192) hx hb dX15_init_544 (by decide) ?_
  have hPc := hP.sub (ws' := [(q_206, .inr (13, [.null, .null, .null, .null, .int 0]))]) [8] rfl
  have hDc := hD.sub (ws' := [(q_206, .inr (13, [.null, .null, .null, .null, .int 0]))]) [8] (by decide) rfl
  have hKc := hK.sub (tys' := []) [] rfl
  have hFc := va_free (wc := [(q_206, .inr (13, [.null, .null, .null, .null, .int 0]))]) hD hS hA [8] rfl
  refine va_callv (va_runIN (As := [.int 8192]) (rest := [.ref q_206, .int 3, .ref q_186, .ref q_186, .ref h0]) ⟨hx, hb, hml, hown, hts⟩ (c_X13_init_8192 l dC dI q_206 H.size) ⟨va_cnB 1 hts gM15_X13 rfl rfl rfl (hN.1 (RX15, 129, yX13_init, RX15) (List.mem_of_getElem? (i := 28) rfl)) (hts (.initialized RX13) (List.mem_of_getElem? (i := 31) rfl)) hd_X13_init ⟨Nat.le_of_ble_eq_true rfl, Nat.le_of_ble_eq_true rfl⟩, rfl, (hts (.instanceMethod yX13_init) (List.mem_of_getElem? (i := 100) rfl))⟩ ⟨fun a U g mk q => by obtain ⟨q0, q1, qP, qK, qD, qE0⟩ := q; exact ⟨q0, q1, qP, va_K.moved (u := U) (U := U.calling g mk a) (Vm.Alike.refl U.vm) qK, qD, w_N.same rfl qE0⟩, fun U hU hW => ⟨rfl, by rw [hU], by rw [hU]; exact hPc, va_K.moved hW.alike hKc, hDc.weaken (fun _ _ _ _ => trivial), w_N.warm hW hN⟩⟩ rfl rfl hl.1 rfl (lv_room (Nat.le_of_ble_eq_true rfl)) dX15_init_547 ⟨(Nat.le_of_ble_eq_true rfl), (Nat.le_of_ble_eq_true rfl)⟩) hS (fun q _ h => hFc q h) hFc (fun u t H1 locs1 ht hvm hw hB hz1 hk1 hS1 => ?_)
  obtain ⟨q_207, q_208, q_209, q_210, k_211, hP1, hK1, hD1⟩ := hB
  rw [ht] at hP1
  have hK1 := va_K.moved hvm.symm hK1
  have hJ := va_joinQ (wr := [(h0, .inr (15, fs_185)), (q_186, .inl (k_187, 4, .inr (.inr (.inr (.inr (va_up (va_up (va_up (fun _ => none) (0 : Int32).toNatClampNeg (some q_188)) (1 : Int32).toNatClampNeg (some q_194)) (2 : Int32).toNatClampNeg (some q_200))))))), (q_188, .inr (13, [.ref q_189, .ref q_190, .ref q_191, .ref q_192, .int 0])), (q_191, .inl (k_193, 128, .inl (fun _ => 0))), (q_194, .inr (13, [.ref q_195, .ref q_196, .ref q_197, .ref q_198, .int 0])), (q_197, .inl (k_199, 512, .inl (fun _ => 0))), (q_200, .inr (13, [.ref q_201, .ref q_202, .ref q_203, .ref q_204, .int 0])), (q_203, .inl (k_205, 2048, .inl (fun _ => 0)))]) (w1 := [(q_206, .inr (13, [.ref q_207, .ref q_208, .ref q_209, .ref q_210, .int 0])), (q_209, .inl (k_211, 16384, .inl (fun _ => 0)))]) hP hD [8] [0, 1, 2, 3, 4, 5, 6, 7] rfl rfl (by decide) (by decide) hk1 hFc hP1 hD1
  clear hP hD hPc hDc hKc hFc hz1 hw; try clear hk1
  obtain ⟨hP, hD⟩ := hJ
  replace hK := (hK.sub (tys' := [(k_187, .object RX13), (k_193, .int), (k_199, .int), (k_205, .int)]) [0, 1, 2, 3] rfl).app (hK1.sub (tys' := [(k_211, .int)]) [0] rfl)
  clear hP1 hK1 hD1 hvm ht hS; try clear t
  try clear H
  revert hS1
  intro hS
  generalize H1 = H at hP hS ⊢; try clear H1
  replace hP : va_P (dC, dI) vwCl ([(h0, .inr (15, fs_185)), (q_186, .inl (k_187, 4, .inr (.inr (.inr (.inr (va_up (va_up (va_up (fun _ => none) (0 : Int32).toNatClampNeg (some q_188)) (1 : Int32).toNatClampNeg (some q_194)) (2 : Int32).toNatClampNeg (some q_200))))))), (q_188, .inr (13, [.ref q_189, .ref q_190, .ref q_191, .ref q_192, .int 0])), (q_191, .inl (k_193, 128, .inl (fun _ => 0))), (q_194, .inr (13, [.ref q_195, .ref q_196, .ref q_197, .ref q_198, .int 0])), (q_197, .inl (k_199, 512, .inl (fun _ => 0))), (q_200, .inr (13, [.ref q_201, .ref q_202, .ref q_203, .ref q_204, .int 0])), (q_203, .inl (k_205, 2048, .inl (fun _ => 0))), (q_206, .inr (13, [.ref q_207, .ref q_208, .ref q_209, .ref q_210, .int 0])), (q_209, .inl (k_211, 16384, .inl (fun _ => 0)))] ++ pl) H := hP
  replace hD : va_D A ([(h0, .inr (15, fs_185)), (q_186, .inl (k_187, 4, .inr (.inr (.inr (.inr (va_up (va_up (va_up (fun _ => none) (0 : Int32).toNatClampNeg (some q_188)) (1 : Int32).toNatClampNeg (some q_194)) (2 : Int32).toNatClampNeg (some q_200))))))), (q_188, .inr (13, [.ref q_189, .ref q_190, .ref q_191, .ref q_192, .int 0])), (q_191, .inl (k_193, 128, .inl (fun _ => 0))), (q_194, .inr (13, [.ref q_195, .ref q_196, .ref q_197, .ref q_198, .int 0])), (q_197, .inl (k_199, 512, .inl (fun _ => 0))), (q_200, .inr (13, [.ref q_201, .ref q_202, .ref q_203, .ref q_204, .int 0])), (q_203, .inl (k_205, 2048, .inl (fun _ => 0))), (q_206, .inr (13, [.ref q_207, .ref q_208, .ref q_209, .ref q_210, .int 0])), (q_209, .inl (k_211, 16384, .inl (fun _ => 0)))] ++ pl) := hD
  replace hK : va_K (dC, dI) vwCl [(k_187, .object RX13), (k_193, .int), (k_199, .int), (k_205, .int), (k_211, .int)] s := hK
  refine va_astq hx hb hK hP hD hS 1 0 8 13 rfl rfl rfl rfl (by exact fun h => by rcases h with h | h <;> revert h <;> decide) dX15_init_550 ?_
  clear hP hD hS; try clear H
  intro H locs hP hD hS
  replace hP : va_P (dC, dI) vwCl ([(h0, .inr (15, fs_185)), (q_186, .inl (k_187, 4, .inr (.inr (.inr (.inr (va_up (va_up (va_up (va_up (fun _ => none) (0 : Int32).toNatClampNeg (some q_188)) (1 : Int32).toNatClampNeg (some q_194)) (2 : Int32).toNatClampNeg (some q_200)) (3 : Int32).toNatClampNeg (some q_206))))))), (q_188, .inr (13, [.ref q_189, .ref q_190, .ref q_191, .ref q_192, .int 0])), (q_191, .inl (k_193, 128, .inl (fun _ => 0))), (q_194, .inr (13, [.ref q_195, .ref q_196, .ref q_197, .ref q_198, .int 0])), (q_197, .inl (k_199, 512, .inl (fun _ => 0))), (q_200, .inr (13, [.ref q_201, .ref q_202, .ref q_203, .ref q_204, .int 0])), (q_203, .inl (k_205, 2048, .inl (fun _ => 0))), (q_206, .inr (13, [.ref q_207, .ref q_208, .ref q_209, .ref q_210, .int 0])), (q_209, .inl (k_211, 16384, .inl (fun _ => 0)))] ++ pl) H := hP
  replace hD : va_D A ([(h0, .inr (15, fs_185)), (q_186, .inl (k_187, 4, .inr (.inr (.inr (.inr (va_up (va_up (va_up (va_up (fun _ => none) (0 : Int32).toNatClampNeg (some q_188)) (1 : Int32).toNatClampNeg (some q_194)) (2 : Int32).toNatClampNeg (some q_200)) (3 : Int32).toNatClampNeg (some q_206))))))), (q_188, .inr (13, [.ref q_189, .ref q_190, .ref q_191, .ref q_192, .int 0])), (q_191, .inl (k_193, 128, .inl (fun _ => 0))), (q_194, .inr (13, [.ref q_195, .ref q_196, .ref q_197, .ref q_198, .int 0])), (q_197, .inl (k_199, 512, .inl (fun _ => 0))), (q_200, .inr (13, [.ref q_201, .ref q_202, .ref q_203, .ref q_204, .int 0])), (q_203, .inl (k_205, 2048, .inl (fun _ => 0))), (q_206, .inr (13, [.ref q_207, .ref q_208, .ref q_209, .ref q_210, .int 0])), (q_209, .inl (k_211, 16384, .inl (fun _ => 0)))] ++ pl) := hD
  refine va_putF (D := (dC, dI)) (ci := 15) (v := .ref q_186) (ty := .array (.object "MotionSignsModel$Poly")) (C := RX15) (T := TX15) (N := 89) hx hb hts (in_X15_init_X15) tyX15 tyX15_ok nmX15 hown hK hP hD hS 0 rfl rfl 42 (by decide) (hts (.fieldLink RX15 167 "MotionSignsModel" "slopes" "[LMotionSignsModel$Poly;") (List.mem_of_getElem? (i := 43) rfl)) (fun _ h9 => h9) rfl hin rfl (tyX15_ok 42 (by decide)) rfl rfl (mF.lt hF (by decide)) dX15_init_551 ?_
  clear hP hD hS; try clear H
  intro H locs hP hD hS
  have hF1 := mF.pass hF 42 (.ref q_186) (by decide) rfl
  replace hP : va_P (dC, dI) vwCl ([(h0, .inr (15, (fs_185.set 42 (.ref q_186)))), (q_186, .inl (k_187, 4, .inr (.inr (.inr (.inr (va_up (va_up (va_up (va_up (fun _ => none) (0 : Int32).toNatClampNeg (some q_188)) (1 : Int32).toNatClampNeg (some q_194)) (2 : Int32).toNatClampNeg (some q_200)) (3 : Int32).toNatClampNeg (some q_206))))))), (q_188, .inr (13, [.ref q_189, .ref q_190, .ref q_191, .ref q_192, .int 0])), (q_191, .inl (k_193, 128, .inl (fun _ => 0))), (q_194, .inr (13, [.ref q_195, .ref q_196, .ref q_197, .ref q_198, .int 0])), (q_197, .inl (k_199, 512, .inl (fun _ => 0))), (q_200, .inr (13, [.ref q_201, .ref q_202, .ref q_203, .ref q_204, .int 0])), (q_203, .inl (k_205, 2048, .inl (fun _ => 0))), (q_206, .inr (13, [.ref q_207, .ref q_208, .ref q_209, .ref q_210, .int 0])), (q_209, .inl (k_211, 16384, .inl (fun _ => 0)))] ++ pl) H := hP
  replace hD : va_D A ([(h0, .inr (15, (fs_185.set 42 (.ref q_186)))), (q_186, .inl (k_187, 4, .inr (.inr (.inr (.inr (va_up (va_up (va_up (va_up (fun _ => none) (0 : Int32).toNatClampNeg (some q_188)) (1 : Int32).toNatClampNeg (some q_194)) (2 : Int32).toNatClampNeg (some q_200)) (3 : Int32).toNatClampNeg (some q_206))))))), (q_188, .inr (13, [.ref q_189, .ref q_190, .ref q_191, .ref q_192, .int 0])), (q_191, .inl (k_193, 128, .inl (fun _ => 0))), (q_194, .inr (13, [.ref q_195, .ref q_196, .ref q_197, .ref q_198, .int 0])), (q_197, .inl (k_199, 512, .inl (fun _ => 0))), (q_200, .inr (13, [.ref q_201, .ref q_202, .ref q_203, .ref q_204, .int 0])), (q_203, .inl (k_205, 2048, .inl (fun _ => 0))), (q_206, .inr (13, [.ref q_207, .ref q_208, .ref q_209, .ref q_210, .int 0])), (q_209, .inl (k_211, 16384, .inl (fun _ => 0)))] ++ pl) := hD
  generalize fs_185.set 42 (.ref q_186) = fs_212 at hP hD hF1
  replace hF : mF 89 [(36, .ref q_113), (33, .ref q_99), (31, .ref q_57), (30, .ref q_50), (26, .ref q_47), (20, .int (-1)), (17, .int (-1)), (14, .ref q_39), (13, .ref q_35), (0, .int 0), (18, .int 0), (19, .int 0), (21, .int 0), (22, .int 0), (23, .int 0), (24, .int 0), (25, .int 0), (27, .int 0), (28, .int 0), (29, .int 0), (35, .int 0)] fs_212 := hF1
  clear hF1
  replace hP : va_P (dC, dI) vwCl ([(h0, .inr (15, fs_212)), (q_186, .inl (k_187, 4, .inr (.inr (.inr (.inr (va_up (va_up (va_up (va_up (fun _ => none) (0 : Int32).toNatClampNeg (some q_188)) (1 : Int32).toNatClampNeg (some q_194)) (2 : Int32).toNatClampNeg (some q_200)) (3 : Int32).toNatClampNeg (some q_206))))))), (q_188, .inr (13, [.ref q_189, .ref q_190, .ref q_191, .ref q_192, .int 0])), (q_191, .inl (k_193, 128, .inl (fun _ => 0))), (q_194, .inr (13, [.ref q_195, .ref q_196, .ref q_197, .ref q_198, .int 0])), (q_197, .inl (k_199, 512, .inl (fun _ => 0))), (q_200, .inr (13, [.ref q_201, .ref q_202, .ref q_203, .ref q_204, .int 0])), (q_203, .inl (k_205, 2048, .inl (fun _ => 0))), (q_206, .inr (13, [.ref q_207, .ref q_208, .ref q_209, .ref q_210, .int 0])), (q_209, .inl (k_211, 16384, .inl (fun _ => 0)))] ++ pl) H := hP
  replace hD : va_D A ([(h0, .inr (15, fs_212)), (q_186, .inl (k_187, 4, .inr (.inr (.inr (.inr (va_up (va_up (va_up (va_up (fun _ => none) (0 : Int32).toNatClampNeg (some q_188)) (1 : Int32).toNatClampNeg (some q_194)) (2 : Int32).toNatClampNeg (some q_200)) (3 : Int32).toNatClampNeg (some q_206))))))), (q_188, .inr (13, [.ref q_189, .ref q_190, .ref q_191, .ref q_192, .int 0])), (q_191, .inl (k_193, 128, .inl (fun _ => 0))), (q_194, .inr (13, [.ref q_195, .ref q_196, .ref q_197, .ref q_198, .int 0])), (q_197, .inl (k_199, 512, .inl (fun _ => 0))), (q_200, .inr (13, [.ref q_201, .ref q_202, .ref q_203, .ref q_204, .int 0])), (q_203, .inl (k_205, 2048, .inl (fun _ => 0))), (q_206, .inr (13, [.ref q_207, .ref q_208, .ref q_209, .ref q_210, .int 0])), (q_209, .inl (k_211, 16384, .inl (fun _ => 0)))] ++ pl) := hD
  replace hP := wm_subP (X' := [(h0, .inr (15, fs_212))]) hP [0] rfl
  replace hD := wm_subD (X' := [(h0, .inr (15, fs_212))]) hD [0] (by decide) rfl
  replace hK := hK.sub (tys' := []) [] rfl
  exact kont fs_212 H locs ls hP hD hK hS hl hF
set_option maxHeartbeats 40000000 in
set_option maxRecDepth 100000 in
/-- the reference: MotionSignsModel(), rows 554 to 627 -/
theorem c_X15_init_s6 {p : Program} {l : Launch} {e : Env} {s : State} {m : MethodId} {below : List Frame} {meth : Method} {c : Code} {A : Nat → Prop} {Q0 : State → Prop} {dC : Nat → ClassId} {dI : Nat → Nat → Nat} {h0 : Nat} {fs_212 : List Value} {q_113 : Nat} {q_99 : Nat} {q_57 : Nat} {q_50 : Nat} {q_47 : Nat} {q_39 : Nat} {q_35 : Nat} (hx : p.tables.exec = Jvm.exec) (hb : c.code = cX15_init) (hml : c.maxLocals = 3) (hts : ∀ w ∈ wsM15, w.before ([.ref h0] : List Value).toArray s = true) (hown : s.vm.findClass RX15 = some m.cls) (hin : meth.name = "<init>") (hA : ∀ q : Nat, s.heap.size ≤ q → A q) (hN : w_N s) (pl : va_W) {H : Heap} {locs : List Loc} {ls : Array Slot} (hP : va_P (dC, dI) vwCl ([(h0, .inr (15, fs_212))] ++ pl) H) (hD : va_D A ([(h0, .inr (15, fs_212))] ++ pl)) (hK : va_K (dC, dI) vwCl [] s) (hS : va_S A s.heap H locs) (hl : lv_has ls 3 [(0, .ref h0)]) (hF : mF 89 [(36, .ref q_113), (33, .ref q_99), (31, .ref q_57), (30, .ref q_50), (26, .ref q_47), (20, .int (-1)), (17, .int (-1)), (14, .ref q_39), (13, .ref q_35), (0, .int 0), (18, .int 0), (19, .int 0), (21, .int 0), (22, .int 0), (23, .int 0), (24, .int 0), (25, .int 0), (27, .int 0), (28, .int 0), (29, .int 0), (35, .int 0)] fs_212) (kont : ∀ (fs_250 : List Value) (H : Heap) (locs : List Loc) (ls : Array Slot), va_P (dC, dI) vwCl ([(h0, .inr (15, fs_250))] ++ pl) H → va_D A ([(h0, .inr (15, fs_250))] ++ pl) → va_K (dC, dI) vwCl [] s → va_S A s.heap H locs → lv_has ls 3 [(0, .ref h0)] → mF 89 [(36, .ref q_113), (33, .ref q_99), (31, .ref q_57), (30, .ref q_50), (26, .ref q_47), (20, .int (-1)), (17, .int (-1)), (14, .ref q_39), (13, .ref q_35), (0, .int 0), (18, .int 0), (19, .int 0), (21, .int 0), (22, .int 0), (23, .int 0), (24, .int 0), (25, .int 0), (27, .int 0), (28, .int 0), (29, .int 0), (35, .int 0)] fs_250 → W p l e ({ frames := 3, cells := 7193, slots := 3261971, locals := 56 } : Room) s m ([.ref h0] : List Value).toArray below meth c H locs 3870 2216172 Q0 (F0 m 627 ls [])) : W p l e ({ frames := 3, cells := 7193, slots := 3261971, locals := 56 } : Room) s m ([.ref h0] : List Value).toArray below meth c H locs 3844 577077 Q0 (F0 m 554 ls []) := by
  refine lv_aload_n hx hb dX15_init_554 rfl (lv_at hl 0 rfl) ?_
  refine va_new (ci := 13) (fs := [.null, .null, .null, .null, .int 0]) (C := RX13) (T := TX13) (N := 5) hx hb hts (in_X15_init_X13) tyX13 tyX13_ok hown (hts (.classLink RX15 127 RX13) (List.mem_of_getElem? (i := 29) rfl)) (hts (.instantiable RX13 5) (List.mem_of_getElem? (i := 30) rfl)) (hts (.initialized RX13) (List.mem_of_getElem? (i := 31) rfl)) hK hP hD hS hA rfl (fun j hj => by rcases (show j = 0 ∨ j = 1 ∨ j = 2 ∨ j = 3 ∨ j = 4 by omega) with rfl | rfl | rfl | rfl | rfl <;> rfl) (Nat.le_of_ble_eq_true rfl) (Nat.le_of_ble_eq_true rfl) dX15_init_555 ?_
  clear hP hD hS; try clear H
  intro q_213 H hP hD hS
  replace hP := va_P.swap hP; replace hD := va_D.swap hD
  replace hP : va_P (dC, dI) vwCl ([(h0, .inr (15, fs_212)), (q_213, .inr (13, [.null, .null, .null, .null, .int 0]))] ++ pl) H := hP
  replace hD : va_D A ([(h0, .inr (15, fs_212)), (q_213, .inr (13, [.null, .null, .null, .null, .int 0]))] ++ pl) := hD
  refine lv_dup hx hb dX15_init_558 rfl ?_
  refine lv_ldc (v := 32768) hx hb hown (hts (.constant RX15 170 (32768)) (List.mem_of_getElem? (i := 44) rfl)) dX15_init_559 ?_
  have hPc := hP.sub (ws' := [(q_213, .inr (13, [.null, .null, .null, .null, .int 0]))]) [1] rfl
  have hDc := hD.sub (ws' := [(q_213, .inr (13, [.null, .null, .null, .null, .int 0]))]) [1] (by decide) rfl
  have hKc := hK.sub (tys' := []) [] rfl
  have hFc := va_free (wc := [(q_213, .inr (13, [.null, .null, .null, .null, .int 0]))]) hD hS hA [1] rfl
  refine va_callv (va_runIN (As := [.int 32768]) (rest := [.ref q_213, .ref h0]) ⟨hx, hb, hml, hown, hts⟩ (c_X13_init_32768 l dC dI q_213 H.size) ⟨va_cnB 1 hts gM15_X13 rfl rfl rfl (hN.1 (RX15, 129, yX13_init, RX15) (List.mem_of_getElem? (i := 28) rfl)) (hts (.initialized RX13) (List.mem_of_getElem? (i := 31) rfl)) hd_X13_init ⟨Nat.le_of_ble_eq_true rfl, Nat.le_of_ble_eq_true rfl⟩, rfl, (hts (.instanceMethod yX13_init) (List.mem_of_getElem? (i := 100) rfl))⟩ ⟨fun a U g mk q => by obtain ⟨q0, q1, qP, qK, qD, qE0⟩ := q; exact ⟨q0, q1, qP, va_K.moved (u := U) (U := U.calling g mk a) (Vm.Alike.refl U.vm) qK, qD, w_N.same rfl qE0⟩, fun U hU hW => ⟨rfl, by rw [hU], by rw [hU]; exact hPc, va_K.moved hW.alike hKc, hDc.weaken (fun _ _ _ _ => trivial), w_N.warm hW hN⟩⟩ rfl rfl hl.1 rfl (lv_room (Nat.le_of_ble_eq_true rfl)) dX15_init_561 ⟨(Nat.le_of_ble_eq_true rfl), (Nat.le_of_ble_eq_true rfl)⟩) hS (fun q _ h => hFc q h) hFc (fun u t H1 locs1 ht hvm hw hB hz1 hk1 hS1 => ?_)
  obtain ⟨q_214, q_215, q_216, q_217, k_218, hP1, hK1, hD1⟩ := hB
  rw [ht] at hP1
  have hK1 := va_K.moved hvm.symm hK1
  have hJ := va_joinQ (wr := [(h0, .inr (15, fs_212))]) (w1 := [(q_213, .inr (13, [.ref q_214, .ref q_215, .ref q_216, .ref q_217, .int 0])), (q_216, .inl (k_218, 65536, .inl (fun _ => 0)))]) hP hD [1] [0] rfl rfl (by decide) (by decide) hk1 hFc hP1 hD1
  clear hP hD hPc hDc hKc hFc hz1 hw; try clear hk1
  obtain ⟨hP, hD⟩ := hJ
  replace hK := (hK.sub (tys' := []) [] rfl).app (hK1.sub (tys' := [(k_218, .int)]) [0] rfl)
  clear hP1 hK1 hD1 hvm ht hS; try clear t
  try clear H
  revert hS1
  intro hS
  generalize H1 = H at hP hS ⊢; try clear H1
  replace hP : va_P (dC, dI) vwCl ([(h0, .inr (15, fs_212)), (q_213, .inr (13, [.ref q_214, .ref q_215, .ref q_216, .ref q_217, .int 0])), (q_216, .inl (k_218, 65536, .inl (fun _ => 0)))] ++ pl) H := hP
  replace hD : va_D A ([(h0, .inr (15, fs_212)), (q_213, .inr (13, [.ref q_214, .ref q_215, .ref q_216, .ref q_217, .int 0])), (q_216, .inl (k_218, 65536, .inl (fun _ => 0)))] ++ pl) := hD
  replace hK : va_K (dC, dI) vwCl [(k_218, .int)] s := hK
  refine va_putF (D := (dC, dI)) (ci := 15) (v := .ref q_213) (ty := .object "MotionSignsModel$Poly") (C := RX15) (T := TX15) (N := 89) hx hb hts (in_X15_init_X15) tyX15 tyX15_ok nmX15 hown hK hP hD hS 0 rfl rfl 43 (by decide) (hts (.fieldLink RX15 171 "MotionSignsModel" "part" "LMotionSignsModel$Poly;") (List.mem_of_getElem? (i := 45) rfl)) (fun _ h9 => h9) rfl hin rfl (tyX15_ok 43 (by decide)) rfl rfl (mF.lt hF (by decide)) dX15_init_564 ?_
  clear hP hD hS; try clear H
  intro H locs hP hD hS
  have hF1 := mF.pass hF 43 (.ref q_213) (by decide) rfl
  replace hP : va_P (dC, dI) vwCl ([(h0, .inr (15, (fs_212.set 43 (.ref q_213)))), (q_213, .inr (13, [.ref q_214, .ref q_215, .ref q_216, .ref q_217, .int 0])), (q_216, .inl (k_218, 65536, .inl (fun _ => 0)))] ++ pl) H := hP
  replace hD : va_D A ([(h0, .inr (15, (fs_212.set 43 (.ref q_213)))), (q_213, .inr (13, [.ref q_214, .ref q_215, .ref q_216, .ref q_217, .int 0])), (q_216, .inl (k_218, 65536, .inl (fun _ => 0)))] ++ pl) := hD
  generalize fs_212.set 43 (.ref q_213) = fs_219 at hP hD hF1
  replace hF : mF 89 [(36, .ref q_113), (33, .ref q_99), (31, .ref q_57), (30, .ref q_50), (26, .ref q_47), (20, .int (-1)), (17, .int (-1)), (14, .ref q_39), (13, .ref q_35), (0, .int 0), (18, .int 0), (19, .int 0), (21, .int 0), (22, .int 0), (23, .int 0), (24, .int 0), (25, .int 0), (27, .int 0), (28, .int 0), (29, .int 0), (35, .int 0)] fs_219 := hF1
  clear hF1
  replace hP : va_P (dC, dI) vwCl ([(h0, .inr (15, fs_219)), (q_213, .inr (13, [.ref q_214, .ref q_215, .ref q_216, .ref q_217, .int 0])), (q_216, .inl (k_218, 65536, .inl (fun _ => 0)))] ++ pl) H := hP
  replace hD : va_D A ([(h0, .inr (15, fs_219)), (q_213, .inr (13, [.ref q_214, .ref q_215, .ref q_216, .ref q_217, .int 0])), (q_216, .inl (k_218, 65536, .inl (fun _ => 0)))] ++ pl) := hD
  replace hP := wm_subP (X' := [(h0, .inr (15, fs_219))]) hP [0] rfl
  replace hD := wm_subD (X' := [(h0, .inr (15, fs_219))]) hD [0] (by decide) rfl
  replace hK := hK.sub (tys' := []) [] rfl
  refine lv_aload_n hx hb dX15_init_567 rfl (lv_at hl 0 rfl) ?_
  refine va_new (ci := 13) (fs := [.null, .null, .null, .null, .int 0]) (C := RX13) (T := TX13) (N := 5) hx hb hts (in_X15_init_X13) tyX13 tyX13_ok hown (hts (.classLink RX15 127 RX13) (List.mem_of_getElem? (i := 29) rfl)) (hts (.instantiable RX13 5) (List.mem_of_getElem? (i := 30) rfl)) (hts (.initialized RX13) (List.mem_of_getElem? (i := 31) rfl)) hK hP hD hS hA rfl (fun j hj => by rcases (show j = 0 ∨ j = 1 ∨ j = 2 ∨ j = 3 ∨ j = 4 by omega) with rfl | rfl | rfl | rfl | rfl <;> rfl) (Nat.le_of_ble_eq_true rfl) (Nat.le_of_ble_eq_true rfl) dX15_init_568 ?_
  clear hP hD hS; try clear H
  intro q_220 H hP hD hS
  replace hP := va_P.swap hP; replace hD := va_D.swap hD
  replace hP : va_P (dC, dI) vwCl ([(h0, .inr (15, fs_219)), (q_220, .inr (13, [.null, .null, .null, .null, .int 0]))] ++ pl) H := hP
  replace hD : va_D A ([(h0, .inr (15, fs_219)), (q_220, .inr (13, [.null, .null, .null, .null, .int 0]))] ++ pl) := hD
  refine lv_dup hx hb dX15_init_571 rfl ?_
  refine lv_ldc (v := 262144) hx hb hown (hts (.constant RX15 174 (262144)) (List.mem_of_getElem? (i := 46) rfl)) dX15_init_572 ?_
  have hPc := hP.sub (ws' := [(q_220, .inr (13, [.null, .null, .null, .null, .int 0]))]) [1] rfl
  have hDc := hD.sub (ws' := [(q_220, .inr (13, [.null, .null, .null, .null, .int 0]))]) [1] (by decide) rfl
  have hKc := hK.sub (tys' := []) [] rfl
  have hFc := va_free (wc := [(q_220, .inr (13, [.null, .null, .null, .null, .int 0]))]) hD hS hA [1] rfl
  refine va_callv (va_runIN (As := [.int 262144]) (rest := [.ref q_220, .ref h0]) ⟨hx, hb, hml, hown, hts⟩ (c_X13_init_262144 l dC dI q_220 H.size) ⟨va_cnB 1 hts gM15_X13 rfl rfl rfl (hN.1 (RX15, 129, yX13_init, RX15) (List.mem_of_getElem? (i := 28) rfl)) (hts (.initialized RX13) (List.mem_of_getElem? (i := 31) rfl)) hd_X13_init ⟨Nat.le_of_ble_eq_true rfl, Nat.le_of_ble_eq_true rfl⟩, rfl, (hts (.instanceMethod yX13_init) (List.mem_of_getElem? (i := 100) rfl))⟩ ⟨fun a U g mk q => by obtain ⟨q0, q1, qP, qK, qD, qE0⟩ := q; exact ⟨q0, q1, qP, va_K.moved (u := U) (U := U.calling g mk a) (Vm.Alike.refl U.vm) qK, qD, w_N.same rfl qE0⟩, fun U hU hW => ⟨rfl, by rw [hU], by rw [hU]; exact hPc, va_K.moved hW.alike hKc, hDc.weaken (fun _ _ _ _ => trivial), w_N.warm hW hN⟩⟩ rfl rfl hl.1 rfl (lv_room (Nat.le_of_ble_eq_true rfl)) dX15_init_574 ⟨(Nat.le_of_ble_eq_true rfl), (Nat.le_of_ble_eq_true rfl)⟩) hS (fun q _ h => hFc q h) hFc (fun u t H1 locs1 ht hvm hw hB hz1 hk1 hS1 => ?_)
  obtain ⟨q_221, q_222, q_223, q_224, k_225, hP1, hK1, hD1⟩ := hB
  rw [ht] at hP1
  have hK1 := va_K.moved hvm.symm hK1
  have hJ := va_joinQ (wr := [(h0, .inr (15, fs_219))]) (w1 := [(q_220, .inr (13, [.ref q_221, .ref q_222, .ref q_223, .ref q_224, .int 0])), (q_223, .inl (k_225, 524288, .inl (fun _ => 0)))]) hP hD [1] [0] rfl rfl (by decide) (by decide) hk1 hFc hP1 hD1
  clear hP hD hPc hDc hKc hFc hz1 hw; try clear hk1
  obtain ⟨hP, hD⟩ := hJ
  replace hK := (hK.sub (tys' := []) [] rfl).app (hK1.sub (tys' := [(k_225, .int)]) [0] rfl)
  clear hP1 hK1 hD1 hvm ht hS; try clear t
  try clear H
  revert hS1
  intro hS
  generalize H1 = H at hP hS ⊢; try clear H1
  replace hP : va_P (dC, dI) vwCl ([(h0, .inr (15, fs_219)), (q_220, .inr (13, [.ref q_221, .ref q_222, .ref q_223, .ref q_224, .int 0])), (q_223, .inl (k_225, 524288, .inl (fun _ => 0)))] ++ pl) H := hP
  replace hD : va_D A ([(h0, .inr (15, fs_219)), (q_220, .inr (13, [.ref q_221, .ref q_222, .ref q_223, .ref q_224, .int 0])), (q_223, .inl (k_225, 524288, .inl (fun _ => 0)))] ++ pl) := hD
  replace hK : va_K (dC, dI) vwCl [(k_225, .int)] s := hK
  refine va_putF (D := (dC, dI)) (ci := 15) (v := .ref q_220) (ty := .object "MotionSignsModel$Poly") (C := RX15) (T := TX15) (N := 89) hx hb hts (in_X15_init_X15) tyX15 tyX15_ok nmX15 hown hK hP hD hS 0 rfl rfl 44 (by decide) (hts (.fieldLink RX15 175 "MotionSignsModel" "all" "LMotionSignsModel$Poly;") (List.mem_of_getElem? (i := 47) rfl)) (fun _ h9 => h9) rfl hin rfl (tyX15_ok 44 (by decide)) rfl rfl (mF.lt hF (by decide)) dX15_init_577 ?_
  clear hP hD hS; try clear H
  intro H locs hP hD hS
  have hF1 := mF.pass hF 44 (.ref q_220) (by decide) rfl
  replace hP : va_P (dC, dI) vwCl ([(h0, .inr (15, (fs_219.set 44 (.ref q_220)))), (q_220, .inr (13, [.ref q_221, .ref q_222, .ref q_223, .ref q_224, .int 0])), (q_223, .inl (k_225, 524288, .inl (fun _ => 0)))] ++ pl) H := hP
  replace hD : va_D A ([(h0, .inr (15, (fs_219.set 44 (.ref q_220)))), (q_220, .inr (13, [.ref q_221, .ref q_222, .ref q_223, .ref q_224, .int 0])), (q_223, .inl (k_225, 524288, .inl (fun _ => 0)))] ++ pl) := hD
  generalize fs_219.set 44 (.ref q_220) = fs_226 at hP hD hF1
  replace hF : mF 89 [(36, .ref q_113), (33, .ref q_99), (31, .ref q_57), (30, .ref q_50), (26, .ref q_47), (20, .int (-1)), (17, .int (-1)), (14, .ref q_39), (13, .ref q_35), (0, .int 0), (18, .int 0), (19, .int 0), (21, .int 0), (22, .int 0), (23, .int 0), (24, .int 0), (25, .int 0), (27, .int 0), (28, .int 0), (29, .int 0), (35, .int 0)] fs_226 := hF1
  clear hF1
  replace hP : va_P (dC, dI) vwCl ([(h0, .inr (15, fs_226)), (q_220, .inr (13, [.ref q_221, .ref q_222, .ref q_223, .ref q_224, .int 0])), (q_223, .inl (k_225, 524288, .inl (fun _ => 0)))] ++ pl) H := hP
  replace hD : va_D A ([(h0, .inr (15, fs_226)), (q_220, .inr (13, [.ref q_221, .ref q_222, .ref q_223, .ref q_224, .int 0])), (q_223, .inl (k_225, 524288, .inl (fun _ => 0)))] ++ pl) := hD
  replace hP := wm_subP (X' := [(h0, .inr (15, fs_226))]) hP [0] rfl
  replace hD := wm_subD (X' := [(h0, .inr (15, fs_226))]) hD [0] (by decide) rfl
  replace hK := hK.sub (tys' := []) [] rfl
  refine lv_aload_n hx hb dX15_init_580 rfl (lv_at hl 0 rfl) ?_
  refine va_new (ci := 13) (fs := [.null, .null, .null, .null, .int 0]) (C := RX13) (T := TX13) (N := 5) hx hb hts (in_X15_init_X13) tyX13 tyX13_ok hown (hts (.classLink RX15 127 RX13) (List.mem_of_getElem? (i := 29) rfl)) (hts (.instantiable RX13 5) (List.mem_of_getElem? (i := 30) rfl)) (hts (.initialized RX13) (List.mem_of_getElem? (i := 31) rfl)) hK hP hD hS hA rfl (fun j hj => by rcases (show j = 0 ∨ j = 1 ∨ j = 2 ∨ j = 3 ∨ j = 4 by omega) with rfl | rfl | rfl | rfl | rfl <;> rfl) (Nat.le_of_ble_eq_true rfl) (Nat.le_of_ble_eq_true rfl) dX15_init_581 ?_
  clear hP hD hS; try clear H
  intro q_227 H hP hD hS
  replace hP := va_P.swap hP; replace hD := va_D.swap hD
  replace hP : va_P (dC, dI) vwCl ([(h0, .inr (15, fs_226)), (q_227, .inr (13, [.null, .null, .null, .null, .int 0]))] ++ pl) H := hP
  replace hD : va_D A ([(h0, .inr (15, fs_226)), (q_227, .inr (13, [.null, .null, .null, .null, .int 0]))] ++ pl) := hD
  refine lv_dup hx hb dX15_init_584 rfl ?_
  refine lv_bipush (v := 64) hx hb dX15_init_585 (by decide) ?_
  have hPc := hP.sub (ws' := [(q_227, .inr (13, [.null, .null, .null, .null, .int 0]))]) [1] rfl
  have hDc := hD.sub (ws' := [(q_227, .inr (13, [.null, .null, .null, .null, .int 0]))]) [1] (by decide) rfl
  have hKc := hK.sub (tys' := []) [] rfl
  have hFc := va_free (wc := [(q_227, .inr (13, [.null, .null, .null, .null, .int 0]))]) hD hS hA [1] rfl
  refine va_callv (va_runIN (As := [.int 64]) (rest := [.ref q_227, .ref h0]) ⟨hx, hb, hml, hown, hts⟩ (c_X13_init_64 l dC dI q_227 H.size) ⟨va_cnB 1 hts gM15_X13 rfl rfl rfl (hN.1 (RX15, 129, yX13_init, RX15) (List.mem_of_getElem? (i := 28) rfl)) (hts (.initialized RX13) (List.mem_of_getElem? (i := 31) rfl)) hd_X13_init ⟨Nat.le_of_ble_eq_true rfl, Nat.le_of_ble_eq_true rfl⟩, rfl, (hts (.instanceMethod yX13_init) (List.mem_of_getElem? (i := 100) rfl))⟩ ⟨fun a U g mk q => by obtain ⟨q0, q1, qP, qK, qD, qE0⟩ := q; exact ⟨q0, q1, qP, va_K.moved (u := U) (U := U.calling g mk a) (Vm.Alike.refl U.vm) qK, qD, w_N.same rfl qE0⟩, fun U hU hW => ⟨rfl, by rw [hU], by rw [hU]; exact hPc, va_K.moved hW.alike hKc, hDc.weaken (fun _ _ _ _ => trivial), w_N.warm hW hN⟩⟩ rfl rfl hl.1 rfl (lv_room (Nat.le_of_ble_eq_true rfl)) dX15_init_587 ⟨(Nat.le_of_ble_eq_true rfl), (Nat.le_of_ble_eq_true rfl)⟩) hS (fun q _ h => hFc q h) hFc (fun u t H1 locs1 ht hvm hw hB hz1 hk1 hS1 => ?_)
  obtain ⟨q_228, q_229, q_230, q_231, k_232, hP1, hK1, hD1⟩ := hB
  rw [ht] at hP1
  have hK1 := va_K.moved hvm.symm hK1
  have hJ := va_joinQ (wr := [(h0, .inr (15, fs_226))]) (w1 := [(q_227, .inr (13, [.ref q_228, .ref q_229, .ref q_230, .ref q_231, .int 0])), (q_230, .inl (k_232, 128, .inl (fun _ => 0)))]) hP hD [1] [0] rfl rfl (by decide) (by decide) hk1 hFc hP1 hD1
  clear hP hD hPc hDc hKc hFc hz1 hw; try clear hk1
  obtain ⟨hP, hD⟩ := hJ
  replace hK := (hK.sub (tys' := []) [] rfl).app (hK1.sub (tys' := [(k_232, .int)]) [0] rfl)
  clear hP1 hK1 hD1 hvm ht hS; try clear t
  try clear H
  revert hS1
  intro hS
  generalize H1 = H at hP hS ⊢; try clear H1
  replace hP : va_P (dC, dI) vwCl ([(h0, .inr (15, fs_226)), (q_227, .inr (13, [.ref q_228, .ref q_229, .ref q_230, .ref q_231, .int 0])), (q_230, .inl (k_232, 128, .inl (fun _ => 0)))] ++ pl) H := hP
  replace hD : va_D A ([(h0, .inr (15, fs_226)), (q_227, .inr (13, [.ref q_228, .ref q_229, .ref q_230, .ref q_231, .int 0])), (q_230, .inl (k_232, 128, .inl (fun _ => 0)))] ++ pl) := hD
  replace hK : va_K (dC, dI) vwCl [(k_232, .int)] s := hK
  refine va_putF (D := (dC, dI)) (ci := 15) (v := .ref q_227) (ty := .object "MotionSignsModel$Poly") (C := RX15) (T := TX15) (N := 89) hx hb hts (in_X15_init_X15) tyX15 tyX15_ok nmX15 hown hK hP hD hS 0 rfl rfl 45 (by decide) (hts (.fieldLink RX15 178 "MotionSignsModel" "single" "LMotionSignsModel$Poly;") (List.mem_of_getElem? (i := 48) rfl)) (fun _ h9 => h9) rfl hin rfl (tyX15_ok 45 (by decide)) rfl rfl (mF.lt hF (by decide)) dX15_init_590 ?_
  clear hP hD hS; try clear H
  intro H locs hP hD hS
  have hF1 := mF.pass hF 45 (.ref q_227) (by decide) rfl
  replace hP : va_P (dC, dI) vwCl ([(h0, .inr (15, (fs_226.set 45 (.ref q_227)))), (q_227, .inr (13, [.ref q_228, .ref q_229, .ref q_230, .ref q_231, .int 0])), (q_230, .inl (k_232, 128, .inl (fun _ => 0)))] ++ pl) H := hP
  replace hD : va_D A ([(h0, .inr (15, (fs_226.set 45 (.ref q_227)))), (q_227, .inr (13, [.ref q_228, .ref q_229, .ref q_230, .ref q_231, .int 0])), (q_230, .inl (k_232, 128, .inl (fun _ => 0)))] ++ pl) := hD
  generalize fs_226.set 45 (.ref q_227) = fs_233 at hP hD hF1
  replace hF : mF 89 [(36, .ref q_113), (33, .ref q_99), (31, .ref q_57), (30, .ref q_50), (26, .ref q_47), (20, .int (-1)), (17, .int (-1)), (14, .ref q_39), (13, .ref q_35), (0, .int 0), (18, .int 0), (19, .int 0), (21, .int 0), (22, .int 0), (23, .int 0), (24, .int 0), (25, .int 0), (27, .int 0), (28, .int 0), (29, .int 0), (35, .int 0)] fs_233 := hF1
  clear hF1
  replace hP : va_P (dC, dI) vwCl ([(h0, .inr (15, fs_233)), (q_227, .inr (13, [.ref q_228, .ref q_229, .ref q_230, .ref q_231, .int 0])), (q_230, .inl (k_232, 128, .inl (fun _ => 0)))] ++ pl) H := hP
  replace hD : va_D A ([(h0, .inr (15, fs_233)), (q_227, .inr (13, [.ref q_228, .ref q_229, .ref q_230, .ref q_231, .int 0])), (q_230, .inl (k_232, 128, .inl (fun _ => 0)))] ++ pl) := hD
  replace hP := wm_subP (X' := [(h0, .inr (15, fs_233))]) hP [0] rfl
  replace hD := wm_subD (X' := [(h0, .inr (15, fs_233))]) hD [0] (by decide) rfl
  replace hK := hK.sub (tys' := []) [] rfl
  refine lv_aload_n hx hb dX15_init_593 rfl (lv_at hl 0 rfl) ?_
  refine va_new (ci := 13) (fs := [.null, .null, .null, .null, .int 0]) (C := RX13) (T := TX13) (N := 5) hx hb hts (in_X15_init_X13) tyX13 tyX13_ok hown (hts (.classLink RX15 127 RX13) (List.mem_of_getElem? (i := 29) rfl)) (hts (.instantiable RX13 5) (List.mem_of_getElem? (i := 30) rfl)) (hts (.initialized RX13) (List.mem_of_getElem? (i := 31) rfl)) hK hP hD hS hA rfl (fun j hj => by rcases (show j = 0 ∨ j = 1 ∨ j = 2 ∨ j = 3 ∨ j = 4 by omega) with rfl | rfl | rfl | rfl | rfl <;> rfl) (Nat.le_of_ble_eq_true rfl) (Nat.le_of_ble_eq_true rfl) dX15_init_594 ?_
  clear hP hD hS; try clear H
  intro q_234 H hP hD hS
  replace hP := va_P.swap hP; replace hD := va_D.swap hD
  replace hP : va_P (dC, dI) vwCl ([(h0, .inr (15, fs_233)), (q_234, .inr (13, [.null, .null, .null, .null, .int 0]))] ++ pl) H := hP
  replace hD : va_D A ([(h0, .inr (15, fs_233)), (q_234, .inr (13, [.null, .null, .null, .null, .int 0]))] ++ pl) := hD
  refine lv_dup hx hb dX15_init_597 rfl ?_
  refine lv_ldc (v := 32768) hx hb hown (hts (.constant RX15 170 (32768)) (List.mem_of_getElem? (i := 44) rfl)) dX15_init_598 ?_
  have hPc := hP.sub (ws' := [(q_234, .inr (13, [.null, .null, .null, .null, .int 0]))]) [1] rfl
  have hDc := hD.sub (ws' := [(q_234, .inr (13, [.null, .null, .null, .null, .int 0]))]) [1] (by decide) rfl
  have hKc := hK.sub (tys' := []) [] rfl
  have hFc := va_free (wc := [(q_234, .inr (13, [.null, .null, .null, .null, .int 0]))]) hD hS hA [1] rfl
  refine va_callv (va_runIN (As := [.int 32768]) (rest := [.ref q_234, .ref h0]) ⟨hx, hb, hml, hown, hts⟩ (c_X13_init_32768 l dC dI q_234 H.size) ⟨va_cnB 1 hts gM15_X13 rfl rfl rfl (hN.1 (RX15, 129, yX13_init, RX15) (List.mem_of_getElem? (i := 28) rfl)) (hts (.initialized RX13) (List.mem_of_getElem? (i := 31) rfl)) hd_X13_init ⟨Nat.le_of_ble_eq_true rfl, Nat.le_of_ble_eq_true rfl⟩, rfl, (hts (.instanceMethod yX13_init) (List.mem_of_getElem? (i := 100) rfl))⟩ ⟨fun a U g mk q => by obtain ⟨q0, q1, qP, qK, qD, qE0⟩ := q; exact ⟨q0, q1, qP, va_K.moved (u := U) (U := U.calling g mk a) (Vm.Alike.refl U.vm) qK, qD, w_N.same rfl qE0⟩, fun U hU hW => ⟨rfl, by rw [hU], by rw [hU]; exact hPc, va_K.moved hW.alike hKc, hDc.weaken (fun _ _ _ _ => trivial), w_N.warm hW hN⟩⟩ rfl rfl hl.1 rfl (lv_room (Nat.le_of_ble_eq_true rfl)) dX15_init_600 ⟨(Nat.le_of_ble_eq_true rfl), (Nat.le_of_ble_eq_true rfl)⟩) hS (fun q _ h => hFc q h) hFc (fun u t H1 locs1 ht hvm hw hB hz1 hk1 hS1 => ?_)
  obtain ⟨q_235, q_236, q_237, q_238, k_239, hP1, hK1, hD1⟩ := hB
  rw [ht] at hP1
  have hK1 := va_K.moved hvm.symm hK1
  have hJ := va_joinQ (wr := [(h0, .inr (15, fs_233))]) (w1 := [(q_234, .inr (13, [.ref q_235, .ref q_236, .ref q_237, .ref q_238, .int 0])), (q_237, .inl (k_239, 65536, .inl (fun _ => 0)))]) hP hD [1] [0] rfl rfl (by decide) (by decide) hk1 hFc hP1 hD1
  clear hP hD hPc hDc hKc hFc hz1 hw; try clear hk1
  obtain ⟨hP, hD⟩ := hJ
  replace hK := (hK.sub (tys' := []) [] rfl).app (hK1.sub (tys' := [(k_239, .int)]) [0] rfl)
  clear hP1 hK1 hD1 hvm ht hS; try clear t
  try clear H
  revert hS1
  intro hS
  generalize H1 = H at hP hS ⊢; try clear H1
  replace hP : va_P (dC, dI) vwCl ([(h0, .inr (15, fs_233)), (q_234, .inr (13, [.ref q_235, .ref q_236, .ref q_237, .ref q_238, .int 0])), (q_237, .inl (k_239, 65536, .inl (fun _ => 0)))] ++ pl) H := hP
  replace hD : va_D A ([(h0, .inr (15, fs_233)), (q_234, .inr (13, [.ref q_235, .ref q_236, .ref q_237, .ref q_238, .int 0])), (q_237, .inl (k_239, 65536, .inl (fun _ => 0)))] ++ pl) := hD
  replace hK : va_K (dC, dI) vwCl [(k_239, .int)] s := hK
  refine va_putF (D := (dC, dI)) (ci := 15) (v := .ref q_234) (ty := .object "MotionSignsModel$Poly") (C := RX15) (T := TX15) (N := 89) hx hb hts (in_X15_init_X15) tyX15 tyX15_ok nmX15 hown hK hP hD hS 0 rfl rfl 46 (by decide) (hts (.fieldLink RX15 181 "MotionSignsModel" "mixed" "LMotionSignsModel$Poly;") (List.mem_of_getElem? (i := 49) rfl)) (fun _ h9 => h9) rfl hin rfl (tyX15_ok 46 (by decide)) rfl rfl (mF.lt hF (by decide)) dX15_init_603 ?_
  clear hP hD hS; try clear H
  intro H locs hP hD hS
  have hF1 := mF.pass hF 46 (.ref q_234) (by decide) rfl
  replace hP : va_P (dC, dI) vwCl ([(h0, .inr (15, (fs_233.set 46 (.ref q_234)))), (q_234, .inr (13, [.ref q_235, .ref q_236, .ref q_237, .ref q_238, .int 0])), (q_237, .inl (k_239, 65536, .inl (fun _ => 0)))] ++ pl) H := hP
  replace hD : va_D A ([(h0, .inr (15, (fs_233.set 46 (.ref q_234)))), (q_234, .inr (13, [.ref q_235, .ref q_236, .ref q_237, .ref q_238, .int 0])), (q_237, .inl (k_239, 65536, .inl (fun _ => 0)))] ++ pl) := hD
  generalize fs_233.set 46 (.ref q_234) = fs_240 at hP hD hF1
  replace hF : mF 89 [(36, .ref q_113), (33, .ref q_99), (31, .ref q_57), (30, .ref q_50), (26, .ref q_47), (20, .int (-1)), (17, .int (-1)), (14, .ref q_39), (13, .ref q_35), (0, .int 0), (18, .int 0), (19, .int 0), (21, .int 0), (22, .int 0), (23, .int 0), (24, .int 0), (25, .int 0), (27, .int 0), (28, .int 0), (29, .int 0), (35, .int 0)] fs_240 := hF1
  clear hF1
  replace hP : va_P (dC, dI) vwCl ([(h0, .inr (15, fs_240)), (q_234, .inr (13, [.ref q_235, .ref q_236, .ref q_237, .ref q_238, .int 0])), (q_237, .inl (k_239, 65536, .inl (fun _ => 0)))] ++ pl) H := hP
  replace hD : va_D A ([(h0, .inr (15, fs_240)), (q_234, .inr (13, [.ref q_235, .ref q_236, .ref q_237, .ref q_238, .int 0])), (q_237, .inl (k_239, 65536, .inl (fun _ => 0)))] ++ pl) := hD
  replace hP := wm_subP (X' := [(h0, .inr (15, fs_240))]) hP [0] rfl
  replace hD := wm_subD (X' := [(h0, .inr (15, fs_240))]) hD [0] (by decide) rfl
  replace hK := hK.sub (tys' := []) [] rfl
  refine lv_aload_n hx hb dX15_init_606 rfl (lv_at hl 0 rfl) ?_
  refine va_new (ci := 13) (fs := [.null, .null, .null, .null, .int 0]) (C := RX13) (T := TX13) (N := 5) hx hb hts (in_X15_init_X13) tyX13 tyX13_ok hown (hts (.classLink RX15 127 RX13) (List.mem_of_getElem? (i := 29) rfl)) (hts (.instantiable RX13 5) (List.mem_of_getElem? (i := 30) rfl)) (hts (.initialized RX13) (List.mem_of_getElem? (i := 31) rfl)) hK hP hD hS hA rfl (fun j hj => by rcases (show j = 0 ∨ j = 1 ∨ j = 2 ∨ j = 3 ∨ j = 4 by omega) with rfl | rfl | rfl | rfl | rfl <;> rfl) (Nat.le_of_ble_eq_true rfl) (Nat.le_of_ble_eq_true rfl) dX15_init_607 ?_
  clear hP hD hS; try clear H
  intro q_241 H hP hD hS
  replace hP := va_P.swap hP; replace hD := va_D.swap hD
  replace hP : va_P (dC, dI) vwCl ([(h0, .inr (15, fs_240)), (q_241, .inr (13, [.null, .null, .null, .null, .int 0]))] ++ pl) H := hP
  replace hD : va_D A ([(h0, .inr (15, fs_240)), (q_241, .inr (13, [.null, .null, .null, .null, .int 0]))] ++ pl) := hD
  refine lv_dup hx hb dX15_init_610 rfl ?_
  refine lv_bipush (v := 64) hx hb dX15_init_611 (by decide) ?_
  have hPc := hP.sub (ws' := [(q_241, .inr (13, [.null, .null, .null, .null, .int 0]))]) [1] rfl
  have hDc := hD.sub (ws' := [(q_241, .inr (13, [.null, .null, .null, .null, .int 0]))]) [1] (by decide) rfl
  have hKc := hK.sub (tys' := []) [] rfl
  have hFc := va_free (wc := [(q_241, .inr (13, [.null, .null, .null, .null, .int 0]))]) hD hS hA [1] rfl
  refine va_callv (va_runIN (As := [.int 64]) (rest := [.ref q_241, .ref h0]) ⟨hx, hb, hml, hown, hts⟩ (c_X13_init_64 l dC dI q_241 H.size) ⟨va_cnB 1 hts gM15_X13 rfl rfl rfl (hN.1 (RX15, 129, yX13_init, RX15) (List.mem_of_getElem? (i := 28) rfl)) (hts (.initialized RX13) (List.mem_of_getElem? (i := 31) rfl)) hd_X13_init ⟨Nat.le_of_ble_eq_true rfl, Nat.le_of_ble_eq_true rfl⟩, rfl, (hts (.instanceMethod yX13_init) (List.mem_of_getElem? (i := 100) rfl))⟩ ⟨fun a U g mk q => by obtain ⟨q0, q1, qP, qK, qD, qE0⟩ := q; exact ⟨q0, q1, qP, va_K.moved (u := U) (U := U.calling g mk a) (Vm.Alike.refl U.vm) qK, qD, w_N.same rfl qE0⟩, fun U hU hW => ⟨rfl, by rw [hU], by rw [hU]; exact hPc, va_K.moved hW.alike hKc, hDc.weaken (fun _ _ _ _ => trivial), w_N.warm hW hN⟩⟩ rfl rfl hl.1 rfl (lv_room (Nat.le_of_ble_eq_true rfl)) dX15_init_613 ⟨(Nat.le_of_ble_eq_true rfl), (Nat.le_of_ble_eq_true rfl)⟩) hS (fun q _ h => hFc q h) hFc (fun u t H1 locs1 ht hvm hw hB hz1 hk1 hS1 => ?_)
  obtain ⟨q_242, q_243, q_244, q_245, k_246, hP1, hK1, hD1⟩ := hB
  rw [ht] at hP1
  have hK1 := va_K.moved hvm.symm hK1
  have hJ := va_joinQ (wr := [(h0, .inr (15, fs_240))]) (w1 := [(q_241, .inr (13, [.ref q_242, .ref q_243, .ref q_244, .ref q_245, .int 0])), (q_244, .inl (k_246, 128, .inl (fun _ => 0)))]) hP hD [1] [0] rfl rfl (by decide) (by decide) hk1 hFc hP1 hD1
  clear hP hD hPc hDc hKc hFc hz1 hw; try clear hk1
  obtain ⟨hP, hD⟩ := hJ
  replace hK := (hK.sub (tys' := []) [] rfl).app (hK1.sub (tys' := [(k_246, .int)]) [0] rfl)
  clear hP1 hK1 hD1 hvm ht hS; try clear t
  try clear H
  revert hS1
  intro hS
  generalize H1 = H at hP hS ⊢; try clear H1
  replace hP : va_P (dC, dI) vwCl ([(h0, .inr (15, fs_240)), (q_241, .inr (13, [.ref q_242, .ref q_243, .ref q_244, .ref q_245, .int 0])), (q_244, .inl (k_246, 128, .inl (fun _ => 0)))] ++ pl) H := hP
  replace hD : va_D A ([(h0, .inr (15, fs_240)), (q_241, .inr (13, [.ref q_242, .ref q_243, .ref q_244, .ref q_245, .int 0])), (q_244, .inl (k_246, 128, .inl (fun _ => 0)))] ++ pl) := hD
  replace hK : va_K (dC, dI) vwCl [(k_246, .int)] s := hK
  refine va_putF (D := (dC, dI)) (ci := 15) (v := .ref q_241) (ty := .object "MotionSignsModel$Poly") (C := RX15) (T := TX15) (N := 89) hx hb hts (in_X15_init_X15) tyX15 tyX15_ok nmX15 hown hK hP hD hS 0 rfl rfl 47 (by decide) (hts (.fieldLink RX15 184 "MotionSignsModel" "changed" "LMotionSignsModel$Poly;") (List.mem_of_getElem? (i := 50) rfl)) (fun _ h9 => h9) rfl hin rfl (tyX15_ok 47 (by decide)) rfl rfl (mF.lt hF (by decide)) dX15_init_616 ?_
  clear hP hD hS; try clear H
  intro H locs hP hD hS
  have hF1 := mF.pass hF 47 (.ref q_241) (by decide) rfl
  replace hP : va_P (dC, dI) vwCl ([(h0, .inr (15, (fs_240.set 47 (.ref q_241)))), (q_241, .inr (13, [.ref q_242, .ref q_243, .ref q_244, .ref q_245, .int 0])), (q_244, .inl (k_246, 128, .inl (fun _ => 0)))] ++ pl) H := hP
  replace hD : va_D A ([(h0, .inr (15, (fs_240.set 47 (.ref q_241)))), (q_241, .inr (13, [.ref q_242, .ref q_243, .ref q_244, .ref q_245, .int 0])), (q_244, .inl (k_246, 128, .inl (fun _ => 0)))] ++ pl) := hD
  generalize fs_240.set 47 (.ref q_241) = fs_247 at hP hD hF1
  replace hF : mF 89 [(36, .ref q_113), (33, .ref q_99), (31, .ref q_57), (30, .ref q_50), (26, .ref q_47), (20, .int (-1)), (17, .int (-1)), (14, .ref q_39), (13, .ref q_35), (0, .int 0), (18, .int 0), (19, .int 0), (21, .int 0), (22, .int 0), (23, .int 0), (24, .int 0), (25, .int 0), (27, .int 0), (28, .int 0), (29, .int 0), (35, .int 0)] fs_247 := hF1
  clear hF1
  replace hP : va_P (dC, dI) vwCl ([(h0, .inr (15, fs_247)), (q_241, .inr (13, [.ref q_242, .ref q_243, .ref q_244, .ref q_245, .int 0])), (q_244, .inl (k_246, 128, .inl (fun _ => 0)))] ++ pl) H := hP
  replace hD : va_D A ([(h0, .inr (15, fs_247)), (q_241, .inr (13, [.ref q_242, .ref q_243, .ref q_244, .ref q_245, .int 0])), (q_244, .inl (k_246, 128, .inl (fun _ => 0)))] ++ pl) := hD
  replace hP := wm_subP (X' := [(h0, .inr (15, fs_247))]) hP [0] rfl
  replace hD := wm_subD (X' := [(h0, .inr (15, fs_247))]) hD [0] (by decide) rfl
  replace hK := hK.sub (tys' := []) [] rfl
  refine lv_aload_n hx hb dX15_init_619 rfl (lv_at hl 0 rfl) ?_
  refine lv_bipush (v := 30) hx hb dX15_init_620 (by decide) ?_
  refine va_newa (atype := .long) (ty := .long) (N' := 30) (a0 := (30, .inr (.inl (fun _ => 0)))) hx hb (hts (.arrayClass .long) (List.mem_of_getElem? (i := 51) rfl)) rfl hK hP hD hS hA (fun _ => rfl) (by decide) (by decide) (Nat.le_of_ble_eq_true rfl) (Nat.le_of_ble_eq_true rfl) (Nat.le_of_ble_eq_true rfl) dX15_init_622 ?_
  clear hP hD hS hK; try clear H
  intro q_248 k_249 H hK hP hD hS
  replace hP := va_P.swap hP; replace hD := va_D.swap hD
  replace hP : va_P (dC, dI) vwCl ([(h0, .inr (15, fs_247)), (q_248, .inl (k_249, 30, .inr (.inl (fun _ => 0))))] ++ pl) H := hP
  replace hD : va_D A ([(h0, .inr (15, fs_247)), (q_248, .inl (k_249, 30, .inr (.inl (fun _ => 0))))] ++ pl) := hD
  replace hK : va_K (dC, dI) vwCl [(k_249, .long)] s := hK
  refine va_putF (D := (dC, dI)) (ci := 15) (v := .ref q_248) (ty := .array .long) (C := RX15) (T := TX15) (N := 89) hx hb hts (in_X15_init_X15) tyX15 tyX15_ok nmX15 hown hK hP hD hS 0 rfl rfl 48 (by decide) (hts (.fieldLink RX15 187 "MotionSignsModel" "unknown" "[J") (List.mem_of_getElem? (i := 52) rfl)) (fun _ h9 => h9) rfl hin rfl (tyX15_ok 48 (by decide)) rfl rfl (mF.lt hF (by decide)) dX15_init_624 ?_
  clear hP hD hS; try clear H
  intro H locs hP hD hS
  have hF1 := mF.pass hF 48 (.ref q_248) (by decide) rfl
  replace hP : va_P (dC, dI) vwCl ([(h0, .inr (15, (fs_247.set 48 (.ref q_248)))), (q_248, .inl (k_249, 30, .inr (.inl (fun _ => 0))))] ++ pl) H := hP
  replace hD : va_D A ([(h0, .inr (15, (fs_247.set 48 (.ref q_248)))), (q_248, .inl (k_249, 30, .inr (.inl (fun _ => 0))))] ++ pl) := hD
  generalize fs_247.set 48 (.ref q_248) = fs_250 at hP hD hF1
  replace hF : mF 89 [(36, .ref q_113), (33, .ref q_99), (31, .ref q_57), (30, .ref q_50), (26, .ref q_47), (20, .int (-1)), (17, .int (-1)), (14, .ref q_39), (13, .ref q_35), (0, .int 0), (18, .int 0), (19, .int 0), (21, .int 0), (22, .int 0), (23, .int 0), (24, .int 0), (25, .int 0), (27, .int 0), (28, .int 0), (29, .int 0), (35, .int 0)] fs_250 := hF1
  clear hF1
  replace hP : va_P (dC, dI) vwCl ([(h0, .inr (15, fs_250)), (q_248, .inl (k_249, 30, .inr (.inl (fun _ => 0))))] ++ pl) H := hP
  replace hD : va_D A ([(h0, .inr (15, fs_250)), (q_248, .inl (k_249, 30, .inr (.inl (fun _ => 0))))] ++ pl) := hD
  replace hP := wm_subP (X' := [(h0, .inr (15, fs_250))]) hP [0] rfl
  replace hD := wm_subD (X' := [(h0, .inr (15, fs_250))]) hD [0] (by decide) rfl
  replace hK := hK.sub (tys' := []) [] rfl
  exact kont fs_250 H locs ls hP hD hK hS hl hF
set_option maxHeartbeats 40000000 in
set_option maxRecDepth 100000 in
/-- the reference: MotionSignsModel(), rows 627 to 684 -/
theorem c_X15_init_s7 {p : Program} {l : Launch} {e : Env} {s : State} {m : MethodId} {below : List Frame} {meth : Method} {c : Code} {A : Nat → Prop} {Q0 : State → Prop} {dC : Nat → ClassId} {dI : Nat → Nat → Nat} {h0 : Nat} {fs_250 : List Value} {q_113 : Nat} {q_99 : Nat} {q_57 : Nat} {q_50 : Nat} {q_47 : Nat} {q_39 : Nat} {q_35 : Nat} (hx : p.tables.exec = Jvm.exec) (hb : c.code = cX15_init) (hml : c.maxLocals = 3) (hts : ∀ w ∈ wsM15, w.before ([.ref h0] : List Value).toArray s = true) (hown : s.vm.findClass RX15 = some m.cls) (hin : meth.name = "<init>") (hA : ∀ q : Nat, s.heap.size ≤ q → A q) (hN : w_N s) (pl : va_W) {H : Heap} {locs : List Loc} {ls : Array Slot} (hP : va_P (dC, dI) vwCl ([(h0, .inr (15, fs_250))] ++ pl) H) (hD : va_D A ([(h0, .inr (15, fs_250))] ++ pl)) (hK : va_K (dC, dI) vwCl [] s) (hS : va_S A s.heap H locs) (hl : lv_has ls 3 [(0, .ref h0)]) (hF : mF 89 [(36, .ref q_113), (33, .ref q_99), (31, .ref q_57), (30, .ref q_50), (26, .ref q_47), (20, .int (-1)), (17, .int (-1)), (14, .ref q_39), (13, .ref q_35), (0, .int 0), (18, .int 0), (19, .int 0), (21, .int 0), (22, .int 0), (23, .int 0), (24, .int 0), (25, .int 0), (27, .int 0), (28, .int 0), (29, .int 0), (35, .int 0)] fs_250) (kont : ∀ (fs_271 : List Value) (H : Heap) (locs : List Loc) (ls : Array Slot), va_P (dC, dI) vwCl ([(h0, .inr (15, fs_271))] ++ pl) H → va_D A ([(h0, .inr (15, fs_271))] ++ pl) → va_K (dC, dI) vwCl [] s → va_S A s.heap H locs → lv_has ls 3 [(0, .ref h0)] → mF 89 [(36, .ref q_113), (33, .ref q_99), (31, .ref q_57), (30, .ref q_50), (26, .ref q_47), (20, .int (-1)), (17, .int (-1)), (14, .ref q_39), (13, .ref q_35), (0, .int 0), (18, .int 0), (19, .int 0), (21, .int 0), (22, .int 0), (23, .int 0), (24, .int 0), (25, .int 0), (27, .int 0), (28, .int 0), (29, .int 0), (35, .int 0)] fs_271 → W p l e ({ frames := 3, cells := 7193, slots := 3261971, locals := 56 } : Room) s m ([.ref h0] : List Value).toArray below meth c H locs 3910 2817457 Q0 (F0 m 684 ls [])) : W p l e ({ frames := 3, cells := 7193, slots := 3261971, locals := 56 } : Room) s m ([.ref h0] : List Value).toArray below meth c H locs 3870 2216172 Q0 (F0 m 627 ls []) := by
  refine lv_aload_n hx hb dX15_init_627 rfl (lv_at hl 0 rfl) ?_
  refine lv_bipush (v := 30) hx hb dX15_init_628 (by decide) ?_
  refine va_newa (atype := .int) (ty := .int) (N' := 30) (a0 := (30, .inl (fun _ => 0))) hx hb (hts (.arrayClass .int) (List.mem_of_getElem? (i := 24) rfl)) rfl hK hP hD hS hA (fun _ => rfl) (by decide) (by decide) (Nat.le_of_ble_eq_true rfl) (Nat.le_of_ble_eq_true rfl) (Nat.le_of_ble_eq_true rfl) dX15_init_630 ?_
  clear hP hD hS hK; try clear H
  intro q_251 k_252 H hK hP hD hS
  replace hP := va_P.swap hP; replace hD := va_D.swap hD
  replace hP : va_P (dC, dI) vwCl ([(h0, .inr (15, fs_250)), (q_251, .inl (k_252, 30, .inl (fun _ => 0)))] ++ pl) H := hP
  replace hD : va_D A ([(h0, .inr (15, fs_250)), (q_251, .inl (k_252, 30, .inl (fun _ => 0)))] ++ pl) := hD
  replace hK : va_K (dC, dI) vwCl [(k_252, .int)] s := hK
  refine va_putF (D := (dC, dI)) (ci := 15) (v := .ref q_251) (ty := .array .int) (C := RX15) (T := TX15) (N := 89) hx hb hts (in_X15_init_X15) tyX15 tyX15_ok nmX15 hown hK hP hD hS 0 rfl rfl 49 (by decide) (hts (.fieldLink RX15 191 "MotionSignsModel" "partOf" "[I") (List.mem_of_getElem? (i := 53) rfl)) (fun _ h9 => h9) rfl hin rfl (tyX15_ok 49 (by decide)) rfl rfl (mF.lt hF (by decide)) dX15_init_632 ?_
  clear hP hD hS; try clear H
  intro H locs hP hD hS
  have hF1 := mF.pass hF 49 (.ref q_251) (by decide) rfl
  replace hP : va_P (dC, dI) vwCl ([(h0, .inr (15, (fs_250.set 49 (.ref q_251)))), (q_251, .inl (k_252, 30, .inl (fun _ => 0)))] ++ pl) H := hP
  replace hD : va_D A ([(h0, .inr (15, (fs_250.set 49 (.ref q_251)))), (q_251, .inl (k_252, 30, .inl (fun _ => 0)))] ++ pl) := hD
  generalize fs_250.set 49 (.ref q_251) = fs_253 at hP hD hF1
  replace hF : mF 89 [(36, .ref q_113), (33, .ref q_99), (31, .ref q_57), (30, .ref q_50), (26, .ref q_47), (20, .int (-1)), (17, .int (-1)), (14, .ref q_39), (13, .ref q_35), (0, .int 0), (18, .int 0), (19, .int 0), (21, .int 0), (22, .int 0), (23, .int 0), (24, .int 0), (25, .int 0), (27, .int 0), (28, .int 0), (29, .int 0), (35, .int 0)] fs_253 := hF1
  clear hF1
  replace hP : va_P (dC, dI) vwCl ([(h0, .inr (15, fs_253)), (q_251, .inl (k_252, 30, .inl (fun _ => 0)))] ++ pl) H := hP
  replace hD : va_D A ([(h0, .inr (15, fs_253)), (q_251, .inl (k_252, 30, .inl (fun _ => 0)))] ++ pl) := hD
  replace hP := wm_subP (X' := [(h0, .inr (15, fs_253))]) hP [0] rfl
  replace hD := wm_subD (X' := [(h0, .inr (15, fs_253))]) hD [0] (by decide) rfl
  replace hK := hK.sub (tys' := []) [] rfl
  refine lv_aload_n hx hb dX15_init_635 rfl (lv_at hl 0 rfl) ?_
  refine va_new (ci := 13) (fs := [.null, .null, .null, .null, .int 0]) (C := RX13) (T := TX13) (N := 5) hx hb hts (in_X15_init_X13) tyX13 tyX13_ok hown (hts (.classLink RX15 127 RX13) (List.mem_of_getElem? (i := 29) rfl)) (hts (.instantiable RX13 5) (List.mem_of_getElem? (i := 30) rfl)) (hts (.initialized RX13) (List.mem_of_getElem? (i := 31) rfl)) hK hP hD hS hA rfl (fun j hj => by rcases (show j = 0 ∨ j = 1 ∨ j = 2 ∨ j = 3 ∨ j = 4 by omega) with rfl | rfl | rfl | rfl | rfl <;> rfl) (Nat.le_of_ble_eq_true rfl) (Nat.le_of_ble_eq_true rfl) dX15_init_636 ?_
  clear hP hD hS; try clear H
  intro q_254 H hP hD hS
  replace hP := va_P.swap hP; replace hD := va_D.swap hD
  replace hP : va_P (dC, dI) vwCl ([(h0, .inr (15, fs_253)), (q_254, .inr (13, [.null, .null, .null, .null, .int 0]))] ++ pl) H := hP
  replace hD : va_D A ([(h0, .inr (15, fs_253)), (q_254, .inr (13, [.null, .null, .null, .null, .int 0]))] ++ pl) := hD
  refine lv_dup hx hb dX15_init_639 rfl ?_
  refine lv_bipush (v := 64) hx hb dX15_init_640 (by decide) ?_
  have hPc := hP.sub (ws' := [(q_254, .inr (13, [.null, .null, .null, .null, .int 0]))]) [1] rfl
  have hDc := hD.sub (ws' := [(q_254, .inr (13, [.null, .null, .null, .null, .int 0]))]) [1] (by decide) rfl
  have hKc := hK.sub (tys' := []) [] rfl
  have hFc := va_free (wc := [(q_254, .inr (13, [.null, .null, .null, .null, .int 0]))]) hD hS hA [1] rfl
  refine va_callv (va_runIN (As := [.int 64]) (rest := [.ref q_254, .ref h0]) ⟨hx, hb, hml, hown, hts⟩ (c_X13_init_64 l dC dI q_254 H.size) ⟨va_cnB 1 hts gM15_X13 rfl rfl rfl (hN.1 (RX15, 129, yX13_init, RX15) (List.mem_of_getElem? (i := 28) rfl)) (hts (.initialized RX13) (List.mem_of_getElem? (i := 31) rfl)) hd_X13_init ⟨Nat.le_of_ble_eq_true rfl, Nat.le_of_ble_eq_true rfl⟩, rfl, (hts (.instanceMethod yX13_init) (List.mem_of_getElem? (i := 100) rfl))⟩ ⟨fun a U g mk q => by obtain ⟨q0, q1, qP, qK, qD, qE0⟩ := q; exact ⟨q0, q1, qP, va_K.moved (u := U) (U := U.calling g mk a) (Vm.Alike.refl U.vm) qK, qD, w_N.same rfl qE0⟩, fun U hU hW => ⟨rfl, by rw [hU], by rw [hU]; exact hPc, va_K.moved hW.alike hKc, hDc.weaken (fun _ _ _ _ => trivial), w_N.warm hW hN⟩⟩ rfl rfl hl.1 rfl (lv_room (Nat.le_of_ble_eq_true rfl)) dX15_init_642 ⟨(Nat.le_of_ble_eq_true rfl), (Nat.le_of_ble_eq_true rfl)⟩) hS (fun q _ h => hFc q h) hFc (fun u t H1 locs1 ht hvm hw hB hz1 hk1 hS1 => ?_)
  obtain ⟨q_255, q_256, q_257, q_258, k_259, hP1, hK1, hD1⟩ := hB
  rw [ht] at hP1
  have hK1 := va_K.moved hvm.symm hK1
  have hJ := va_joinQ (wr := [(h0, .inr (15, fs_253))]) (w1 := [(q_254, .inr (13, [.ref q_255, .ref q_256, .ref q_257, .ref q_258, .int 0])), (q_257, .inl (k_259, 128, .inl (fun _ => 0)))]) hP hD [1] [0] rfl rfl (by decide) (by decide) hk1 hFc hP1 hD1
  clear hP hD hPc hDc hKc hFc hz1 hw; try clear hk1
  obtain ⟨hP, hD⟩ := hJ
  replace hK := (hK.sub (tys' := []) [] rfl).app (hK1.sub (tys' := [(k_259, .int)]) [0] rfl)
  clear hP1 hK1 hD1 hvm ht hS; try clear t
  try clear H
  revert hS1
  intro hS
  generalize H1 = H at hP hS ⊢; try clear H1
  replace hP : va_P (dC, dI) vwCl ([(h0, .inr (15, fs_253)), (q_254, .inr (13, [.ref q_255, .ref q_256, .ref q_257, .ref q_258, .int 0])), (q_257, .inl (k_259, 128, .inl (fun _ => 0)))] ++ pl) H := hP
  replace hD : va_D A ([(h0, .inr (15, fs_253)), (q_254, .inr (13, [.ref q_255, .ref q_256, .ref q_257, .ref q_258, .int 0])), (q_257, .inl (k_259, 128, .inl (fun _ => 0)))] ++ pl) := hD
  replace hK : va_K (dC, dI) vwCl [(k_259, .int)] s := hK
  refine va_putF (D := (dC, dI)) (ci := 15) (v := .ref q_254) (ty := .object "MotionSignsModel$Poly") (C := RX15) (T := TX15) (N := 89) hx hb hts (in_X15_init_X15) tyX15 tyX15_ok nmX15 hown hK hP hD hS 0 rfl rfl 51 (by decide) (hts (.fieldLink RX15 194 "MotionSignsModel" "nothing" "LMotionSignsModel$Poly;") (List.mem_of_getElem? (i := 54) rfl)) (fun _ h9 => h9) rfl hin rfl (tyX15_ok 51 (by decide)) rfl rfl (mF.lt hF (by decide)) dX15_init_645 ?_
  clear hP hD hS; try clear H
  intro H locs hP hD hS
  have hF1 := mF.pass hF 51 (.ref q_254) (by decide) rfl
  replace hP : va_P (dC, dI) vwCl ([(h0, .inr (15, (fs_253.set 51 (.ref q_254)))), (q_254, .inr (13, [.ref q_255, .ref q_256, .ref q_257, .ref q_258, .int 0])), (q_257, .inl (k_259, 128, .inl (fun _ => 0)))] ++ pl) H := hP
  replace hD : va_D A ([(h0, .inr (15, (fs_253.set 51 (.ref q_254)))), (q_254, .inr (13, [.ref q_255, .ref q_256, .ref q_257, .ref q_258, .int 0])), (q_257, .inl (k_259, 128, .inl (fun _ => 0)))] ++ pl) := hD
  generalize fs_253.set 51 (.ref q_254) = fs_260 at hP hD hF1
  replace hF : mF 89 [(36, .ref q_113), (33, .ref q_99), (31, .ref q_57), (30, .ref q_50), (26, .ref q_47), (20, .int (-1)), (17, .int (-1)), (14, .ref q_39), (13, .ref q_35), (0, .int 0), (18, .int 0), (19, .int 0), (21, .int 0), (22, .int 0), (23, .int 0), (24, .int 0), (25, .int 0), (27, .int 0), (28, .int 0), (29, .int 0), (35, .int 0)] fs_260 := hF1
  clear hF1
  replace hP : va_P (dC, dI) vwCl ([(h0, .inr (15, fs_260)), (q_254, .inr (13, [.ref q_255, .ref q_256, .ref q_257, .ref q_258, .int 0])), (q_257, .inl (k_259, 128, .inl (fun _ => 0)))] ++ pl) H := hP
  replace hD : va_D A ([(h0, .inr (15, fs_260)), (q_254, .inr (13, [.ref q_255, .ref q_256, .ref q_257, .ref q_258, .int 0])), (q_257, .inl (k_259, 128, .inl (fun _ => 0)))] ++ pl) := hD
  replace hP := wm_subP (X' := [(h0, .inr (15, fs_260))]) hP [0] rfl
  replace hD := wm_subD (X' := [(h0, .inr (15, fs_260))]) hD [0] (by decide) rfl
  replace hK := hK.sub (tys' := []) [] rfl
  refine lv_aload_n hx hb dX15_init_648 rfl (lv_at hl 0 rfl) ?_
  refine lv_ldc (v := 200000) hx hb hown (hts (.constant RX15 197 (200000)) (List.mem_of_getElem? (i := 55) rfl)) dX15_init_649 ?_
  refine va_newa (atype := .long) (ty := .long) (N' := 200000) (a0 := (200000, .inr (.inl (fun _ => 0)))) hx hb (hts (.arrayClass .long) (List.mem_of_getElem? (i := 51) rfl)) rfl hK hP hD hS hA (fun _ => rfl) (by decide) (by decide) (Nat.le_of_ble_eq_true rfl) (Nat.le_of_ble_eq_true rfl) (Nat.le_of_ble_eq_true rfl) dX15_init_651 ?_
  clear hP hD hS hK; try clear H
  intro q_261 k_262 H hK hP hD hS
  replace hP := va_P.swap hP; replace hD := va_D.swap hD
  replace hP : va_P (dC, dI) vwCl ([(h0, .inr (15, fs_260)), (q_261, .inl (k_262, 200000, .inr (.inl (fun _ => 0))))] ++ pl) H := hP
  replace hD : va_D A ([(h0, .inr (15, fs_260)), (q_261, .inl (k_262, 200000, .inr (.inl (fun _ => 0))))] ++ pl) := hD
  replace hK : va_K (dC, dI) vwCl [(k_262, .long)] s := hK
  refine va_putF (D := (dC, dI)) (ci := 15) (v := .ref q_261) (ty := .array .long) (C := RX15) (T := TX15) (N := 89) hx hb hts (in_X15_init_X15) tyX15 tyX15_ok nmX15 hown hK hP hD hS 0 rfl rfl 52 (by decide) (hts (.fieldLink RX15 198 "MotionSignsModel" "eqKey" "[J") (List.mem_of_getElem? (i := 56) rfl)) (fun _ h9 => h9) rfl hin rfl (tyX15_ok 52 (by decide)) rfl rfl (mF.lt hF (by decide)) dX15_init_653 ?_
  clear hP hD hS; try clear H
  intro H locs hP hD hS
  have hF1 := mF.pass hF 52 (.ref q_261) (by decide) rfl
  replace hP : va_P (dC, dI) vwCl ([(h0, .inr (15, (fs_260.set 52 (.ref q_261)))), (q_261, .inl (k_262, 200000, .inr (.inl (fun _ => 0))))] ++ pl) H := hP
  replace hD : va_D A ([(h0, .inr (15, (fs_260.set 52 (.ref q_261)))), (q_261, .inl (k_262, 200000, .inr (.inl (fun _ => 0))))] ++ pl) := hD
  generalize fs_260.set 52 (.ref q_261) = fs_263 at hP hD hF1
  replace hF : mF 89 [(36, .ref q_113), (33, .ref q_99), (31, .ref q_57), (30, .ref q_50), (26, .ref q_47), (20, .int (-1)), (17, .int (-1)), (14, .ref q_39), (13, .ref q_35), (0, .int 0), (18, .int 0), (19, .int 0), (21, .int 0), (22, .int 0), (23, .int 0), (24, .int 0), (25, .int 0), (27, .int 0), (28, .int 0), (29, .int 0), (35, .int 0)] fs_263 := hF1
  clear hF1
  replace hP : va_P (dC, dI) vwCl ([(h0, .inr (15, fs_263)), (q_261, .inl (k_262, 200000, .inr (.inl (fun _ => 0))))] ++ pl) H := hP
  replace hD : va_D A ([(h0, .inr (15, fs_263)), (q_261, .inl (k_262, 200000, .inr (.inl (fun _ => 0))))] ++ pl) := hD
  replace hP := wm_subP (X' := [(h0, .inr (15, fs_263))]) hP [0] rfl
  replace hD := wm_subD (X' := [(h0, .inr (15, fs_263))]) hD [0] (by decide) rfl
  replace hK := hK.sub (tys' := []) [] rfl
  refine lv_aload_n hx hb dX15_init_656 rfl (lv_at hl 0 rfl) ?_
  refine lv_ldc (v := 200000) hx hb hown (hts (.constant RX15 197 (200000)) (List.mem_of_getElem? (i := 55) rfl)) dX15_init_657 ?_
  refine va_newa (atype := .long) (ty := .long) (N' := 200000) (a0 := (200000, .inr (.inl (fun _ => 0)))) hx hb (hts (.arrayClass .long) (List.mem_of_getElem? (i := 51) rfl)) rfl hK hP hD hS hA (fun _ => rfl) (by decide) (by decide) (Nat.le_of_ble_eq_true rfl) (Nat.le_of_ble_eq_true rfl) (Nat.le_of_ble_eq_true rfl) dX15_init_659 ?_
  clear hP hD hS hK; try clear H
  intro q_264 k_265 H hK hP hD hS
  replace hP := va_P.swap hP; replace hD := va_D.swap hD
  replace hP : va_P (dC, dI) vwCl ([(h0, .inr (15, fs_263)), (q_264, .inl (k_265, 200000, .inr (.inl (fun _ => 0))))] ++ pl) H := hP
  replace hD : va_D A ([(h0, .inr (15, fs_263)), (q_264, .inl (k_265, 200000, .inr (.inl (fun _ => 0))))] ++ pl) := hD
  replace hK : va_K (dC, dI) vwCl [(k_265, .long)] s := hK
  refine va_putF (D := (dC, dI)) (ci := 15) (v := .ref q_264) (ty := .array .long) (C := RX15) (T := TX15) (N := 89) hx hb hts (in_X15_init_X15) tyX15 tyX15_ok nmX15 hown hK hP hD hS 0 rfl rfl 53 (by decide) (hts (.fieldLink RX15 201 "MotionSignsModel" "eqNum" "[J") (List.mem_of_getElem? (i := 57) rfl)) (fun _ h9 => h9) rfl hin rfl (tyX15_ok 53 (by decide)) rfl rfl (mF.lt hF (by decide)) dX15_init_661 ?_
  clear hP hD hS; try clear H
  intro H locs hP hD hS
  have hF1 := mF.pass hF 53 (.ref q_264) (by decide) rfl
  replace hP : va_P (dC, dI) vwCl ([(h0, .inr (15, (fs_263.set 53 (.ref q_264)))), (q_264, .inl (k_265, 200000, .inr (.inl (fun _ => 0))))] ++ pl) H := hP
  replace hD : va_D A ([(h0, .inr (15, (fs_263.set 53 (.ref q_264)))), (q_264, .inl (k_265, 200000, .inr (.inl (fun _ => 0))))] ++ pl) := hD
  generalize fs_263.set 53 (.ref q_264) = fs_266 at hP hD hF1
  replace hF : mF 89 [(36, .ref q_113), (33, .ref q_99), (31, .ref q_57), (30, .ref q_50), (26, .ref q_47), (20, .int (-1)), (17, .int (-1)), (14, .ref q_39), (13, .ref q_35), (0, .int 0), (18, .int 0), (19, .int 0), (21, .int 0), (22, .int 0), (23, .int 0), (24, .int 0), (25, .int 0), (27, .int 0), (28, .int 0), (29, .int 0), (35, .int 0)] fs_266 := hF1
  clear hF1
  replace hP : va_P (dC, dI) vwCl ([(h0, .inr (15, fs_266)), (q_264, .inl (k_265, 200000, .inr (.inl (fun _ => 0))))] ++ pl) H := hP
  replace hD : va_D A ([(h0, .inr (15, fs_266)), (q_264, .inl (k_265, 200000, .inr (.inl (fun _ => 0))))] ++ pl) := hD
  replace hP := wm_subP (X' := [(h0, .inr (15, fs_266))]) hP [0] rfl
  replace hD := wm_subD (X' := [(h0, .inr (15, fs_266))]) hD [0] (by decide) rfl
  replace hK := hK.sub (tys' := []) [] rfl
  refine lv_aload_n hx hb dX15_init_664 rfl (lv_at hl 0 rfl) ?_
  refine lv_ldc (v := 200000) hx hb hown (hts (.constant RX15 197 (200000)) (List.mem_of_getElem? (i := 55) rfl)) dX15_init_665 ?_
  refine va_newa (atype := .int) (ty := .int) (N' := 200000) (a0 := (200000, .inl (fun _ => 0))) hx hb (hts (.arrayClass .int) (List.mem_of_getElem? (i := 24) rfl)) rfl hK hP hD hS hA (fun _ => rfl) (by decide) (by decide) (Nat.le_of_ble_eq_true rfl) (Nat.le_of_ble_eq_true rfl) (Nat.le_of_ble_eq_true rfl) dX15_init_667 ?_
  clear hP hD hS hK; try clear H
  intro q_267 k_268 H hK hP hD hS
  replace hP := va_P.swap hP; replace hD := va_D.swap hD
  replace hP : va_P (dC, dI) vwCl ([(h0, .inr (15, fs_266)), (q_267, .inl (k_268, 200000, .inl (fun _ => 0)))] ++ pl) H := hP
  replace hD : va_D A ([(h0, .inr (15, fs_266)), (q_267, .inl (k_268, 200000, .inl (fun _ => 0)))] ++ pl) := hD
  replace hK : va_K (dC, dI) vwCl [(k_268, .int)] s := hK
  refine va_putF (D := (dC, dI)) (ci := 15) (v := .ref q_267) (ty := .array .int) (C := RX15) (T := TX15) (N := 89) hx hb hts (in_X15_init_X15) tyX15 tyX15_ok nmX15 hown hK hP hD hS 0 rfl rfl 54 (by decide) (hts (.fieldLink RX15 204 "MotionSignsModel" "eqOf" "[I") (List.mem_of_getElem? (i := 58) rfl)) (fun _ h9 => h9) rfl hin rfl (tyX15_ok 54 (by decide)) rfl rfl (mF.lt hF (by decide)) dX15_init_669 ?_
  clear hP hD hS; try clear H
  intro H locs hP hD hS
  have hF1 := mF.pass hF 54 (.ref q_267) (by decide) rfl
  replace hP : va_P (dC, dI) vwCl ([(h0, .inr (15, (fs_266.set 54 (.ref q_267)))), (q_267, .inl (k_268, 200000, .inl (fun _ => 0)))] ++ pl) H := hP
  replace hD : va_D A ([(h0, .inr (15, (fs_266.set 54 (.ref q_267)))), (q_267, .inl (k_268, 200000, .inl (fun _ => 0)))] ++ pl) := hD
  generalize fs_266.set 54 (.ref q_267) = fs_269 at hP hD hF1
  replace hF : mF 89 [(36, .ref q_113), (33, .ref q_99), (31, .ref q_57), (30, .ref q_50), (26, .ref q_47), (20, .int (-1)), (17, .int (-1)), (14, .ref q_39), (13, .ref q_35), (0, .int 0), (18, .int 0), (19, .int 0), (21, .int 0), (22, .int 0), (23, .int 0), (24, .int 0), (25, .int 0), (27, .int 0), (28, .int 0), (29, .int 0), (35, .int 0)] fs_269 := hF1
  clear hF1
  replace hP : va_P (dC, dI) vwCl ([(h0, .inr (15, fs_269)), (q_267, .inl (k_268, 200000, .inl (fun _ => 0)))] ++ pl) H := hP
  replace hD : va_D A ([(h0, .inr (15, fs_269)), (q_267, .inl (k_268, 200000, .inl (fun _ => 0)))] ++ pl) := hD
  replace hP := wm_subP (X' := [(h0, .inr (15, fs_269))]) hP [0] rfl
  replace hD := wm_subD (X' := [(h0, .inr (15, fs_269))]) hD [0] (by decide) rfl
  replace hK := hK.sub (tys' := []) [] rfl
  refine lv_aload_n hx hb dX15_init_672 rfl (lv_at hl 0 rfl) ?_
  refine lv_bipush (v := 30) hx hb dX15_init_673 (by decide) ?_
  refine lv_bipush (v := 30) hx hb dX15_init_675 (by decide) ?_
  refine wm_mna2 (nm1 := "[J") (t0 := .array (.long)) (type := .long) (N' := 30) (K' := 30) hx hb hown (hts (.classLink RX15 207 "[[J") (List.mem_of_getElem? (i := 59) rfl)) (hN.2.2.2.2.1) (hN.2.2.2.1) rfl rfl hP hD hS (by decide) (by decide) (by decide) (by decide) (Nat.le_of_ble_eq_true rfl) (Nat.le_of_ble_eq_true rfl) (Nat.le_of_ble_eq_true rfl) rfl rfl (Nat.le_of_ble_eq_true rfl) (Nat.le_of_ble_eq_true rfl) dX15_init_677 ?_
  clear hP hD hS; try clear H
  intro q_270 H hP hD hS
  replace hP : va_P (dC, dI) vwCl ([(h0, .inr (15, fs_269))] ++ pl) H := hP
  replace hD : va_D A ([(h0, .inr (15, fs_269))] ++ pl) := hD
  refine va_putF (D := (dC, dI)) (ci := 15) (v := .ref q_270) (ty := .array (.array .long)) (C := RX15) (T := TX15) (N := 89) hx hb hts (in_X15_init_X15) tyX15 tyX15_ok nmX15 hown hK hP hD hS 0 rfl rfl 56 (by decide) (hts (.fieldLink RX15 209 "MotionSignsModel" "leftRow" "[[J") (List.mem_of_getElem? (i := 60) rfl)) (fun _ h9 => h9) rfl hin rfl (tyX15_ok 56 (by decide)) rfl rfl (mF.lt hF (by decide)) dX15_init_681 ?_
  clear hP hD hS; try clear H
  intro H locs hP hD hS
  have hF1 := mF.pass hF 56 (.ref q_270) (by decide) rfl
  replace hP : va_P (dC, dI) vwCl ([(h0, .inr (15, (fs_269.set 56 (.ref q_270))))] ++ pl) H := hP
  replace hD : va_D A ([(h0, .inr (15, (fs_269.set 56 (.ref q_270))))] ++ pl) := hD
  generalize fs_269.set 56 (.ref q_270) = fs_271 at hP hD hF1
  replace hF : mF 89 [(36, .ref q_113), (33, .ref q_99), (31, .ref q_57), (30, .ref q_50), (26, .ref q_47), (20, .int (-1)), (17, .int (-1)), (14, .ref q_39), (13, .ref q_35), (0, .int 0), (18, .int 0), (19, .int 0), (21, .int 0), (22, .int 0), (23, .int 0), (24, .int 0), (25, .int 0), (27, .int 0), (28, .int 0), (29, .int 0), (35, .int 0)] fs_271 := hF1
  clear hF1
  replace hP : va_P (dC, dI) vwCl ([(h0, .inr (15, fs_271))] ++ pl) H := hP
  replace hD : va_D A ([(h0, .inr (15, fs_271))] ++ pl) := hD
  exact kont fs_271 H locs ls hP hD hK hS hl hF
