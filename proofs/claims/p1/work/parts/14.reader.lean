theorem in_X2_init_X2 : ∀ w ∈ wsX20, w ∈ wsX2_init := by decide +kernel
theorem in_X2_init_X6 : ∀ w ∈ wsX60, w ∈ wsX2_init := by decide +kernel
theorem in_X7_init_X6 : ∀ w ∈ wsX60, w ∈ wsX7_init := by decide +kernel
theorem in_X7_init_X7 : ∀ w ∈ wsX70, w ∈ wsX7_init := by decide +kernel
theorem hd_X6_init : yX6_init.cls ≠ "java/lang/invoke/MethodHandle" ∧ yX6_init.cls ≠ "java/lang/invoke/VarHandle" ∧ (parseMethodDescriptor yX6_init.desc).map (fun d => d.parameters.length) = some 0 := by decide +kernel
set_option maxHeartbeats 4000000 in
set_option maxRecDepth 100000 in
/-- Reader(text, scratch) -/
theorem c_X7_init (l : Launch) (dC : Nat → ClassId) (dI : Nat → Nat → Nat) (h0 : Nat) (atx : Nat) (asc : Nat) (sz : Nat) : Met l yX7_init wsX7_init ({ frames := 2, cells := 88, slots := 1043, locals := 32 }) (va_Pc [.ref h0, .ref atx, .ref asc] (fun U => U.heap.size = sz ∧ va_P (dC, dI) vwCl [(h0, .inr (7, [.null, .null, .null, .null, .int 0, .int 0, .int 0, .int 0, .int 0, .int 0]))] U.heap ∧ va_K (dC, dI) vwCl [] U ∧ va_D (fun _ => True) [(h0, .inr (7, [.null, .null, .null, .null, .int 0, .int 0, .int 0, .int 0, .int 0, .int 0]))] ∧ w_N U)) (va_Qv (fun _ : Unit => True) (fun _ t => ∃ (qp : Nat) (qm : Nat) (q0 : Nat) (q1 : Nat) (q2 : Nat) (q3 : Nat) (q4 : Nat) (kp : Nat) (k1 : Nat) (k2 : Nat) (k3 : Nat) (k4 : Nat) (f : Nat → Option Nat), va_P (dC, dI) vwCl [(h0, .inr (7, [.ref atx, .ref asc, .ref qp, .ref qm, .int 0, .int 0, .int 0, .int 0, .int 0, .int (-1)])), (qp, .inl (kp, 28, .inr (.inr (.inr (.inr f))))), (q0, .inr (6, [.ref q1, .ref q2, .int 0])), (q1, .inl (k1, 16, .inr (.inl (fun _ => 0)))), (q2, .inl (k2, 16, .inr (.inl (fun _ => 0)))), (qm, .inr (6, [.ref q3, .ref q4, .int 0])), (q3, .inl (k3, 16, .inr (.inl (fun _ => 0)))), (q4, .inl (k4, 16, .inr (.inl (fun _ => 0))))] t.heap ∧ va_K (dC, dI) vwCl [(kp, .object RX6), (k1, .long), (k2, .long), (k3, .long), (k4, .long)] t ∧ va_D (va_A [(h0, .inr (7, [.null, .null, .null, .null, .int 0, .int 0, .int 0, .int 0, .int 0, .int 0]))] sz) [(h0, .inr (7, [.ref atx, .ref asc, .ref qp, .ref qm, .int 0, .int 0, .int 0, .int 0, .int 0, .int (-1)])), (qp, .inl (kp, 28, .inr (.inr (.inr (.inr f))))), (q0, .inr (6, [.ref q1, .ref q2, .int 0])), (q1, .inl (k1, 16, .inr (.inl (fun _ => 0)))), (q2, .inl (k2, 16, .inr (.inl (fun _ => 0)))), (qm, .inr (6, [.ref q3, .ref q4, .int 0])), (q3, .inl (k3, 16, .inr (.inl (fun _ => 0)))), (q4, .inl (k4, 16, .inr (.inl (fun _ => 0))))] ∧ f 0 = some q0) (va_A [(h0, .inr (7, [.null, .null, .null, .null, .int 0, .int 0, .int 0, .int 0, .int 0, .int 0]))] sz)) 88 1043 (va_A [(h0, .inr (7, [.null, .null, .null, .null, .int 0, .int 0, .int 0, .int 0, .int 0, .int 0]))] sz) := by
  refine Met.ofW (cc := cX7_init) (maxL := 4) (ret := none) (by decide) rfl ?_
  intro p e s m args below meth c s₁ B hml hv
  obtain ⟨rfl, hsz, hP, hK, hD0, hN⟩ := hv
  have hx := B.exec
  have hb := B.bytes
  have hr := B.returns
  have hts := atoms_spec (ws := wsX7_init) B.pre
  have hown : s.vm.findClass RX7 = some m.cls := findClass_of_methodNamed B.named
  have hlocks := B.notSynchronized
  have hin : meth.name = "<init>" := (name_of_methodNamed B.named B.method).1
  subst hsz
  have hD := hD0.self (sz := s.heap.size)
  generalize hAe : va_A [(h0, .inr (7, [.null, .null, .null, .null, .int 0, .int 0, .int 0, .int 0, .int 0, .int 0]))] s.heap.size = A at hD ⊢
  have hA : ∀ q : Nat, s.heap.size ≤ q → A q := fun q h => by rw [← hAe]; exact Or.inr h
  have hS : va_S A s.heap s.heap [] := va_S.rf
  have hP : va_P (dC, dI) vwCl [(h0, .inr (7, [.null, .null, .null, .null, .int 0, .int 0, .int 0, .int 0, .int 0, .int 0]))] s.heap := hP
  have hl := lv_entry ([.ref h0, .ref atx, .ref asc]) (n := 4) (Nat.le_of_ble_eq_true rfl)
  rw [lg_entry_eq]
  generalize (lg_sl ([.ref h0, .ref atx, .ref asc]) ++ List.replicate (4 - (lg_sl ([.ref h0, .ref atx, .ref asc])).length) Slot.unset).toArray = ls at hl ⊢
  have hl : lv_has ls 4 [(0, .ref h0), (1, .ref atx), (2, .ref asc)] := hl
  refine gen_W (fun Q0 hQ0 => ?_)
  refine lv_aload_n hx hb dX7_init_0 rfl (lv_at hl 0 rfl) ?_
  refine W.objInit hx hb hown (hts (.methodLink RX7 3 objectInit) (List.mem_of_getElem? (i := 1) rfl)) (hts (.instanceMethod objectInit) (List.mem_of_getElem? (i := 2) rfl)) (hts _ (List.mem_of_getElem? (i := 3) rfl)) rfl (by rw [hml]; exact hl.1) rfl dX7_init_1 (Nat.le_of_ble_eq_true rfl) (Nat.le_of_ble_eq_true rfl) ?_
  refine W.eq (g2 := F0 m 4 ls []) rfl ?_
  refine lv_aload_n hx hb dX7_init_4 rfl (lv_at hl 0 rfl) ?_
  refine lv_bipush (v := 28) hx hb dX7_init_5 (by decide) ?_
  refine va_newq (C := RX6) (N' := 28) hx hb hown (hts (.classLink RX7 11 RX6) (List.mem_of_getElem? (i := 4) rfl)) (hN.2.2.1 RX6 (List.mem_of_getElem? (i := 3) rfl)) hK hP hD hS hA (by decide) (by decide) (Nat.le_of_ble_eq_true rfl) (Nat.le_of_ble_eq_true rfl) (Nat.le_of_ble_eq_true rfl) dX7_init_7 ?_
  clear hP hD hS hK; try clear H
  intro q_1 k_2 H hK hP hD hS
  replace hP : va_P (dC, dI) vwCl [(h0, .inr (7, [.null, .null, .null, .null, .int 0, .int 0, .int 0, .int 0, .int 0, .int 0])), (q_1, .inl (k_2, 28, .inr (.inr (.inr (.inr (fun _ => none))))))] H := hP
  replace hD : va_D A [(h0, .inr (7, [.null, .null, .null, .null, .int 0, .int 0, .int 0, .int 0, .int 0, .int 0])), (q_1, .inl (k_2, 28, .inr (.inr (.inr (.inr (fun _ => none))))))] := hD
  replace hK : va_K (dC, dI) vwCl [(k_2, .object RX6)] s := hK
  refine va_putF (D := (dC, dI)) (ci := 7) (v := .ref q_1) (ty := .array (.object "MotionSigns$Poly")) (C := RX7) (T := TX7) (N := 10) hx hb hts (in_X7_init_X7) tyX7 tyX7_ok nmX7 hown hK hP hD hS 0 rfl rfl 2 (by decide) (hts (.fieldLink RX7 13 "MotionSigns$Reader" "pool" "[LMotionSigns$Poly;") (List.mem_of_getElem? (i := 5) rfl)) (fun _ h9 => h9) rfl hin rfl (tyX7_ok 2 (by decide)) rfl rfl (Nat.le_of_ble_eq_true rfl) dX7_init_10 ?_
  clear hP hD hS; try clear H
  intro H locs hP hD hS
  replace hP : va_P (dC, dI) vwCl [(h0, .inr (7, [.null, .null, .ref q_1, .null, .int 0, .int 0, .int 0, .int 0, .int 0, .int 0])), (q_1, .inl (k_2, 28, .inr (.inr (.inr (.inr (fun _ => none))))))] H := hP
  replace hD : va_D A [(h0, .inr (7, [.null, .null, .ref q_1, .null, .int 0, .int 0, .int 0, .int 0, .int 0, .int 0])), (q_1, .inl (k_2, 28, .inr (.inr (.inr (.inr (fun _ => none))))))] := hD
  refine lv_aload_n hx hb dX7_init_13 rfl (lv_at hl 0 rfl) ?_
  refine va_new (ci := 6) (fs := [.null, .null, .int 0]) (C := RX6) (T := TX6) (N := 3) hx hb hts (in_X7_init_X6) tyX6 tyX6_ok hown (hts (.classLink RX7 11 RX6) (List.mem_of_getElem? (i := 4) rfl)) (hts (.instantiable RX6 3) (List.mem_of_getElem? (i := 6) rfl)) (hts (.initialized RX6) (List.mem_of_getElem? (i := 7) rfl)) hK hP hD hS hA rfl (fun j hj => by rcases (show j = 0 ∨ j = 1 ∨ j = 2 by omega) with rfl | rfl | rfl <;> rfl) (Nat.le_of_ble_eq_true rfl) (Nat.le_of_ble_eq_true rfl) dX7_init_14 ?_
  clear hP hD hS; try clear H
  intro q_3 H hP hD hS
  replace hP : va_P (dC, dI) vwCl [(h0, .inr (7, [.null, .null, .ref q_1, .null, .int 0, .int 0, .int 0, .int 0, .int 0, .int 0])), (q_1, .inl (k_2, 28, .inr (.inr (.inr (.inr (fun _ => none)))))), (q_3, .inr (6, [.null, .null, .int 0]))] H := hP
  replace hD : va_D A [(h0, .inr (7, [.null, .null, .ref q_1, .null, .int 0, .int 0, .int 0, .int 0, .int 0, .int 0])), (q_1, .inl (k_2, 28, .inr (.inr (.inr (.inr (fun _ => none)))))), (q_3, .inr (6, [.null, .null, .int 0]))] := hD
  refine lv_dup hx hb dX7_init_17 rfl ?_
  have hPc := hP.sub (ws' := [(q_3, .inr (6, [.null, .null, .int 0]))]) [2] rfl
  have hDc := hD.sub (ws' := [(q_3, .inr (6, [.null, .null, .int 0]))]) [2] (by decide) rfl
  have hKc := hK.sub (tys' := []) [] rfl
  have hFc := va_free (wc := [(q_3, .inr (6, [.null, .null, .int 0]))]) hD hS hA [2] rfl
  refine va_callv (va_runIN (As := []) (rest := [.ref q_3, .ref h0]) ⟨hx, hb, hml, hown, hts⟩ (c_X6_init l dC dI q_3 H.size) ⟨va_cnB 0 hts gX7_init_X6_init_n17 rfl rfl rfl (hN.1 (RX7, 17, yX6_init, RX11) (List.mem_of_getElem? (i := 2) rfl)) (hts (.initialized RX6) (List.mem_of_getElem? (i := 7) rfl)) hd_X6_init ⟨Nat.le_of_ble_eq_true rfl, Nat.le_of_ble_eq_true rfl⟩, rfl, (hts (.instanceMethod yX6_init) (List.mem_of_getElem? (i := 12) rfl))⟩ ⟨fun a U g mk q => by obtain ⟨q0, q1, qP, qK, qD, qE0⟩ := q; exact ⟨q0, q1, qP, va_K.moved (u := U) (U := U.calling g mk a) (Vm.Alike.refl U.vm) qK, qD, w_N.same rfl qE0⟩, fun U hU hW => ⟨rfl, by rw [hU], by rw [hU]; exact hPc, va_K.moved hW.alike hKc, hDc.weaken (fun _ _ _ _ => trivial), w_N.warm hW hN⟩⟩ rfl rfl hl.1 rfl (lv_room (Nat.le_of_ble_eq_true rfl)) dX7_init_18 ⟨(Nat.le_of_ble_eq_true rfl), (Nat.le_of_ble_eq_true rfl)⟩) hS (fun q _ h => hFc q h) hFc (fun u t H1 locs1 ht hvm hw hB hz1 hk1 hS1 => ?_)
  obtain ⟨q_4, q_5, k_6, k_7, hP1, hK1, hD1⟩ := hB
  rw [ht] at hP1
  have hK1 := va_K.moved hvm.symm hK1
  have hJ := va_join (wr := [(h0, .inr (7, [.null, .null, .ref q_1, .null, .int 0, .int 0, .int 0, .int 0, .int 0, .int 0])), (q_1, .inl (k_2, 28, .inr (.inr (.inr (.inr (fun _ => none))))))]) (w1 := [(q_3, .inr (6, [.ref q_4, .ref q_5, .int 0])), (q_4, .inl (k_6, 16, .inr (.inl (fun _ => 0)))), (q_5, .inl (k_7, 16, .inr (.inl (fun _ => 0))))]) hP hD [2] [0, 1] rfl rfl (by decide) (by decide) hk1 hFc hP1 hD1
  clear hP hD hPc hDc hKc hFc hz1 hw; try clear hk1
  obtain ⟨hP, hD⟩ := hJ
  replace hK := (hK.sub (tys' := [(k_2, .object RX6)]) [0] rfl).app (hK1.sub (tys' := [(k_6, .long), (k_7, .long)]) [0, 1] rfl)
  clear hP1 hK1 hD1 hvm ht hS; try clear t
  try clear H
  revert hS1
  intro hS
  generalize H1 = H at hP hS ⊢; try clear H1
  replace hP : va_P (dC, dI) vwCl [(h0, .inr (7, [.null, .null, .ref q_1, .null, .int 0, .int 0, .int 0, .int 0, .int 0, .int 0])), (q_1, .inl (k_2, 28, .inr (.inr (.inr (.inr (fun _ => none)))))), (q_3, .inr (6, [.ref q_4, .ref q_5, .int 0])), (q_4, .inl (k_6, 16, .inr (.inl (fun _ => 0)))), (q_5, .inl (k_7, 16, .inr (.inl (fun _ => 0))))] H := hP
  replace hD : va_D A [(h0, .inr (7, [.null, .null, .ref q_1, .null, .int 0, .int 0, .int 0, .int 0, .int 0, .int 0])), (q_1, .inl (k_2, 28, .inr (.inr (.inr (.inr (fun _ => none)))))), (q_3, .inr (6, [.ref q_4, .ref q_5, .int 0])), (q_4, .inl (k_6, 16, .inr (.inl (fun _ => 0)))), (q_5, .inl (k_7, 16, .inr (.inl (fun _ => 0))))] := hD
  replace hK : va_K (dC, dI) vwCl [(k_2, .object RX6), (k_6, .long), (k_7, .long)] s := hK
  refine va_putF (D := (dC, dI)) (ci := 7) (v := .ref q_3) (ty := .object "MotionSigns$Poly") (C := RX7) (T := TX7) (N := 10) hx hb hts (in_X7_init_X7) tyX7 tyX7_ok nmX7 hown hK hP hD hS 0 rfl rfl 3 (by decide) (hts (.fieldLink RX7 18 "MotionSigns$Reader" "made" "LMotionSigns$Poly;") (List.mem_of_getElem? (i := 8) rfl)) (fun _ h9 => h9) rfl hin rfl (tyX7_ok 3 (by decide)) rfl rfl (Nat.le_of_ble_eq_true rfl) dX7_init_21 ?_
  clear hP hD hS; try clear H
  intro H locs hP hD hS
  replace hP : va_P (dC, dI) vwCl [(h0, .inr (7, [.null, .null, .ref q_1, .ref q_3, .int 0, .int 0, .int 0, .int 0, .int 0, .int 0])), (q_1, .inl (k_2, 28, .inr (.inr (.inr (.inr (fun _ => none)))))), (q_3, .inr (6, [.ref q_4, .ref q_5, .int 0])), (q_4, .inl (k_6, 16, .inr (.inl (fun _ => 0)))), (q_5, .inl (k_7, 16, .inr (.inl (fun _ => 0))))] H := hP
  replace hD : va_D A [(h0, .inr (7, [.null, .null, .ref q_1, .ref q_3, .int 0, .int 0, .int 0, .int 0, .int 0, .int 0])), (q_1, .inl (k_2, 28, .inr (.inr (.inr (.inr (fun _ => none)))))), (q_3, .inr (6, [.ref q_4, .ref q_5, .int 0])), (q_4, .inl (k_6, 16, .inr (.inl (fun _ => 0)))), (q_5, .inl (k_7, 16, .inr (.inl (fun _ => 0))))] := hD
  refine lv_aload_n hx hb dX7_init_24 rfl (lv_at hl 0 rfl) ?_
  refine lv_iconst (v := -1) hx hb dX7_init_25 (by decide) ?_
  refine va_put (D := (dC, dI)) (ci := 7) (v := .int (-1)) (ty := .int) (C := RX7) (T := TX7) (N := 10) hx hb hts (in_X7_init_X7) tyX7 tyX7_ok nmX7 hown hK hP hD hS 0 rfl rfl 9 (by decide) (hts (.fieldLink RX7 22 "MotionSigns$Reader" "place" "I") (List.mem_of_getElem? (i := 9) rfl)) (fun _ h9 => h9) rfl (tyX7_ok 9 (by decide)) rfl rfl (Nat.le_of_ble_eq_true rfl) dX7_init_26 ?_
  clear hP hD hS; try clear H
  intro H locs hP hD hS
  replace hP : va_P (dC, dI) vwCl [(h0, .inr (7, [.null, .null, .ref q_1, .ref q_3, .int 0, .int 0, .int 0, .int 0, .int 0, .int (-1)])), (q_1, .inl (k_2, 28, .inr (.inr (.inr (.inr (fun _ => none)))))), (q_3, .inr (6, [.ref q_4, .ref q_5, .int 0])), (q_4, .inl (k_6, 16, .inr (.inl (fun _ => 0)))), (q_5, .inl (k_7, 16, .inr (.inl (fun _ => 0))))] H := hP
  replace hD : va_D A [(h0, .inr (7, [.null, .null, .ref q_1, .ref q_3, .int 0, .int 0, .int 0, .int 0, .int 0, .int (-1)])), (q_1, .inl (k_2, 28, .inr (.inr (.inr (.inr (fun _ => none)))))), (q_3, .inr (6, [.ref q_4, .ref q_5, .int 0])), (q_4, .inl (k_6, 16, .inr (.inl (fun _ => 0)))), (q_5, .inl (k_7, 16, .inr (.inl (fun _ => 0))))] := hD
  refine lv_aload_n hx hb dX7_init_29 rfl (lv_at hl 0 rfl) ?_
  refine lv_aload_n hx hb dX7_init_30 rfl (lv_at hl 1 rfl) ?_
  refine va_putF (D := (dC, dI)) (ci := 7) (v := .ref atx) (ty := .array .byte) (C := RX7) (T := TX7) (N := 10) hx hb hts (in_X7_init_X7) tyX7 tyX7_ok nmX7 hown hK hP hD hS 0 rfl rfl 0 (by decide) (hts (.fieldLink RX7 26 "MotionSigns$Reader" "text" "[B") (List.mem_of_getElem? (i := 10) rfl)) (fun _ h9 => h9) rfl hin rfl (tyX7_ok 0 (by decide)) rfl rfl (Nat.le_of_ble_eq_true rfl) dX7_init_31 ?_
  clear hP hD hS; try clear H
  intro H locs hP hD hS
  replace hP : va_P (dC, dI) vwCl [(h0, .inr (7, [.ref atx, .null, .ref q_1, .ref q_3, .int 0, .int 0, .int 0, .int 0, .int 0, .int (-1)])), (q_1, .inl (k_2, 28, .inr (.inr (.inr (.inr (fun _ => none)))))), (q_3, .inr (6, [.ref q_4, .ref q_5, .int 0])), (q_4, .inl (k_6, 16, .inr (.inl (fun _ => 0)))), (q_5, .inl (k_7, 16, .inr (.inl (fun _ => 0))))] H := hP
  replace hD : va_D A [(h0, .inr (7, [.ref atx, .null, .ref q_1, .ref q_3, .int 0, .int 0, .int 0, .int 0, .int 0, .int (-1)])), (q_1, .inl (k_2, 28, .inr (.inr (.inr (.inr (fun _ => none)))))), (q_3, .inr (6, [.ref q_4, .ref q_5, .int 0])), (q_4, .inl (k_6, 16, .inr (.inl (fun _ => 0)))), (q_5, .inl (k_7, 16, .inr (.inl (fun _ => 0))))] := hD
  refine lv_aload_n hx hb dX7_init_34 rfl (lv_at hl 0 rfl) ?_
  refine lv_aload_n hx hb dX7_init_35 rfl (lv_at hl 2 rfl) ?_
  refine va_putF (D := (dC, dI)) (ci := 7) (v := .ref asc) (ty := .object "MotionSigns$Tally") (C := RX7) (T := TX7) (N := 10) hx hb hts (in_X7_init_X7) tyX7 tyX7_ok nmX7 hown hK hP hD hS 0 rfl rfl 1 (by decide) (hts (.fieldLink RX7 30 "MotionSigns$Reader" "scratch" "LMotionSigns$Tally;") (List.mem_of_getElem? (i := 11) rfl)) (fun _ h9 => h9) rfl hin rfl (tyX7_ok 1 (by decide)) rfl rfl (Nat.le_of_ble_eq_true rfl) dX7_init_36 ?_
  clear hP hD hS; try clear H
  intro H locs hP hD hS
  replace hP : va_P (dC, dI) vwCl [(h0, .inr (7, [.ref atx, .ref asc, .ref q_1, .ref q_3, .int 0, .int 0, .int 0, .int 0, .int 0, .int (-1)])), (q_1, .inl (k_2, 28, .inr (.inr (.inr (.inr (fun _ => none)))))), (q_3, .inr (6, [.ref q_4, .ref q_5, .int 0])), (q_4, .inl (k_6, 16, .inr (.inl (fun _ => 0)))), (q_5, .inl (k_7, 16, .inr (.inl (fun _ => 0))))] H := hP
  replace hD : va_D A [(h0, .inr (7, [.ref atx, .ref asc, .ref q_1, .ref q_3, .int 0, .int 0, .int 0, .int 0, .int 0, .int (-1)])), (q_1, .inl (k_2, 28, .inr (.inr (.inr (.inr (fun _ => none)))))), (q_3, .inr (6, [.ref q_4, .ref q_5, .int 0])), (q_4, .inl (k_6, 16, .inr (.inl (fun _ => 0)))), (q_5, .inl (k_7, 16, .inr (.inl (fun _ => 0))))] := hD
  refine lv_iconst (v := 0) hx hb dX7_init_39 (by decide) ?_
  refine lv_istore_n (lv' := [(3, .int 0), (0, .ref h0), (1, .ref atx), (2, .ref asc)]) hx hb dX7_init_40 rfl hl (by decide) rfl (fun ls hl => ?_)
  refine lv_iload_n hx hb dX7_init_41 rfl (lv_at hl 0 rfl) ?_
  refine lv_aload_n hx hb dX7_init_42 rfl (lv_at hl 1 rfl) ?_
  refine va_get (D := (dC, dI)) (ci := 7) (v := .ref q_1) (C := RX7) (T := TX7) (N := 10) hx hb hts (in_X7_init_X7) hown hK hP 0 rfl rfl 2 (by decide) (hts (.fieldLink RX7 13 "MotionSigns$Reader" "pool" "[LMotionSigns$Poly;") (List.mem_of_getElem? (i := 5) rfl)) (fun _ h9 => h9) rfl dX7_init_43 ?_
  refine va_alen (v := 28) hx hb hK hP 1 0 rfl rfl rfl dX7_init_46 ?_
  refine lv_icmp_ge (tgt := 69) hx hb dX7_init_47 (by decide) (fun hc => absurd hc (by decide)) (fun _ => ?_)
  refine lv_aload_n hx hb dX7_init_50 rfl (lv_at hl 1 rfl) ?_
  refine va_get (D := (dC, dI)) (ci := 7) (v := .ref q_1) (C := RX7) (T := TX7) (N := 10) hx hb hts (in_X7_init_X7) hown hK hP 0 rfl rfl 2 (by decide) (hts (.fieldLink RX7 13 "MotionSigns$Reader" "pool" "[LMotionSigns$Poly;") (List.mem_of_getElem? (i := 5) rfl)) (fun _ h9 => h9) rfl dX7_init_51 ?_
  refine lv_iload_n hx hb dX7_init_54 rfl (lv_at hl 0 rfl) ?_
  refine va_new (ci := 6) (fs := [.null, .null, .int 0]) (C := RX6) (T := TX6) (N := 3) hx hb hts (in_X7_init_X6) tyX6 tyX6_ok hown (hts (.classLink RX7 11 RX6) (List.mem_of_getElem? (i := 4) rfl)) (hts (.instantiable RX6 3) (List.mem_of_getElem? (i := 6) rfl)) (hts (.initialized RX6) (List.mem_of_getElem? (i := 7) rfl)) hK hP hD hS hA rfl (fun j hj => by rcases (show j = 0 ∨ j = 1 ∨ j = 2 by omega) with rfl | rfl | rfl <;> rfl) (Nat.le_of_ble_eq_true rfl) (Nat.le_of_ble_eq_true rfl) dX7_init_55 ?_
  clear hP hD hS; try clear H
  intro q_8 H hP hD hS
  replace hP : va_P (dC, dI) vwCl [(h0, .inr (7, [.ref atx, .ref asc, .ref q_1, .ref q_3, .int 0, .int 0, .int 0, .int 0, .int 0, .int (-1)])), (q_1, .inl (k_2, 28, .inr (.inr (.inr (.inr (fun _ => none)))))), (q_3, .inr (6, [.ref q_4, .ref q_5, .int 0])), (q_4, .inl (k_6, 16, .inr (.inl (fun _ => 0)))), (q_5, .inl (k_7, 16, .inr (.inl (fun _ => 0)))), (q_8, .inr (6, [.null, .null, .int 0]))] H := hP
  replace hD : va_D A [(h0, .inr (7, [.ref atx, .ref asc, .ref q_1, .ref q_3, .int 0, .int 0, .int 0, .int 0, .int 0, .int (-1)])), (q_1, .inl (k_2, 28, .inr (.inr (.inr (.inr (fun _ => none)))))), (q_3, .inr (6, [.ref q_4, .ref q_5, .int 0])), (q_4, .inl (k_6, 16, .inr (.inl (fun _ => 0)))), (q_5, .inl (k_7, 16, .inr (.inl (fun _ => 0)))), (q_8, .inr (6, [.null, .null, .int 0]))] := hD
  refine lv_dup hx hb dX7_init_58 rfl ?_
  have hPc := hP.sub (ws' := [(q_8, .inr (6, [.null, .null, .int 0]))]) [5] rfl
  have hDc := hD.sub (ws' := [(q_8, .inr (6, [.null, .null, .int 0]))]) [5] (by decide) rfl
  have hKc := hK.sub (tys' := []) [] rfl
  have hFc := va_free (wc := [(q_8, .inr (6, [.null, .null, .int 0]))]) hD hS hA [5] rfl
  refine va_callv (va_runIN (As := []) (rest := [.ref q_8, .int 0, .ref q_1]) ⟨hx, hb, hml, hown, hts⟩ (c_X6_init l dC dI q_8 H.size) ⟨va_cnB 0 hts gX7_init_X6_init_n17 rfl rfl rfl (hN.1 (RX7, 17, yX6_init, RX11) (List.mem_of_getElem? (i := 2) rfl)) (hts (.initialized RX6) (List.mem_of_getElem? (i := 7) rfl)) hd_X6_init ⟨Nat.le_of_ble_eq_true rfl, Nat.le_of_ble_eq_true rfl⟩, rfl, (hts (.instanceMethod yX6_init) (List.mem_of_getElem? (i := 12) rfl))⟩ ⟨fun a U g mk q => by obtain ⟨q0, q1, qP, qK, qD, qE0⟩ := q; exact ⟨q0, q1, qP, va_K.moved (u := U) (U := U.calling g mk a) (Vm.Alike.refl U.vm) qK, qD, w_N.same rfl qE0⟩, fun U hU hW => ⟨rfl, by rw [hU], by rw [hU]; exact hPc, va_K.moved hW.alike hKc, hDc.weaken (fun _ _ _ _ => trivial), w_N.warm hW hN⟩⟩ rfl rfl hl.1 rfl (lv_room (Nat.le_of_ble_eq_true rfl)) dX7_init_59 ⟨(Nat.le_of_ble_eq_true rfl), (Nat.le_of_ble_eq_true rfl)⟩) hS (fun q _ h => hFc q h) hFc (fun u t H1 locs1 ht hvm hw hB hz1 hk1 hS1 => ?_)
  obtain ⟨q_9, q_10, k_11, k_12, hP1, hK1, hD1⟩ := hB
  rw [ht] at hP1
  have hK1 := va_K.moved hvm.symm hK1
  have hJ := va_join (wr := [(h0, .inr (7, [.ref atx, .ref asc, .ref q_1, .ref q_3, .int 0, .int 0, .int 0, .int 0, .int 0, .int (-1)])), (q_1, .inl (k_2, 28, .inr (.inr (.inr (.inr (fun _ => none)))))), (q_3, .inr (6, [.ref q_4, .ref q_5, .int 0])), (q_4, .inl (k_6, 16, .inr (.inl (fun _ => 0)))), (q_5, .inl (k_7, 16, .inr (.inl (fun _ => 0))))]) (w1 := [(q_8, .inr (6, [.ref q_9, .ref q_10, .int 0])), (q_9, .inl (k_11, 16, .inr (.inl (fun _ => 0)))), (q_10, .inl (k_12, 16, .inr (.inl (fun _ => 0))))]) hP hD [5] [0, 1, 2, 3, 4] rfl rfl (by decide) (by decide) hk1 hFc hP1 hD1
  clear hP hD hPc hDc hKc hFc hz1 hw; try clear hk1
  obtain ⟨hP, hD⟩ := hJ
  replace hK := (hK.sub (tys' := [(k_2, .object RX6), (k_6, .long), (k_7, .long)]) [0, 1, 2] rfl).app (hK1.sub (tys' := [(k_11, .long), (k_12, .long)]) [0, 1] rfl)
  clear hP1 hK1 hD1 hvm ht hS; try clear t
  try clear H
  revert hS1
  intro hS
  generalize H1 = H at hP hS ⊢; try clear H1
  replace hP : va_P (dC, dI) vwCl [(h0, .inr (7, [.ref atx, .ref asc, .ref q_1, .ref q_3, .int 0, .int 0, .int 0, .int 0, .int 0, .int (-1)])), (q_1, .inl (k_2, 28, .inr (.inr (.inr (.inr (fun _ => none)))))), (q_3, .inr (6, [.ref q_4, .ref q_5, .int 0])), (q_4, .inl (k_6, 16, .inr (.inl (fun _ => 0)))), (q_5, .inl (k_7, 16, .inr (.inl (fun _ => 0)))), (q_8, .inr (6, [.ref q_9, .ref q_10, .int 0])), (q_9, .inl (k_11, 16, .inr (.inl (fun _ => 0)))), (q_10, .inl (k_12, 16, .inr (.inl (fun _ => 0))))] H := hP
  replace hD : va_D A [(h0, .inr (7, [.ref atx, .ref asc, .ref q_1, .ref q_3, .int 0, .int 0, .int 0, .int 0, .int 0, .int (-1)])), (q_1, .inl (k_2, 28, .inr (.inr (.inr (.inr (fun _ => none)))))), (q_3, .inr (6, [.ref q_4, .ref q_5, .int 0])), (q_4, .inl (k_6, 16, .inr (.inl (fun _ => 0)))), (q_5, .inl (k_7, 16, .inr (.inl (fun _ => 0)))), (q_8, .inr (6, [.ref q_9, .ref q_10, .int 0])), (q_9, .inl (k_11, 16, .inr (.inl (fun _ => 0)))), (q_10, .inl (k_12, 16, .inr (.inl (fun _ => 0))))] := hD
  replace hK : va_K (dC, dI) vwCl [(k_2, .object RX6), (k_6, .long), (k_7, .long), (k_11, .long), (k_12, .long)] s := hK
  refine va_astq hx hb hK hP hD hS 1 0 5 6 rfl rfl rfl rfl (by exact fun h => by rcases h with h | h <;> revert h <;> decide) dX7_init_62 ?_
  clear hP hD hS; try clear H
  intro H locs hP hD hS
  replace hP : va_P (dC, dI) vwCl [(h0, .inr (7, [.ref atx, .ref asc, .ref q_1, .ref q_3, .int 0, .int 0, .int 0, .int 0, .int 0, .int (-1)])), (q_1, .inl (k_2, 28, .inr (.inr (.inr (.inr (va_up (fun _ => none) (0 : Int32).toNatClampNeg (some q_8))))))), (q_3, .inr (6, [.ref q_4, .ref q_5, .int 0])), (q_4, .inl (k_6, 16, .inr (.inl (fun _ => 0)))), (q_5, .inl (k_7, 16, .inr (.inl (fun _ => 0)))), (q_8, .inr (6, [.ref q_9, .ref q_10, .int 0])), (q_9, .inl (k_11, 16, .inr (.inl (fun _ => 0)))), (q_10, .inl (k_12, 16, .inr (.inl (fun _ => 0))))] H := hP
  replace hD : va_D A [(h0, .inr (7, [.ref atx, .ref asc, .ref q_1, .ref q_3, .int 0, .int 0, .int 0, .int 0, .int 0, .int (-1)])), (q_1, .inl (k_2, 28, .inr (.inr (.inr (.inr (va_up (fun _ => none) (0 : Int32).toNatClampNeg (some q_8))))))), (q_3, .inr (6, [.ref q_4, .ref q_5, .int 0])), (q_4, .inl (k_6, 16, .inr (.inl (fun _ => 0)))), (q_5, .inl (k_7, 16, .inr (.inl (fun _ => 0)))), (q_8, .inr (6, [.ref q_9, .ref q_10, .int 0])), (q_9, .inl (k_11, 16, .inr (.inl (fun _ => 0)))), (q_10, .inl (k_12, 16, .inr (.inl (fun _ => 0))))] := hD
  refine lv_iinc (v := 1) (lv' := [(3, .int 1), (0, .ref h0), (1, .ref atx), (2, .ref asc)]) hx hb dX7_init_63 hl (k := 0) rfl (by decide) (by decide) rfl (fun ls hl => ?_)
  refine lv_goto (tgt := 41) hx hb dX7_init_66 (by decide) ?_
  have key_16 : ∀ (n_15 i_13 : Nat) (x_14 : Int32) (f_17 : Nat → Option Nat) (H : Heap) (locs : List Loc) (ls : Array Slot), 1 ≤ i_13 → i_13 ≤ 28 → 28 - i_13 < n_15 → x_14 = nI i_13 → va_P (dC, dI) vwCl [(h0, .inr (7, [.ref atx, .ref asc, .ref q_1, .ref q_3, .int 0, .int 0, .int 0, .int 0, .int 0, .int (-1)])), (q_1, .inl (k_2, 28, .inr (.inr (.inr (.inr f_17))))), (q_3, .inr (6, [.ref q_4, .ref q_5, .int 0])), (q_4, .inl (k_6, 16, .inr (.inl (fun _ => 0)))), (q_5, .inl (k_7, 16, .inr (.inl (fun _ => 0)))), (q_8, .inr (6, [.ref q_9, .ref q_10, .int 0])), (q_9, .inl (k_11, 16, .inr (.inl (fun _ => 0)))), (q_10, .inl (k_12, 16, .inr (.inl (fun _ => 0))))] H → va_D A [(h0, .inr (7, [.ref atx, .ref asc, .ref q_1, .ref q_3, .int 0, .int 0, .int 0, .int 0, .int 0, .int (-1)])), (q_1, .inl (k_2, 28, .inr (.inr (.inr (.inr f_17))))), (q_3, .inr (6, [.ref q_4, .ref q_5, .int 0])), (q_4, .inl (k_6, 16, .inr (.inl (fun _ => 0)))), (q_5, .inl (k_7, 16, .inr (.inl (fun _ => 0)))), (q_8, .inr (6, [.ref q_9, .ref q_10, .int 0])), (q_9, .inl (k_11, 16, .inr (.inl (fun _ => 0)))), (q_10, .inl (k_12, 16, .inr (.inl (fun _ => 0))))] → va_S A s.heap H locs → lv_has ls 4 [(3, .int x_14), (0, .ref h0), (1, .ref atx), (2, .ref asc)] → f_17 0 = some q_8 → W p l e ({ frames := 2, cells := 88, slots := 1043, locals := 32 } : Room) s m ([.ref h0, .ref atx, .ref asc] : List Value).toArray below meth c H locs (4 + 3 * i_13) (63 + 35 * i_13) Q0 (F0 m 41 ls []) := by
    intro n_15
    induction n_15 with
    | zero =>
      intro i_13 x_14 f_17 H locs ls h0 h1 h2
      exact absurd h2 (by omega)
    | succ n_15 ihkey_16 =>
      intro i_13 x_14 f_17 H locs ls hbi_13 hii_13 hni_13 ex_14 hP hD hS hl hf0
      refine lv_iload_n hx hb dX7_init_41 rfl (lv_at hl 0 rfl) ?_
      refine lv_aload_n hx hb dX7_init_42 rfl (lv_at hl 1 rfl) ?_
      refine va_get (D := (dC, dI)) (ci := 7) (v := .ref q_1) (C := RX7) (T := TX7) (N := 10) hx hb hts (in_X7_init_X7) hown hK hP 0 rfl rfl 2 (by decide) (hts (.fieldLink RX7 13 "MotionSigns$Reader" "pool" "[LMotionSigns$Poly;") (List.mem_of_getElem? (i := 5) rfl)) (fun _ h9 => h9) rfl dX7_init_43 ?_
      refine va_alen (v := 28) hx hb hK hP 1 0 rfl rfl rfl dX7_init_46 ?_
      refine lv_icmp_ge (tgt := 69) hx hb dX7_init_47 (by decide) (fun hi_13 => ?_) (fun hi_13 => ?_)
      · have hEi_13 : i_13 = 28 := by
          rcases Nat.lt_or_ge i_13 28 with q | q
          · exact absurd hi_13 (by rw [ex_14]; exact nI_ge (b := 28) q (by omega))
          · omega
        subst hEi_13
        refine W.widen (k := 88) (n := 1043) (by omega) (by omega) ?_
        have hP9 := hP.sub (ws' := [(h0, .inr (7, [.ref atx, .ref asc, .ref q_1, .ref q_3, .int 0, .int 0, .int 0, .int 0, .int 0, .int (-1)])), (q_1, .inl (k_2, 28, .inr (.inr (.inr (.inr f_17))))), (q_8, .inr (6, [.ref q_9, .ref q_10, .int 0])), (q_9, .inl (k_11, 16, .inr (.inl (fun _ => 0)))), (q_10, .inl (k_12, 16, .inr (.inl (fun _ => 0)))), (q_3, .inr (6, [.ref q_4, .ref q_5, .int 0])), (q_4, .inl (k_6, 16, .inr (.inl (fun _ => 0)))), (q_5, .inl (k_7, 16, .inr (.inl (fun _ => 0))))]) [0, 1, 5, 6, 7, 2, 3, 4] rfl
        have hD9 := hD.sub (ws' := [(h0, .inr (7, [.ref atx, .ref asc, .ref q_1, .ref q_3, .int 0, .int 0, .int 0, .int 0, .int 0, .int (-1)])), (q_1, .inl (k_2, 28, .inr (.inr (.inr (.inr f_17))))), (q_8, .inr (6, [.ref q_9, .ref q_10, .int 0])), (q_9, .inl (k_11, 16, .inr (.inl (fun _ => 0)))), (q_10, .inl (k_12, 16, .inr (.inl (fun _ => 0)))), (q_3, .inr (6, [.ref q_4, .ref q_5, .int 0])), (q_4, .inl (k_6, 16, .inr (.inl (fun _ => 0)))), (q_5, .inl (k_7, 16, .inr (.inl (fun _ => 0))))]) [0, 1, 5, 6, 7, 2, 3, 4] (by decide) rfl
        have hK9 := hK.sub (tys' := [(k_2, .object RX6), (k_11, .long), (k_12, .long), (k_6, .long), (k_7, .long)]) [0, 3, 4, 1, 2] rfl
        rw [← hAe] at hD9
        refine W.widen (k := 88) (n := 1043) (Nat.le_of_ble_eq_true rfl) (Nat.le_of_ble_eq_true rfl) ?_
        subst hQ0
        subst hAe
        exact W.vret hx hb hr (fun t ht hW => ⟨⟨(), rfl, trivial, q_1, q_3, q_8, q_9, q_10, q_4, q_5, k_2, k_11, k_12, k_6, k_7, (f_17), by rw [ht]; exact hP9, va_K.moved hW.alike hK9, hD9, hf0⟩, hS.F ht⟩) hS.2.2 dX7_init_69
      · have hlti_13 : i_13 < 28 := by
          rcases Nat.lt_or_ge i_13 28 with q | q
          · exact q
          · exact absurd (by rw [ex_14]; exact nI_le q (by omega)) hi_13
        refine lv_aload_n hx hb dX7_init_50 rfl (lv_at hl 1 rfl) ?_
        refine va_get (D := (dC, dI)) (ci := 7) (v := .ref q_1) (C := RX7) (T := TX7) (N := 10) hx hb hts (in_X7_init_X7) hown hK hP 0 rfl rfl 2 (by decide) (hts (.fieldLink RX7 13 "MotionSigns$Reader" "pool" "[LMotionSigns$Poly;") (List.mem_of_getElem? (i := 5) rfl)) (fun _ h9 => h9) rfl dX7_init_51 ?_
        refine lv_iload_n hx hb dX7_init_54 rfl (lv_at hl 0 rfl) ?_
        refine va_new (ci := 6) (fs := [.null, .null, .int 0]) (C := RX6) (T := TX6) (N := 3) hx hb hts (in_X7_init_X6) tyX6 tyX6_ok hown (hts (.classLink RX7 11 RX6) (List.mem_of_getElem? (i := 4) rfl)) (hts (.instantiable RX6 3) (List.mem_of_getElem? (i := 6) rfl)) (hts (.initialized RX6) (List.mem_of_getElem? (i := 7) rfl)) hK hP hD hS hA rfl (fun j hj => by rcases (show j = 0 ∨ j = 1 ∨ j = 2 by omega) with rfl | rfl | rfl <;> rfl) (by show _ ≤ (88 : Nat); omega) (by show _ ≤ (1043 : Nat); omega) dX7_init_55 ?_
        clear hP hD hS; try clear H
        intro q_18 H hP hD hS
        replace hP : va_P (dC, dI) vwCl [(h0, .inr (7, [.ref atx, .ref asc, .ref q_1, .ref q_3, .int 0, .int 0, .int 0, .int 0, .int 0, .int (-1)])), (q_1, .inl (k_2, 28, .inr (.inr (.inr (.inr f_17))))), (q_3, .inr (6, [.ref q_4, .ref q_5, .int 0])), (q_4, .inl (k_6, 16, .inr (.inl (fun _ => 0)))), (q_5, .inl (k_7, 16, .inr (.inl (fun _ => 0)))), (q_8, .inr (6, [.ref q_9, .ref q_10, .int 0])), (q_9, .inl (k_11, 16, .inr (.inl (fun _ => 0)))), (q_10, .inl (k_12, 16, .inr (.inl (fun _ => 0)))), (q_18, .inr (6, [.null, .null, .int 0]))] H := hP
        replace hD : va_D A [(h0, .inr (7, [.ref atx, .ref asc, .ref q_1, .ref q_3, .int 0, .int 0, .int 0, .int 0, .int 0, .int (-1)])), (q_1, .inl (k_2, 28, .inr (.inr (.inr (.inr f_17))))), (q_3, .inr (6, [.ref q_4, .ref q_5, .int 0])), (q_4, .inl (k_6, 16, .inr (.inl (fun _ => 0)))), (q_5, .inl (k_7, 16, .inr (.inl (fun _ => 0)))), (q_8, .inr (6, [.ref q_9, .ref q_10, .int 0])), (q_9, .inl (k_11, 16, .inr (.inl (fun _ => 0)))), (q_10, .inl (k_12, 16, .inr (.inl (fun _ => 0)))), (q_18, .inr (6, [.null, .null, .int 0]))] := hD
        refine lv_dup hx hb dX7_init_58 rfl ?_
        have hPc := hP.sub (ws' := [(q_18, .inr (6, [.null, .null, .int 0]))]) [8] rfl
        have hDc := hD.sub (ws' := [(q_18, .inr (6, [.null, .null, .int 0]))]) [8] (by decide) rfl
        have hKc := hK.sub (tys' := []) [] rfl
        have hFc := va_free (wc := [(q_18, .inr (6, [.null, .null, .int 0]))]) hD hS hA [8] rfl
        refine va_callv (va_runIN (As := []) (rest := [.ref q_18, .int x_14, .ref q_1]) ⟨hx, hb, hml, hown, hts⟩ (c_X6_init l dC dI q_18 H.size) ⟨va_cnB 0 hts gX7_init_X6_init_n17 rfl rfl rfl (hN.1 (RX7, 17, yX6_init, RX11) (List.mem_of_getElem? (i := 2) rfl)) (hts (.initialized RX6) (List.mem_of_getElem? (i := 7) rfl)) hd_X6_init ⟨Nat.le_of_ble_eq_true rfl, Nat.le_of_ble_eq_true rfl⟩, rfl, (hts (.instanceMethod yX6_init) (List.mem_of_getElem? (i := 12) rfl))⟩ ⟨fun a U g mk q => by obtain ⟨q0, q1, qP, qK, qD, qE0⟩ := q; exact ⟨q0, q1, qP, va_K.moved (u := U) (U := U.calling g mk a) (Vm.Alike.refl U.vm) qK, qD, w_N.same rfl qE0⟩, fun U hU hW => ⟨rfl, by rw [hU], by rw [hU]; exact hPc, va_K.moved hW.alike hKc, hDc.weaken (fun _ _ _ _ => trivial), w_N.warm hW hN⟩⟩ rfl rfl hl.1 rfl (lv_room (Nat.le_of_ble_eq_true rfl)) dX7_init_59 ⟨(by show _ ≤ (88 : Nat); omega), (by show _ ≤ (1043 : Nat); omega)⟩) hS (fun q _ h => hFc q h) hFc (fun u t H1 locs1 ht hvm hw hB hz1 hk1 hS1 => ?_)
        obtain ⟨q_19, q_20, k_21, k_22, hP1, hK1, hD1⟩ := hB
        rw [ht] at hP1
        have hK1 := va_K.moved hvm.symm hK1
        have hJ := va_join (wr := [(h0, .inr (7, [.ref atx, .ref asc, .ref q_1, .ref q_3, .int 0, .int 0, .int 0, .int 0, .int 0, .int (-1)])), (q_1, .inl (k_2, 28, .inr (.inr (.inr (.inr f_17))))), (q_3, .inr (6, [.ref q_4, .ref q_5, .int 0])), (q_4, .inl (k_6, 16, .inr (.inl (fun _ => 0)))), (q_5, .inl (k_7, 16, .inr (.inl (fun _ => 0)))), (q_8, .inr (6, [.ref q_9, .ref q_10, .int 0])), (q_9, .inl (k_11, 16, .inr (.inl (fun _ => 0)))), (q_10, .inl (k_12, 16, .inr (.inl (fun _ => 0))))]) (w1 := [(q_18, .inr (6, [.ref q_19, .ref q_20, .int 0])), (q_19, .inl (k_21, 16, .inr (.inl (fun _ => 0)))), (q_20, .inl (k_22, 16, .inr (.inl (fun _ => 0))))]) hP hD [8] [0, 1, 2, 3, 4, 5, 6, 7] rfl rfl (by decide) (by decide) hk1 hFc hP1 hD1
        clear hP hD hPc hDc hKc hFc hz1 hw; try clear hk1
        obtain ⟨hP, hD⟩ := hJ
        replace hK := (hK.sub (tys' := [(k_2, .object RX6), (k_6, .long), (k_7, .long), (k_11, .long), (k_12, .long)]) [0, 1, 2, 3, 4] rfl).app (hK1.sub (tys' := [(k_21, .long), (k_22, .long)]) [0, 1] rfl)
        clear hP1 hK1 hD1 hvm ht hS; try clear t
        try clear H
        revert hS1
        intro hS
        generalize H1 = H at hP hS ⊢; try clear H1
        replace hP : va_P (dC, dI) vwCl [(h0, .inr (7, [.ref atx, .ref asc, .ref q_1, .ref q_3, .int 0, .int 0, .int 0, .int 0, .int 0, .int (-1)])), (q_1, .inl (k_2, 28, .inr (.inr (.inr (.inr f_17))))), (q_3, .inr (6, [.ref q_4, .ref q_5, .int 0])), (q_4, .inl (k_6, 16, .inr (.inl (fun _ => 0)))), (q_5, .inl (k_7, 16, .inr (.inl (fun _ => 0)))), (q_8, .inr (6, [.ref q_9, .ref q_10, .int 0])), (q_9, .inl (k_11, 16, .inr (.inl (fun _ => 0)))), (q_10, .inl (k_12, 16, .inr (.inl (fun _ => 0)))), (q_18, .inr (6, [.ref q_19, .ref q_20, .int 0])), (q_19, .inl (k_21, 16, .inr (.inl (fun _ => 0)))), (q_20, .inl (k_22, 16, .inr (.inl (fun _ => 0))))] H := hP
        replace hD : va_D A [(h0, .inr (7, [.ref atx, .ref asc, .ref q_1, .ref q_3, .int 0, .int 0, .int 0, .int 0, .int 0, .int (-1)])), (q_1, .inl (k_2, 28, .inr (.inr (.inr (.inr f_17))))), (q_3, .inr (6, [.ref q_4, .ref q_5, .int 0])), (q_4, .inl (k_6, 16, .inr (.inl (fun _ => 0)))), (q_5, .inl (k_7, 16, .inr (.inl (fun _ => 0)))), (q_8, .inr (6, [.ref q_9, .ref q_10, .int 0])), (q_9, .inl (k_11, 16, .inr (.inl (fun _ => 0)))), (q_10, .inl (k_12, 16, .inr (.inl (fun _ => 0)))), (q_18, .inr (6, [.ref q_19, .ref q_20, .int 0])), (q_19, .inl (k_21, 16, .inr (.inl (fun _ => 0)))), (q_20, .inl (k_22, 16, .inr (.inl (fun _ => 0))))] := hD
        replace hK : va_K (dC, dI) vwCl [(k_2, .object RX6), (k_6, .long), (k_7, .long), (k_11, .long), (k_12, .long), (k_21, .long), (k_22, .long)] s := hK
        refine va_astq hx hb hK hP hD hS 1 0 8 6 rfl rfl rfl rfl (by rw [ex_14]; exact vp_in_nI (by omega) (by omega)) dX7_init_62 ?_
        clear hP hD hS; try clear H
        intro H locs hP hD hS
        replace hP : va_P (dC, dI) vwCl [(h0, .inr (7, [.ref atx, .ref asc, .ref q_1, .ref q_3, .int 0, .int 0, .int 0, .int 0, .int 0, .int (-1)])), (q_1, .inl (k_2, 28, .inr (.inr (.inr (.inr (va_up (f_17) (x_14 : Int32).toNatClampNeg (some q_18))))))), (q_3, .inr (6, [.ref q_4, .ref q_5, .int 0])), (q_4, .inl (k_6, 16, .inr (.inl (fun _ => 0)))), (q_5, .inl (k_7, 16, .inr (.inl (fun _ => 0)))), (q_8, .inr (6, [.ref q_9, .ref q_10, .int 0])), (q_9, .inl (k_11, 16, .inr (.inl (fun _ => 0)))), (q_10, .inl (k_12, 16, .inr (.inl (fun _ => 0)))), (q_18, .inr (6, [.ref q_19, .ref q_20, .int 0])), (q_19, .inl (k_21, 16, .inr (.inl (fun _ => 0)))), (q_20, .inl (k_22, 16, .inr (.inl (fun _ => 0))))] H := hP
        replace hD : va_D A [(h0, .inr (7, [.ref atx, .ref asc, .ref q_1, .ref q_3, .int 0, .int 0, .int 0, .int 0, .int 0, .int (-1)])), (q_1, .inl (k_2, 28, .inr (.inr (.inr (.inr (va_up (f_17) (x_14 : Int32).toNatClampNeg (some q_18))))))), (q_3, .inr (6, [.ref q_4, .ref q_5, .int 0])), (q_4, .inl (k_6, 16, .inr (.inl (fun _ => 0)))), (q_5, .inl (k_7, 16, .inr (.inl (fun _ => 0)))), (q_8, .inr (6, [.ref q_9, .ref q_10, .int 0])), (q_9, .inl (k_11, 16, .inr (.inl (fun _ => 0)))), (q_10, .inl (k_12, 16, .inr (.inl (fun _ => 0)))), (q_18, .inr (6, [.ref q_19, .ref q_20, .int 0])), (q_19, .inl (k_21, 16, .inr (.inl (fun _ => 0)))), (q_20, .inl (k_22, 16, .inr (.inl (fun _ => 0))))] := hD
        obtain ⟨v_23, ev_23⟩ : ∃ y : Int32, y = x_14 + 1 := ⟨_, rfl⟩
        refine lv_iinc (v := v_23) (lv' := [(3, .int v_23), (0, .ref h0), (1, .ref atx), (2, .ref asc)]) hx hb dX7_init_63 hl (k := 0) rfl (by rw [ev_23]; rfl) (by decide) rfl (fun ls hl => ?_)
        refine lv_goto (tgt := 41) hx hb dX7_init_66 (by decide) ?_
        replace hP := hP.sub (ws' := [(h0, .inr (7, [.ref atx, .ref asc, .ref q_1, .ref q_3, .int 0, .int 0, .int 0, .int 0, .int 0, .int (-1)])), (q_1, .inl (k_2, 28, .inr (.inr (.inr (.inr (va_up (f_17) (x_14 : Int32).toNatClampNeg (some q_18))))))), (q_3, .inr (6, [.ref q_4, .ref q_5, .int 0])), (q_4, .inl (k_6, 16, .inr (.inl (fun _ => 0)))), (q_5, .inl (k_7, 16, .inr (.inl (fun _ => 0)))), (q_8, .inr (6, [.ref q_9, .ref q_10, .int 0])), (q_9, .inl (k_11, 16, .inr (.inl (fun _ => 0)))), (q_10, .inl (k_12, 16, .inr (.inl (fun _ => 0))))]) [0, 1, 2, 3, 4, 5, 6, 7] rfl
        replace hD := hD.sub (ws' := [(h0, .inr (7, [.ref atx, .ref asc, .ref q_1, .ref q_3, .int 0, .int 0, .int 0, .int 0, .int 0, .int (-1)])), (q_1, .inl (k_2, 28, .inr (.inr (.inr (.inr (va_up (f_17) (x_14 : Int32).toNatClampNeg (some q_18))))))), (q_3, .inr (6, [.ref q_4, .ref q_5, .int 0])), (q_4, .inl (k_6, 16, .inr (.inl (fun _ => 0)))), (q_5, .inl (k_7, 16, .inr (.inl (fun _ => 0)))), (q_8, .inr (6, [.ref q_9, .ref q_10, .int 0])), (q_9, .inl (k_11, 16, .inr (.inl (fun _ => 0)))), (q_10, .inl (k_12, 16, .inr (.inl (fun _ => 0))))]) [0, 1, 2, 3, 4, 5, 6, 7] (by decide) rfl
        refine W.widen (k := 4 + 3 * (i_13 + 1)) (n := 63 + 35 * (i_13 + 1)) (by omega) (by omega) ?_
        exact ihkey_16 (i_13 + 1) _ _ H locs ls (by omega) (by omega) (by omega) (by rw [ev_23, ex_14]; exact nI_1 i_13) (hP.sub [0, 1, 2, 3, 4, 5, 6, 7] rfl) (hD.sub [0, 1, 2, 3, 4, 5, 6, 7] (by decide) rfl) hS (lv_sub hl [0, 1, 2, 3] rfl) ((va_up_ne0 ex_14 (by omega) (by omega)).trans hf0)
  refine W.widen (k := 4 + 3 * 1) (n := 63 + 35 * 1) (by omega) (by omega) ?_
  exact key_16 (28 + 1) 1 _ _ H locs ls (by omega) (by omega) (by omega) (by first | rfl | exact nI_0.symm | decide) hP hD hS hl rfl
set_option maxHeartbeats 4000000 in
set_option maxRecDepth 100000 in
/-- Change(scratch, gather) -/
theorem c_X2_init (l : Launch) (dC : Nat → ClassId) (dI : Nat → Nat → Nat) (h0 : Nat) (asc : Nat) (ag : Nat) (sz : Nat) : Met l yX2_init wsX2_init ({ frames := 2, cells := 88, slots := 1007, locals := 32 }) (va_Pc [.ref h0, .ref asc, .ref ag] (fun U => U.heap.size = sz ∧ va_P (dC, dI) vwCl [(h0, .inr (2, [.null, .null, .null, .null, .null, .null, .null, .null, .int 0, .int 0, .int 0, .int 0, .null]))] U.heap ∧ va_K (dC, dI) vwCl [] U ∧ va_D (fun _ => True) [(h0, .inr (2, [.null, .null, .null, .null, .null, .null, .null, .null, .int 0, .int 0, .int 0, .int 0, .null]))] ∧ w_N U)) (va_Qv (fun _ : Unit => True) (fun _ t => ∃ (qr : Nat) (q1a : Nat) (q1b : Nat) (k1a : Nat) (k1b : Nat) (r_rule : Nat) (r_slope : Nat) (r_cubic : Nat) (r_one : Nat) (r_two : Nat) (r_testTerms : Nat), va_P (dC, dI) vwCl [(h0, .inr (2, [.ref asc, .ref ag, .ref qr, .ref r_rule, .ref r_slope, .ref r_cubic, .ref r_one, .ref r_two, .int 0, .int 0, .int 0, .int 0, .ref r_testTerms])), (qr, .inr (6, [.ref q1a, .ref q1b, .int 0])), (q1a, .inl (k1a, 16, .inr (.inl (fun _ => 0)))), (q1b, .inl (k1b, 16, .inr (.inl (fun _ => 0))))] t.heap ∧ va_K (dC, dI) vwCl [(k1a, .long), (k1b, .long)] t ∧ va_D (va_A [(h0, .inr (2, [.null, .null, .null, .null, .null, .null, .null, .null, .int 0, .int 0, .int 0, .int 0, .null]))] sz) [(h0, .inr (2, [.ref asc, .ref ag, .ref qr, .ref r_rule, .ref r_slope, .ref r_cubic, .ref r_one, .ref r_two, .int 0, .int 0, .int 0, .int 0, .ref r_testTerms])), (qr, .inr (6, [.ref q1a, .ref q1b, .int 0])), (q1a, .inl (k1a, 16, .inr (.inl (fun _ => 0)))), (q1b, .inl (k1b, 16, .inr (.inl (fun _ => 0))))]) (va_A [(h0, .inr (2, [.null, .null, .null, .null, .null, .null, .null, .null, .int 0, .int 0, .int 0, .int 0, .null]))] sz)) 88 1007 (va_A [(h0, .inr (2, [.null, .null, .null, .null, .null, .null, .null, .null, .int 0, .int 0, .int 0, .int 0, .null]))] sz) := by
  refine Met.ofW (cc := cX2_init) (maxL := 4) (ret := none) (by decide) rfl ?_
  intro p e s m args below meth c s₁ B hml hv
  obtain ⟨rfl, hsz, hP, hK, hD0, hN⟩ := hv
  have hx := B.exec
  have hb := B.bytes
  have hr := B.returns
  have hts := atoms_spec (ws := wsX2_init) B.pre
  have hown : s.vm.findClass RX2 = some m.cls := findClass_of_methodNamed B.named
  have hlocks := B.notSynchronized
  have hin : meth.name = "<init>" := (name_of_methodNamed B.named B.method).1
  subst hsz
  have hD := hD0.self (sz := s.heap.size)
  generalize hAe : va_A [(h0, .inr (2, [.null, .null, .null, .null, .null, .null, .null, .null, .int 0, .int 0, .int 0, .int 0, .null]))] s.heap.size = A at hD ⊢
  have hA : ∀ q : Nat, s.heap.size ≤ q → A q := fun q h => by rw [← hAe]; exact Or.inr h
  have hS : va_S A s.heap s.heap [] := va_S.rf
  have hP : va_P (dC, dI) vwCl [(h0, .inr (2, [.null, .null, .null, .null, .null, .null, .null, .null, .int 0, .int 0, .int 0, .int 0, .null]))] s.heap := hP
  have hl := lv_entry ([.ref h0, .ref asc, .ref ag]) (n := 4) (Nat.le_of_ble_eq_true rfl)
  rw [lg_entry_eq]
  generalize (lg_sl ([.ref h0, .ref asc, .ref ag]) ++ List.replicate (4 - (lg_sl ([.ref h0, .ref asc, .ref ag])).length) Slot.unset).toArray = ls at hl ⊢
  have hl : lv_has ls 4 [(0, .ref h0), (1, .ref asc), (2, .ref ag)] := hl
  refine gen_W (fun Q0 hQ0 => ?_)
  refine lv_aload_n hx hb dX2_init_0 rfl (lv_at hl 0 rfl) ?_
  refine W.objInit hx hb hown (hts (.methodLink RX2 3 objectInit) (List.mem_of_getElem? (i := 1) rfl)) (hts (.instanceMethod objectInit) (List.mem_of_getElem? (i := 2) rfl)) (hts _ (List.mem_of_getElem? (i := 3) rfl)) rfl (by rw [hml]; exact hl.1) rfl dX2_init_1 (Nat.le_of_ble_eq_true rfl) (Nat.le_of_ble_eq_true rfl) ?_
  refine W.eq (g2 := F0 m 4 ls []) rfl ?_
  refine lv_aload_n hx hb dX2_init_4 rfl (lv_at hl 0 rfl) ?_
  refine va_new (ci := 6) (fs := [.null, .null, .int 0]) (C := RX6) (T := TX6) (N := 3) hx hb hts (in_X2_init_X6) tyX6 tyX6_ok hown (hts (.classLink RX2 9 RX6) (List.mem_of_getElem? (i := 4) rfl)) (hts (.instantiable RX6 3) (List.mem_of_getElem? (i := 5) rfl)) (hts (.initialized RX6) (List.mem_of_getElem? (i := 6) rfl)) hK hP hD hS hA rfl (fun j hj => by rcases (show j = 0 ∨ j = 1 ∨ j = 2 by omega) with rfl | rfl | rfl <;> rfl) (Nat.le_of_ble_eq_true rfl) (Nat.le_of_ble_eq_true rfl) dX2_init_5 ?_
  clear hP hD hS; try clear H
  intro q_1 H hP hD hS
  replace hP : va_P (dC, dI) vwCl [(h0, .inr (2, [.null, .null, .null, .null, .null, .null, .null, .null, .int 0, .int 0, .int 0, .int 0, .null])), (q_1, .inr (6, [.null, .null, .int 0]))] H := hP
  replace hD : va_D A [(h0, .inr (2, [.null, .null, .null, .null, .null, .null, .null, .null, .int 0, .int 0, .int 0, .int 0, .null])), (q_1, .inr (6, [.null, .null, .int 0]))] := hD
  refine lv_dup hx hb dX2_init_8 rfl ?_
  have hPc := hP.sub (ws' := [(q_1, .inr (6, [.null, .null, .int 0]))]) [1] rfl
  have hDc := hD.sub (ws' := [(q_1, .inr (6, [.null, .null, .int 0]))]) [1] (by decide) rfl
  have hKc := hK.sub (tys' := []) [] rfl
  have hFc := va_free (wc := [(q_1, .inr (6, [.null, .null, .int 0]))]) hD hS hA [1] rfl
  refine va_callv (va_runIN (As := []) (rest := [.ref q_1, .ref h0]) ⟨hx, hb, hml, hown, hts⟩ (c_X6_init l dC dI q_1 H.size) ⟨va_cnB 0 hts gX2_init_X6_init_n11 rfl rfl rfl (hN.1 (RX2, 11, yX6_init, RX11) (List.mem_of_getElem? (i := 3) rfl)) (hts (.initialized RX6) (List.mem_of_getElem? (i := 6) rfl)) hd_X6_init ⟨Nat.le_of_ble_eq_true rfl, Nat.le_of_ble_eq_true rfl⟩, rfl, (hts (.instanceMethod yX6_init) (List.mem_of_getElem? (i := 17) rfl))⟩ ⟨fun a U g mk q => by obtain ⟨q0, q1, qP, qK, qD, qE0⟩ := q; exact ⟨q0, q1, qP, va_K.moved (u := U) (U := U.calling g mk a) (Vm.Alike.refl U.vm) qK, qD, w_N.same rfl qE0⟩, fun U hU hW => ⟨rfl, by rw [hU], by rw [hU]; exact hPc, va_K.moved hW.alike hKc, hDc.weaken (fun _ _ _ _ => trivial), w_N.warm hW hN⟩⟩ rfl rfl hl.1 rfl (lv_room (Nat.le_of_ble_eq_true rfl)) dX2_init_9 ⟨(Nat.le_of_ble_eq_true rfl), (Nat.le_of_ble_eq_true rfl)⟩) hS (fun q _ h => hFc q h) hFc (fun u t H1 locs1 ht hvm hw hB hz1 hk1 hS1 => ?_)
  obtain ⟨q_2, q_3, k_4, k_5, hP1, hK1, hD1⟩ := hB
  rw [ht] at hP1
  have hK1 := va_K.moved hvm.symm hK1
  have hJ := va_join (wr := [(h0, .inr (2, [.null, .null, .null, .null, .null, .null, .null, .null, .int 0, .int 0, .int 0, .int 0, .null]))]) (w1 := [(q_1, .inr (6, [.ref q_2, .ref q_3, .int 0])), (q_2, .inl (k_4, 16, .inr (.inl (fun _ => 0)))), (q_3, .inl (k_5, 16, .inr (.inl (fun _ => 0))))]) hP hD [1] [0] rfl rfl (by decide) (by decide) hk1 hFc hP1 hD1
  clear hP hD hPc hDc hKc hFc hz1 hw; try clear hk1
  obtain ⟨hP, hD⟩ := hJ
  replace hK := (hK.sub (tys' := []) [] rfl).app (hK1.sub (tys' := [(k_4, .long), (k_5, .long)]) [0, 1] rfl)
  clear hP1 hK1 hD1 hvm ht hS; try clear t
  try clear H
  revert hS1
  intro hS
  generalize H1 = H at hP hS ⊢; try clear H1
  replace hP : va_P (dC, dI) vwCl [(h0, .inr (2, [.null, .null, .null, .null, .null, .null, .null, .null, .int 0, .int 0, .int 0, .int 0, .null])), (q_1, .inr (6, [.ref q_2, .ref q_3, .int 0])), (q_2, .inl (k_4, 16, .inr (.inl (fun _ => 0)))), (q_3, .inl (k_5, 16, .inr (.inl (fun _ => 0))))] H := hP
  replace hD : va_D A [(h0, .inr (2, [.null, .null, .null, .null, .null, .null, .null, .null, .int 0, .int 0, .int 0, .int 0, .null])), (q_1, .inr (6, [.ref q_2, .ref q_3, .int 0])), (q_2, .inl (k_4, 16, .inr (.inl (fun _ => 0)))), (q_3, .inl (k_5, 16, .inr (.inl (fun _ => 0))))] := hD
  replace hK : va_K (dC, dI) vwCl [(k_4, .long), (k_5, .long)] s := hK
  refine va_putF (D := (dC, dI)) (ci := 2) (v := .ref q_1) (ty := .object "MotionSigns$Poly") (C := RX2) (T := TX2) (N := 13) hx hb hts (in_X2_init_X2) tyX2 tyX2_ok nmX2 hown hK hP hD hS 0 rfl rfl 2 (by decide) (hts (.fieldLink RX2 12 "MotionSigns$Change" "right" "LMotionSigns$Poly;") (List.mem_of_getElem? (i := 7) rfl)) (fun _ h9 => h9) rfl hin rfl (tyX2_ok 2 (by decide)) rfl rfl (Nat.le_of_ble_eq_true rfl) dX2_init_12 ?_
  clear hP hD hS; try clear H
  intro H locs hP hD hS
  replace hP : va_P (dC, dI) vwCl [(h0, .inr (2, [.null, .null, .ref q_1, .null, .null, .null, .null, .null, .int 0, .int 0, .int 0, .int 0, .null])), (q_1, .inr (6, [.ref q_2, .ref q_3, .int 0])), (q_2, .inl (k_4, 16, .inr (.inl (fun _ => 0)))), (q_3, .inl (k_5, 16, .inr (.inl (fun _ => 0))))] H := hP
  replace hD : va_D A [(h0, .inr (2, [.null, .null, .ref q_1, .null, .null, .null, .null, .null, .int 0, .int 0, .int 0, .int 0, .null])), (q_1, .inr (6, [.ref q_2, .ref q_3, .int 0])), (q_2, .inl (k_4, 16, .inr (.inl (fun _ => 0)))), (q_3, .inl (k_5, 16, .inr (.inl (fun _ => 0))))] := hD
  refine lv_aload_n hx hb dX2_init_15 rfl (lv_at hl 0 rfl) ?_
  refine lv_bipush (v := 18) hx hb dX2_init_16 (by decide) ?_
  refine va_newq (C := RX6) (N' := 18) hx hb hown (hts (.classLink RX2 9 RX6) (List.mem_of_getElem? (i := 4) rfl)) (hN.2.2.1 RX6 (List.mem_of_getElem? (i := 3) rfl)) hK hP hD hS hA (by decide) (by decide) (Nat.le_of_ble_eq_true rfl) (Nat.le_of_ble_eq_true rfl) (Nat.le_of_ble_eq_true rfl) dX2_init_18 ?_
  clear hP hD hS hK; try clear H
  intro q_6 k_7 H hK hP hD hS
  replace hP : va_P (dC, dI) vwCl [(h0, .inr (2, [.null, .null, .ref q_1, .null, .null, .null, .null, .null, .int 0, .int 0, .int 0, .int 0, .null])), (q_1, .inr (6, [.ref q_2, .ref q_3, .int 0])), (q_2, .inl (k_4, 16, .inr (.inl (fun _ => 0)))), (q_3, .inl (k_5, 16, .inr (.inl (fun _ => 0)))), (q_6, .inl (k_7, 18, .inr (.inr (.inr (.inr (fun _ => none))))))] H := hP
  replace hD : va_D A [(h0, .inr (2, [.null, .null, .ref q_1, .null, .null, .null, .null, .null, .int 0, .int 0, .int 0, .int 0, .null])), (q_1, .inr (6, [.ref q_2, .ref q_3, .int 0])), (q_2, .inl (k_4, 16, .inr (.inl (fun _ => 0)))), (q_3, .inl (k_5, 16, .inr (.inl (fun _ => 0)))), (q_6, .inl (k_7, 18, .inr (.inr (.inr (.inr (fun _ => none))))))] := hD
  replace hK : va_K (dC, dI) vwCl [(k_4, .long), (k_5, .long), (k_7, .object RX6)] s := hK
  refine va_putF (D := (dC, dI)) (ci := 2) (v := .ref q_6) (ty := .array (.object "MotionSigns$Poly")) (C := RX2) (T := TX2) (N := 13) hx hb hts (in_X2_init_X2) tyX2 tyX2_ok nmX2 hown hK hP hD hS 0 rfl rfl 3 (by decide) (hts (.fieldLink RX2 18 "MotionSigns$Change" "rule" "[LMotionSigns$Poly;") (List.mem_of_getElem? (i := 8) rfl)) (fun _ h9 => h9) rfl hin rfl (tyX2_ok 3 (by decide)) rfl rfl (Nat.le_of_ble_eq_true rfl) dX2_init_21 ?_
  clear hP hD hS; try clear H
  intro H locs hP hD hS
  replace hP : va_P (dC, dI) vwCl [(h0, .inr (2, [.null, .null, .ref q_1, .ref q_6, .null, .null, .null, .null, .int 0, .int 0, .int 0, .int 0, .null])), (q_1, .inr (6, [.ref q_2, .ref q_3, .int 0])), (q_2, .inl (k_4, 16, .inr (.inl (fun _ => 0)))), (q_3, .inl (k_5, 16, .inr (.inl (fun _ => 0)))), (q_6, .inl (k_7, 18, .inr (.inr (.inr (.inr (fun _ => none))))))] H := hP
  replace hD : va_D A [(h0, .inr (2, [.null, .null, .ref q_1, .ref q_6, .null, .null, .null, .null, .int 0, .int 0, .int 0, .int 0, .null])), (q_1, .inr (6, [.ref q_2, .ref q_3, .int 0])), (q_2, .inl (k_4, 16, .inr (.inl (fun _ => 0)))), (q_3, .inl (k_5, 16, .inr (.inl (fun _ => 0)))), (q_6, .inl (k_7, 18, .inr (.inr (.inr (.inr (fun _ => none))))))] := hD
  refine lv_aload_n hx hb dX2_init_24 rfl (lv_at hl 0 rfl) ?_
  refine lv_iconst (v := 3) hx hb dX2_init_25 (by decide) ?_
  refine va_newq (C := RX6) (N' := 3) hx hb hown (hts (.classLink RX2 9 RX6) (List.mem_of_getElem? (i := 4) rfl)) (hN.2.2.1 RX6 (List.mem_of_getElem? (i := 3) rfl)) hK hP hD hS hA (by decide) (by decide) (Nat.le_of_ble_eq_true rfl) (Nat.le_of_ble_eq_true rfl) (Nat.le_of_ble_eq_true rfl) dX2_init_26 ?_
  clear hP hD hS hK; try clear H
  intro q_8 k_9 H hK hP hD hS
  replace hP : va_P (dC, dI) vwCl [(h0, .inr (2, [.null, .null, .ref q_1, .ref q_6, .null, .null, .null, .null, .int 0, .int 0, .int 0, .int 0, .null])), (q_1, .inr (6, [.ref q_2, .ref q_3, .int 0])), (q_2, .inl (k_4, 16, .inr (.inl (fun _ => 0)))), (q_3, .inl (k_5, 16, .inr (.inl (fun _ => 0)))), (q_6, .inl (k_7, 18, .inr (.inr (.inr (.inr (fun _ => none)))))), (q_8, .inl (k_9, 3, .inr (.inr (.inr (.inr (fun _ => none))))))] H := hP
  replace hD : va_D A [(h0, .inr (2, [.null, .null, .ref q_1, .ref q_6, .null, .null, .null, .null, .int 0, .int 0, .int 0, .int 0, .null])), (q_1, .inr (6, [.ref q_2, .ref q_3, .int 0])), (q_2, .inl (k_4, 16, .inr (.inl (fun _ => 0)))), (q_3, .inl (k_5, 16, .inr (.inl (fun _ => 0)))), (q_6, .inl (k_7, 18, .inr (.inr (.inr (.inr (fun _ => none)))))), (q_8, .inl (k_9, 3, .inr (.inr (.inr (.inr (fun _ => none))))))] := hD
  replace hK : va_K (dC, dI) vwCl [(k_4, .long), (k_5, .long), (k_7, .object RX6), (k_9, .object RX6)] s := hK
  refine va_putF (D := (dC, dI)) (ci := 2) (v := .ref q_8) (ty := .array (.object "MotionSigns$Poly")) (C := RX2) (T := TX2) (N := 13) hx hb hts (in_X2_init_X2) tyX2 tyX2_ok nmX2 hown hK hP hD hS 0 rfl rfl 4 (by decide) (hts (.fieldLink RX2 22 "MotionSigns$Change" "slope" "[LMotionSigns$Poly;") (List.mem_of_getElem? (i := 9) rfl)) (fun _ h9 => h9) rfl hin rfl (tyX2_ok 4 (by decide)) rfl rfl (Nat.le_of_ble_eq_true rfl) dX2_init_29 ?_
  clear hP hD hS; try clear H
  intro H locs hP hD hS
  replace hP : va_P (dC, dI) vwCl [(h0, .inr (2, [.null, .null, .ref q_1, .ref q_6, .ref q_8, .null, .null, .null, .int 0, .int 0, .int 0, .int 0, .null])), (q_1, .inr (6, [.ref q_2, .ref q_3, .int 0])), (q_2, .inl (k_4, 16, .inr (.inl (fun _ => 0)))), (q_3, .inl (k_5, 16, .inr (.inl (fun _ => 0)))), (q_6, .inl (k_7, 18, .inr (.inr (.inr (.inr (fun _ => none)))))), (q_8, .inl (k_9, 3, .inr (.inr (.inr (.inr (fun _ => none))))))] H := hP
  replace hD : va_D A [(h0, .inr (2, [.null, .null, .ref q_1, .ref q_6, .ref q_8, .null, .null, .null, .int 0, .int 0, .int 0, .int 0, .null])), (q_1, .inr (6, [.ref q_2, .ref q_3, .int 0])), (q_2, .inl (k_4, 16, .inr (.inl (fun _ => 0)))), (q_3, .inl (k_5, 16, .inr (.inl (fun _ => 0)))), (q_6, .inl (k_7, 18, .inr (.inr (.inr (.inr (fun _ => none)))))), (q_8, .inl (k_9, 3, .inr (.inr (.inr (.inr (fun _ => none))))))] := hD
  refine lv_aload_n hx hb dX2_init_32 rfl (lv_at hl 0 rfl) ?_
  refine lv_iconst (v := 4) hx hb dX2_init_33 (by decide) ?_
  refine va_newq (C := RX6) (N' := 4) hx hb hown (hts (.classLink RX2 9 RX6) (List.mem_of_getElem? (i := 4) rfl)) (hN.2.2.1 RX6 (List.mem_of_getElem? (i := 3) rfl)) hK hP hD hS hA (by decide) (by decide) (Nat.le_of_ble_eq_true rfl) (Nat.le_of_ble_eq_true rfl) (Nat.le_of_ble_eq_true rfl) dX2_init_34 ?_
  clear hP hD hS hK; try clear H
  intro q_10 k_11 H hK hP hD hS
  replace hP : va_P (dC, dI) vwCl [(h0, .inr (2, [.null, .null, .ref q_1, .ref q_6, .ref q_8, .null, .null, .null, .int 0, .int 0, .int 0, .int 0, .null])), (q_1, .inr (6, [.ref q_2, .ref q_3, .int 0])), (q_2, .inl (k_4, 16, .inr (.inl (fun _ => 0)))), (q_3, .inl (k_5, 16, .inr (.inl (fun _ => 0)))), (q_6, .inl (k_7, 18, .inr (.inr (.inr (.inr (fun _ => none)))))), (q_8, .inl (k_9, 3, .inr (.inr (.inr (.inr (fun _ => none)))))), (q_10, .inl (k_11, 4, .inr (.inr (.inr (.inr (fun _ => none))))))] H := hP
  replace hD : va_D A [(h0, .inr (2, [.null, .null, .ref q_1, .ref q_6, .ref q_8, .null, .null, .null, .int 0, .int 0, .int 0, .int 0, .null])), (q_1, .inr (6, [.ref q_2, .ref q_3, .int 0])), (q_2, .inl (k_4, 16, .inr (.inl (fun _ => 0)))), (q_3, .inl (k_5, 16, .inr (.inl (fun _ => 0)))), (q_6, .inl (k_7, 18, .inr (.inr (.inr (.inr (fun _ => none)))))), (q_8, .inl (k_9, 3, .inr (.inr (.inr (.inr (fun _ => none)))))), (q_10, .inl (k_11, 4, .inr (.inr (.inr (.inr (fun _ => none))))))] := hD
  replace hK : va_K (dC, dI) vwCl [(k_4, .long), (k_5, .long), (k_7, .object RX6), (k_9, .object RX6), (k_11, .object RX6)] s := hK
  refine va_putF (D := (dC, dI)) (ci := 2) (v := .ref q_10) (ty := .array (.object "MotionSigns$Poly")) (C := RX2) (T := TX2) (N := 13) hx hb hts (in_X2_init_X2) tyX2 tyX2_ok nmX2 hown hK hP hD hS 0 rfl rfl 5 (by decide) (hts (.fieldLink RX2 25 "MotionSigns$Change" "cubic" "[LMotionSigns$Poly;") (List.mem_of_getElem? (i := 10) rfl)) (fun _ h9 => h9) rfl hin rfl (tyX2_ok 5 (by decide)) rfl rfl (Nat.le_of_ble_eq_true rfl) dX2_init_37 ?_
  clear hP hD hS; try clear H
  intro H locs hP hD hS
  replace hP : va_P (dC, dI) vwCl [(h0, .inr (2, [.null, .null, .ref q_1, .ref q_6, .ref q_8, .ref q_10, .null, .null, .int 0, .int 0, .int 0, .int 0, .null])), (q_1, .inr (6, [.ref q_2, .ref q_3, .int 0])), (q_2, .inl (k_4, 16, .inr (.inl (fun _ => 0)))), (q_3, .inl (k_5, 16, .inr (.inl (fun _ => 0)))), (q_6, .inl (k_7, 18, .inr (.inr (.inr (.inr (fun _ => none)))))), (q_8, .inl (k_9, 3, .inr (.inr (.inr (.inr (fun _ => none)))))), (q_10, .inl (k_11, 4, .inr (.inr (.inr (.inr (fun _ => none))))))] H := hP
  replace hD : va_D A [(h0, .inr (2, [.null, .null, .ref q_1, .ref q_6, .ref q_8, .ref q_10, .null, .null, .int 0, .int 0, .int 0, .int 0, .null])), (q_1, .inr (6, [.ref q_2, .ref q_3, .int 0])), (q_2, .inl (k_4, 16, .inr (.inl (fun _ => 0)))), (q_3, .inl (k_5, 16, .inr (.inl (fun _ => 0)))), (q_6, .inl (k_7, 18, .inr (.inr (.inr (.inr (fun _ => none)))))), (q_8, .inl (k_9, 3, .inr (.inr (.inr (.inr (fun _ => none)))))), (q_10, .inl (k_11, 4, .inr (.inr (.inr (.inr (fun _ => none))))))] := hD
  refine lv_aload_n hx hb dX2_init_40 rfl (lv_at hl 0 rfl) ?_
  refine va_new (ci := 6) (fs := [.null, .null, .int 0]) (C := RX6) (T := TX6) (N := 3) hx hb hts (in_X2_init_X6) tyX6 tyX6_ok hown (hts (.classLink RX2 9 RX6) (List.mem_of_getElem? (i := 4) rfl)) (hts (.instantiable RX6 3) (List.mem_of_getElem? (i := 5) rfl)) (hts (.initialized RX6) (List.mem_of_getElem? (i := 6) rfl)) hK hP hD hS hA rfl (fun j hj => by rcases (show j = 0 ∨ j = 1 ∨ j = 2 by omega) with rfl | rfl | rfl <;> rfl) (Nat.le_of_ble_eq_true rfl) (Nat.le_of_ble_eq_true rfl) dX2_init_41 ?_
  clear hP hD hS; try clear H
  intro q_12 H hP hD hS
  replace hP : va_P (dC, dI) vwCl [(h0, .inr (2, [.null, .null, .ref q_1, .ref q_6, .ref q_8, .ref q_10, .null, .null, .int 0, .int 0, .int 0, .int 0, .null])), (q_1, .inr (6, [.ref q_2, .ref q_3, .int 0])), (q_2, .inl (k_4, 16, .inr (.inl (fun _ => 0)))), (q_3, .inl (k_5, 16, .inr (.inl (fun _ => 0)))), (q_6, .inl (k_7, 18, .inr (.inr (.inr (.inr (fun _ => none)))))), (q_8, .inl (k_9, 3, .inr (.inr (.inr (.inr (fun _ => none)))))), (q_10, .inl (k_11, 4, .inr (.inr (.inr (.inr (fun _ => none)))))), (q_12, .inr (6, [.null, .null, .int 0]))] H := hP
  replace hD : va_D A [(h0, .inr (2, [.null, .null, .ref q_1, .ref q_6, .ref q_8, .ref q_10, .null, .null, .int 0, .int 0, .int 0, .int 0, .null])), (q_1, .inr (6, [.ref q_2, .ref q_3, .int 0])), (q_2, .inl (k_4, 16, .inr (.inl (fun _ => 0)))), (q_3, .inl (k_5, 16, .inr (.inl (fun _ => 0)))), (q_6, .inl (k_7, 18, .inr (.inr (.inr (.inr (fun _ => none)))))), (q_8, .inl (k_9, 3, .inr (.inr (.inr (.inr (fun _ => none)))))), (q_10, .inl (k_11, 4, .inr (.inr (.inr (.inr (fun _ => none)))))), (q_12, .inr (6, [.null, .null, .int 0]))] := hD
  refine lv_dup hx hb dX2_init_44 rfl ?_
  have hPc := hP.sub (ws' := [(q_12, .inr (6, [.null, .null, .int 0]))]) [7] rfl
  have hDc := hD.sub (ws' := [(q_12, .inr (6, [.null, .null, .int 0]))]) [7] (by decide) rfl
  have hKc := hK.sub (tys' := []) [] rfl
  have hFc := va_free (wc := [(q_12, .inr (6, [.null, .null, .int 0]))]) hD hS hA [7] rfl
  refine va_callv (va_runIN (As := []) (rest := [.ref q_12, .ref h0]) ⟨hx, hb, hml, hown, hts⟩ (c_X6_init l dC dI q_12 H.size) ⟨va_cnB 0 hts gX2_init_X6_init_n11 rfl rfl rfl (hN.1 (RX2, 11, yX6_init, RX11) (List.mem_of_getElem? (i := 3) rfl)) (hts (.initialized RX6) (List.mem_of_getElem? (i := 6) rfl)) hd_X6_init ⟨Nat.le_of_ble_eq_true rfl, Nat.le_of_ble_eq_true rfl⟩, rfl, (hts (.instanceMethod yX6_init) (List.mem_of_getElem? (i := 17) rfl))⟩ ⟨fun a U g mk q => by obtain ⟨q0, q1, qP, qK, qD, qE0⟩ := q; exact ⟨q0, q1, qP, va_K.moved (u := U) (U := U.calling g mk a) (Vm.Alike.refl U.vm) qK, qD, w_N.same rfl qE0⟩, fun U hU hW => ⟨rfl, by rw [hU], by rw [hU]; exact hPc, va_K.moved hW.alike hKc, hDc.weaken (fun _ _ _ _ => trivial), w_N.warm hW hN⟩⟩ rfl rfl hl.1 rfl (lv_room (Nat.le_of_ble_eq_true rfl)) dX2_init_45 ⟨(Nat.le_of_ble_eq_true rfl), (Nat.le_of_ble_eq_true rfl)⟩) hS (fun q _ h => hFc q h) hFc (fun u t H1 locs1 ht hvm hw hB hz1 hk1 hS1 => ?_)
  obtain ⟨q_13, q_14, k_15, k_16, hP1, hK1, hD1⟩ := hB
  rw [ht] at hP1
  have hK1 := va_K.moved hvm.symm hK1
  have hJ := va_join (wr := [(h0, .inr (2, [.null, .null, .ref q_1, .ref q_6, .ref q_8, .ref q_10, .null, .null, .int 0, .int 0, .int 0, .int 0, .null])), (q_1, .inr (6, [.ref q_2, .ref q_3, .int 0])), (q_2, .inl (k_4, 16, .inr (.inl (fun _ => 0)))), (q_3, .inl (k_5, 16, .inr (.inl (fun _ => 0)))), (q_6, .inl (k_7, 18, .inr (.inr (.inr (.inr (fun _ => none)))))), (q_8, .inl (k_9, 3, .inr (.inr (.inr (.inr (fun _ => none)))))), (q_10, .inl (k_11, 4, .inr (.inr (.inr (.inr (fun _ => none))))))]) (w1 := [(q_12, .inr (6, [.ref q_13, .ref q_14, .int 0])), (q_13, .inl (k_15, 16, .inr (.inl (fun _ => 0)))), (q_14, .inl (k_16, 16, .inr (.inl (fun _ => 0))))]) hP hD [7] [0, 1, 2, 3, 4, 5, 6] rfl rfl (by decide) (by decide) hk1 hFc hP1 hD1
  clear hP hD hPc hDc hKc hFc hz1 hw; try clear hk1
  obtain ⟨hP, hD⟩ := hJ
  replace hK := (hK.sub (tys' := [(k_4, .long), (k_5, .long), (k_7, .object RX6), (k_9, .object RX6), (k_11, .object RX6)]) [0, 1, 2, 3, 4] rfl).app (hK1.sub (tys' := [(k_15, .long), (k_16, .long)]) [0, 1] rfl)
  clear hP1 hK1 hD1 hvm ht hS; try clear t
  try clear H
  revert hS1
  intro hS
  generalize H1 = H at hP hS ⊢; try clear H1
  replace hP : va_P (dC, dI) vwCl [(h0, .inr (2, [.null, .null, .ref q_1, .ref q_6, .ref q_8, .ref q_10, .null, .null, .int 0, .int 0, .int 0, .int 0, .null])), (q_1, .inr (6, [.ref q_2, .ref q_3, .int 0])), (q_2, .inl (k_4, 16, .inr (.inl (fun _ => 0)))), (q_3, .inl (k_5, 16, .inr (.inl (fun _ => 0)))), (q_6, .inl (k_7, 18, .inr (.inr (.inr (.inr (fun _ => none)))))), (q_8, .inl (k_9, 3, .inr (.inr (.inr (.inr (fun _ => none)))))), (q_10, .inl (k_11, 4, .inr (.inr (.inr (.inr (fun _ => none)))))), (q_12, .inr (6, [.ref q_13, .ref q_14, .int 0])), (q_13, .inl (k_15, 16, .inr (.inl (fun _ => 0)))), (q_14, .inl (k_16, 16, .inr (.inl (fun _ => 0))))] H := hP
  replace hD : va_D A [(h0, .inr (2, [.null, .null, .ref q_1, .ref q_6, .ref q_8, .ref q_10, .null, .null, .int 0, .int 0, .int 0, .int 0, .null])), (q_1, .inr (6, [.ref q_2, .ref q_3, .int 0])), (q_2, .inl (k_4, 16, .inr (.inl (fun _ => 0)))), (q_3, .inl (k_5, 16, .inr (.inl (fun _ => 0)))), (q_6, .inl (k_7, 18, .inr (.inr (.inr (.inr (fun _ => none)))))), (q_8, .inl (k_9, 3, .inr (.inr (.inr (.inr (fun _ => none)))))), (q_10, .inl (k_11, 4, .inr (.inr (.inr (.inr (fun _ => none)))))), (q_12, .inr (6, [.ref q_13, .ref q_14, .int 0])), (q_13, .inl (k_15, 16, .inr (.inl (fun _ => 0)))), (q_14, .inl (k_16, 16, .inr (.inl (fun _ => 0))))] := hD
  replace hK : va_K (dC, dI) vwCl [(k_4, .long), (k_5, .long), (k_7, .object RX6), (k_9, .object RX6), (k_11, .object RX6), (k_15, .long), (k_16, .long)] s := hK
  refine va_putF (D := (dC, dI)) (ci := 2) (v := .ref q_12) (ty := .object "MotionSigns$Poly") (C := RX2) (T := TX2) (N := 13) hx hb hts (in_X2_init_X2) tyX2 tyX2_ok nmX2 hown hK hP hD hS 0 rfl rfl 6 (by decide) (hts (.fieldLink RX2 28 "MotionSigns$Change" "one" "LMotionSigns$Poly;") (List.mem_of_getElem? (i := 11) rfl)) (fun _ h9 => h9) rfl hin rfl (tyX2_ok 6 (by decide)) rfl rfl (Nat.le_of_ble_eq_true rfl) dX2_init_48 ?_
  clear hP hD hS; try clear H
  intro H locs hP hD hS
  replace hP : va_P (dC, dI) vwCl [(h0, .inr (2, [.null, .null, .ref q_1, .ref q_6, .ref q_8, .ref q_10, .ref q_12, .null, .int 0, .int 0, .int 0, .int 0, .null])), (q_1, .inr (6, [.ref q_2, .ref q_3, .int 0])), (q_2, .inl (k_4, 16, .inr (.inl (fun _ => 0)))), (q_3, .inl (k_5, 16, .inr (.inl (fun _ => 0)))), (q_6, .inl (k_7, 18, .inr (.inr (.inr (.inr (fun _ => none)))))), (q_8, .inl (k_9, 3, .inr (.inr (.inr (.inr (fun _ => none)))))), (q_10, .inl (k_11, 4, .inr (.inr (.inr (.inr (fun _ => none)))))), (q_12, .inr (6, [.ref q_13, .ref q_14, .int 0])), (q_13, .inl (k_15, 16, .inr (.inl (fun _ => 0)))), (q_14, .inl (k_16, 16, .inr (.inl (fun _ => 0))))] H := hP
  replace hD : va_D A [(h0, .inr (2, [.null, .null, .ref q_1, .ref q_6, .ref q_8, .ref q_10, .ref q_12, .null, .int 0, .int 0, .int 0, .int 0, .null])), (q_1, .inr (6, [.ref q_2, .ref q_3, .int 0])), (q_2, .inl (k_4, 16, .inr (.inl (fun _ => 0)))), (q_3, .inl (k_5, 16, .inr (.inl (fun _ => 0)))), (q_6, .inl (k_7, 18, .inr (.inr (.inr (.inr (fun _ => none)))))), (q_8, .inl (k_9, 3, .inr (.inr (.inr (.inr (fun _ => none)))))), (q_10, .inl (k_11, 4, .inr (.inr (.inr (.inr (fun _ => none)))))), (q_12, .inr (6, [.ref q_13, .ref q_14, .int 0])), (q_13, .inl (k_15, 16, .inr (.inl (fun _ => 0)))), (q_14, .inl (k_16, 16, .inr (.inl (fun _ => 0))))] := hD
  refine lv_aload_n hx hb dX2_init_51 rfl (lv_at hl 0 rfl) ?_
  refine va_new (ci := 6) (fs := [.null, .null, .int 0]) (C := RX6) (T := TX6) (N := 3) hx hb hts (in_X2_init_X6) tyX6 tyX6_ok hown (hts (.classLink RX2 9 RX6) (List.mem_of_getElem? (i := 4) rfl)) (hts (.instantiable RX6 3) (List.mem_of_getElem? (i := 5) rfl)) (hts (.initialized RX6) (List.mem_of_getElem? (i := 6) rfl)) hK hP hD hS hA rfl (fun j hj => by rcases (show j = 0 ∨ j = 1 ∨ j = 2 by omega) with rfl | rfl | rfl <;> rfl) (Nat.le_of_ble_eq_true rfl) (Nat.le_of_ble_eq_true rfl) dX2_init_52 ?_
  clear hP hD hS; try clear H
  intro q_17 H hP hD hS
  replace hP : va_P (dC, dI) vwCl [(h0, .inr (2, [.null, .null, .ref q_1, .ref q_6, .ref q_8, .ref q_10, .ref q_12, .null, .int 0, .int 0, .int 0, .int 0, .null])), (q_1, .inr (6, [.ref q_2, .ref q_3, .int 0])), (q_2, .inl (k_4, 16, .inr (.inl (fun _ => 0)))), (q_3, .inl (k_5, 16, .inr (.inl (fun _ => 0)))), (q_6, .inl (k_7, 18, .inr (.inr (.inr (.inr (fun _ => none)))))), (q_8, .inl (k_9, 3, .inr (.inr (.inr (.inr (fun _ => none)))))), (q_10, .inl (k_11, 4, .inr (.inr (.inr (.inr (fun _ => none)))))), (q_12, .inr (6, [.ref q_13, .ref q_14, .int 0])), (q_13, .inl (k_15, 16, .inr (.inl (fun _ => 0)))), (q_14, .inl (k_16, 16, .inr (.inl (fun _ => 0)))), (q_17, .inr (6, [.null, .null, .int 0]))] H := hP
  replace hD : va_D A [(h0, .inr (2, [.null, .null, .ref q_1, .ref q_6, .ref q_8, .ref q_10, .ref q_12, .null, .int 0, .int 0, .int 0, .int 0, .null])), (q_1, .inr (6, [.ref q_2, .ref q_3, .int 0])), (q_2, .inl (k_4, 16, .inr (.inl (fun _ => 0)))), (q_3, .inl (k_5, 16, .inr (.inl (fun _ => 0)))), (q_6, .inl (k_7, 18, .inr (.inr (.inr (.inr (fun _ => none)))))), (q_8, .inl (k_9, 3, .inr (.inr (.inr (.inr (fun _ => none)))))), (q_10, .inl (k_11, 4, .inr (.inr (.inr (.inr (fun _ => none)))))), (q_12, .inr (6, [.ref q_13, .ref q_14, .int 0])), (q_13, .inl (k_15, 16, .inr (.inl (fun _ => 0)))), (q_14, .inl (k_16, 16, .inr (.inl (fun _ => 0)))), (q_17, .inr (6, [.null, .null, .int 0]))] := hD
  refine lv_dup hx hb dX2_init_55 rfl ?_
  have hPc := hP.sub (ws' := [(q_17, .inr (6, [.null, .null, .int 0]))]) [10] rfl
  have hDc := hD.sub (ws' := [(q_17, .inr (6, [.null, .null, .int 0]))]) [10] (by decide) rfl
  have hKc := hK.sub (tys' := []) [] rfl
  have hFc := va_free (wc := [(q_17, .inr (6, [.null, .null, .int 0]))]) hD hS hA [10] rfl
  refine va_callv (va_runIN (As := []) (rest := [.ref q_17, .ref h0]) ⟨hx, hb, hml, hown, hts⟩ (c_X6_init l dC dI q_17 H.size) ⟨va_cnB 0 hts gX2_init_X6_init_n11 rfl rfl rfl (hN.1 (RX2, 11, yX6_init, RX11) (List.mem_of_getElem? (i := 3) rfl)) (hts (.initialized RX6) (List.mem_of_getElem? (i := 6) rfl)) hd_X6_init ⟨Nat.le_of_ble_eq_true rfl, Nat.le_of_ble_eq_true rfl⟩, rfl, (hts (.instanceMethod yX6_init) (List.mem_of_getElem? (i := 17) rfl))⟩ ⟨fun a U g mk q => by obtain ⟨q0, q1, qP, qK, qD, qE0⟩ := q; exact ⟨q0, q1, qP, va_K.moved (u := U) (U := U.calling g mk a) (Vm.Alike.refl U.vm) qK, qD, w_N.same rfl qE0⟩, fun U hU hW => ⟨rfl, by rw [hU], by rw [hU]; exact hPc, va_K.moved hW.alike hKc, hDc.weaken (fun _ _ _ _ => trivial), w_N.warm hW hN⟩⟩ rfl rfl hl.1 rfl (lv_room (Nat.le_of_ble_eq_true rfl)) dX2_init_56 ⟨(Nat.le_of_ble_eq_true rfl), (Nat.le_of_ble_eq_true rfl)⟩) hS (fun q _ h => hFc q h) hFc (fun u t H1 locs1 ht hvm hw hB hz1 hk1 hS1 => ?_)
  obtain ⟨q_18, q_19, k_20, k_21, hP1, hK1, hD1⟩ := hB
  rw [ht] at hP1
  have hK1 := va_K.moved hvm.symm hK1
  have hJ := va_join (wr := [(h0, .inr (2, [.null, .null, .ref q_1, .ref q_6, .ref q_8, .ref q_10, .ref q_12, .null, .int 0, .int 0, .int 0, .int 0, .null])), (q_1, .inr (6, [.ref q_2, .ref q_3, .int 0])), (q_2, .inl (k_4, 16, .inr (.inl (fun _ => 0)))), (q_3, .inl (k_5, 16, .inr (.inl (fun _ => 0)))), (q_6, .inl (k_7, 18, .inr (.inr (.inr (.inr (fun _ => none)))))), (q_8, .inl (k_9, 3, .inr (.inr (.inr (.inr (fun _ => none)))))), (q_10, .inl (k_11, 4, .inr (.inr (.inr (.inr (fun _ => none)))))), (q_12, .inr (6, [.ref q_13, .ref q_14, .int 0])), (q_13, .inl (k_15, 16, .inr (.inl (fun _ => 0)))), (q_14, .inl (k_16, 16, .inr (.inl (fun _ => 0))))]) (w1 := [(q_17, .inr (6, [.ref q_18, .ref q_19, .int 0])), (q_18, .inl (k_20, 16, .inr (.inl (fun _ => 0)))), (q_19, .inl (k_21, 16, .inr (.inl (fun _ => 0))))]) hP hD [10] [0, 1, 2, 3, 4, 5, 6, 7, 8, 9] rfl rfl (by decide) (by decide) hk1 hFc hP1 hD1
  clear hP hD hPc hDc hKc hFc hz1 hw; try clear hk1
  obtain ⟨hP, hD⟩ := hJ
  replace hK := (hK.sub (tys' := [(k_4, .long), (k_5, .long), (k_7, .object RX6), (k_9, .object RX6), (k_11, .object RX6), (k_15, .long), (k_16, .long)]) [0, 1, 2, 3, 4, 5, 6] rfl).app (hK1.sub (tys' := [(k_20, .long), (k_21, .long)]) [0, 1] rfl)
  clear hP1 hK1 hD1 hvm ht hS; try clear t
  try clear H
  revert hS1
  intro hS
  generalize H1 = H at hP hS ⊢; try clear H1
  replace hP : va_P (dC, dI) vwCl [(h0, .inr (2, [.null, .null, .ref q_1, .ref q_6, .ref q_8, .ref q_10, .ref q_12, .null, .int 0, .int 0, .int 0, .int 0, .null])), (q_1, .inr (6, [.ref q_2, .ref q_3, .int 0])), (q_2, .inl (k_4, 16, .inr (.inl (fun _ => 0)))), (q_3, .inl (k_5, 16, .inr (.inl (fun _ => 0)))), (q_6, .inl (k_7, 18, .inr (.inr (.inr (.inr (fun _ => none)))))), (q_8, .inl (k_9, 3, .inr (.inr (.inr (.inr (fun _ => none)))))), (q_10, .inl (k_11, 4, .inr (.inr (.inr (.inr (fun _ => none)))))), (q_12, .inr (6, [.ref q_13, .ref q_14, .int 0])), (q_13, .inl (k_15, 16, .inr (.inl (fun _ => 0)))), (q_14, .inl (k_16, 16, .inr (.inl (fun _ => 0)))), (q_17, .inr (6, [.ref q_18, .ref q_19, .int 0])), (q_18, .inl (k_20, 16, .inr (.inl (fun _ => 0)))), (q_19, .inl (k_21, 16, .inr (.inl (fun _ => 0))))] H := hP
  replace hD : va_D A [(h0, .inr (2, [.null, .null, .ref q_1, .ref q_6, .ref q_8, .ref q_10, .ref q_12, .null, .int 0, .int 0, .int 0, .int 0, .null])), (q_1, .inr (6, [.ref q_2, .ref q_3, .int 0])), (q_2, .inl (k_4, 16, .inr (.inl (fun _ => 0)))), (q_3, .inl (k_5, 16, .inr (.inl (fun _ => 0)))), (q_6, .inl (k_7, 18, .inr (.inr (.inr (.inr (fun _ => none)))))), (q_8, .inl (k_9, 3, .inr (.inr (.inr (.inr (fun _ => none)))))), (q_10, .inl (k_11, 4, .inr (.inr (.inr (.inr (fun _ => none)))))), (q_12, .inr (6, [.ref q_13, .ref q_14, .int 0])), (q_13, .inl (k_15, 16, .inr (.inl (fun _ => 0)))), (q_14, .inl (k_16, 16, .inr (.inl (fun _ => 0)))), (q_17, .inr (6, [.ref q_18, .ref q_19, .int 0])), (q_18, .inl (k_20, 16, .inr (.inl (fun _ => 0)))), (q_19, .inl (k_21, 16, .inr (.inl (fun _ => 0))))] := hD
  replace hK : va_K (dC, dI) vwCl [(k_4, .long), (k_5, .long), (k_7, .object RX6), (k_9, .object RX6), (k_11, .object RX6), (k_15, .long), (k_16, .long), (k_20, .long), (k_21, .long)] s := hK
  refine va_putF (D := (dC, dI)) (ci := 2) (v := .ref q_17) (ty := .object "MotionSigns$Poly") (C := RX2) (T := TX2) (N := 13) hx hb hts (in_X2_init_X2) tyX2 tyX2_ok nmX2 hown hK hP hD hS 0 rfl rfl 7 (by decide) (hts (.fieldLink RX2 31 "MotionSigns$Change" "two" "LMotionSigns$Poly;") (List.mem_of_getElem? (i := 12) rfl)) (fun _ h9 => h9) rfl hin rfl (tyX2_ok 7 (by decide)) rfl rfl (Nat.le_of_ble_eq_true rfl) dX2_init_59 ?_
  clear hP hD hS; try clear H
  intro H locs hP hD hS
  replace hP : va_P (dC, dI) vwCl [(h0, .inr (2, [.null, .null, .ref q_1, .ref q_6, .ref q_8, .ref q_10, .ref q_12, .ref q_17, .int 0, .int 0, .int 0, .int 0, .null])), (q_1, .inr (6, [.ref q_2, .ref q_3, .int 0])), (q_2, .inl (k_4, 16, .inr (.inl (fun _ => 0)))), (q_3, .inl (k_5, 16, .inr (.inl (fun _ => 0)))), (q_6, .inl (k_7, 18, .inr (.inr (.inr (.inr (fun _ => none)))))), (q_8, .inl (k_9, 3, .inr (.inr (.inr (.inr (fun _ => none)))))), (q_10, .inl (k_11, 4, .inr (.inr (.inr (.inr (fun _ => none)))))), (q_12, .inr (6, [.ref q_13, .ref q_14, .int 0])), (q_13, .inl (k_15, 16, .inr (.inl (fun _ => 0)))), (q_14, .inl (k_16, 16, .inr (.inl (fun _ => 0)))), (q_17, .inr (6, [.ref q_18, .ref q_19, .int 0])), (q_18, .inl (k_20, 16, .inr (.inl (fun _ => 0)))), (q_19, .inl (k_21, 16, .inr (.inl (fun _ => 0))))] H := hP
  replace hD : va_D A [(h0, .inr (2, [.null, .null, .ref q_1, .ref q_6, .ref q_8, .ref q_10, .ref q_12, .ref q_17, .int 0, .int 0, .int 0, .int 0, .null])), (q_1, .inr (6, [.ref q_2, .ref q_3, .int 0])), (q_2, .inl (k_4, 16, .inr (.inl (fun _ => 0)))), (q_3, .inl (k_5, 16, .inr (.inl (fun _ => 0)))), (q_6, .inl (k_7, 18, .inr (.inr (.inr (.inr (fun _ => none)))))), (q_8, .inl (k_9, 3, .inr (.inr (.inr (.inr (fun _ => none)))))), (q_10, .inl (k_11, 4, .inr (.inr (.inr (.inr (fun _ => none)))))), (q_12, .inr (6, [.ref q_13, .ref q_14, .int 0])), (q_13, .inl (k_15, 16, .inr (.inl (fun _ => 0)))), (q_14, .inl (k_16, 16, .inr (.inl (fun _ => 0)))), (q_17, .inr (6, [.ref q_18, .ref q_19, .int 0])), (q_18, .inl (k_20, 16, .inr (.inl (fun _ => 0)))), (q_19, .inl (k_21, 16, .inr (.inl (fun _ => 0))))] := hD
  refine lv_aload_n hx hb dX2_init_62 rfl (lv_at hl 0 rfl) ?_
  refine lv_iconst (v := 2) hx hb dX2_init_63 (by decide) ?_
  refine va_newa (atype := .int) (ty := .int) (N' := 2) (a0 := (2, .inl (fun _ => 0))) hx hb (hts (.arrayClass .int) (List.mem_of_getElem? (i := 13) rfl)) rfl hK hP hD hS hA (fun _ => rfl) (by decide) (by decide) (Nat.le_of_ble_eq_true rfl) (Nat.le_of_ble_eq_true rfl) (Nat.le_of_ble_eq_true rfl) dX2_init_64 ?_
  clear hP hD hS hK; try clear H
  intro q_22 k_23 H hK hP hD hS
  replace hP : va_P (dC, dI) vwCl [(h0, .inr (2, [.null, .null, .ref q_1, .ref q_6, .ref q_8, .ref q_10, .ref q_12, .ref q_17, .int 0, .int 0, .int 0, .int 0, .null])), (q_1, .inr (6, [.ref q_2, .ref q_3, .int 0])), (q_2, .inl (k_4, 16, .inr (.inl (fun _ => 0)))), (q_3, .inl (k_5, 16, .inr (.inl (fun _ => 0)))), (q_6, .inl (k_7, 18, .inr (.inr (.inr (.inr (fun _ => none)))))), (q_8, .inl (k_9, 3, .inr (.inr (.inr (.inr (fun _ => none)))))), (q_10, .inl (k_11, 4, .inr (.inr (.inr (.inr (fun _ => none)))))), (q_12, .inr (6, [.ref q_13, .ref q_14, .int 0])), (q_13, .inl (k_15, 16, .inr (.inl (fun _ => 0)))), (q_14, .inl (k_16, 16, .inr (.inl (fun _ => 0)))), (q_17, .inr (6, [.ref q_18, .ref q_19, .int 0])), (q_18, .inl (k_20, 16, .inr (.inl (fun _ => 0)))), (q_19, .inl (k_21, 16, .inr (.inl (fun _ => 0)))), (q_22, .inl (k_23, 2, .inl (fun _ => 0)))] H := hP
  replace hD : va_D A [(h0, .inr (2, [.null, .null, .ref q_1, .ref q_6, .ref q_8, .ref q_10, .ref q_12, .ref q_17, .int 0, .int 0, .int 0, .int 0, .null])), (q_1, .inr (6, [.ref q_2, .ref q_3, .int 0])), (q_2, .inl (k_4, 16, .inr (.inl (fun _ => 0)))), (q_3, .inl (k_5, 16, .inr (.inl (fun _ => 0)))), (q_6, .inl (k_7, 18, .inr (.inr (.inr (.inr (fun _ => none)))))), (q_8, .inl (k_9, 3, .inr (.inr (.inr (.inr (fun _ => none)))))), (q_10, .inl (k_11, 4, .inr (.inr (.inr (.inr (fun _ => none)))))), (q_12, .inr (6, [.ref q_13, .ref q_14, .int 0])), (q_13, .inl (k_15, 16, .inr (.inl (fun _ => 0)))), (q_14, .inl (k_16, 16, .inr (.inl (fun _ => 0)))), (q_17, .inr (6, [.ref q_18, .ref q_19, .int 0])), (q_18, .inl (k_20, 16, .inr (.inl (fun _ => 0)))), (q_19, .inl (k_21, 16, .inr (.inl (fun _ => 0)))), (q_22, .inl (k_23, 2, .inl (fun _ => 0)))] := hD
  replace hK : va_K (dC, dI) vwCl [(k_4, .long), (k_5, .long), (k_7, .object RX6), (k_9, .object RX6), (k_11, .object RX6), (k_15, .long), (k_16, .long), (k_20, .long), (k_21, .long), (k_23, .int)] s := hK
  refine va_putF (D := (dC, dI)) (ci := 2) (v := .ref q_22) (ty := .array .int) (C := RX2) (T := TX2) (N := 13) hx hb hts (in_X2_init_X2) tyX2 tyX2_ok nmX2 hown hK hP hD hS 0 rfl rfl 12 (by decide) (hts (.fieldLink RX2 34 "MotionSigns$Change" "testTerms" "[I") (List.mem_of_getElem? (i := 14) rfl)) (fun _ h9 => h9) rfl hin rfl (tyX2_ok 12 (by decide)) rfl rfl (Nat.le_of_ble_eq_true rfl) dX2_init_66 ?_
  clear hP hD hS; try clear H
  intro H locs hP hD hS
  replace hP : va_P (dC, dI) vwCl [(h0, .inr (2, [.null, .null, .ref q_1, .ref q_6, .ref q_8, .ref q_10, .ref q_12, .ref q_17, .int 0, .int 0, .int 0, .int 0, .ref q_22])), (q_1, .inr (6, [.ref q_2, .ref q_3, .int 0])), (q_2, .inl (k_4, 16, .inr (.inl (fun _ => 0)))), (q_3, .inl (k_5, 16, .inr (.inl (fun _ => 0)))), (q_6, .inl (k_7, 18, .inr (.inr (.inr (.inr (fun _ => none)))))), (q_8, .inl (k_9, 3, .inr (.inr (.inr (.inr (fun _ => none)))))), (q_10, .inl (k_11, 4, .inr (.inr (.inr (.inr (fun _ => none)))))), (q_12, .inr (6, [.ref q_13, .ref q_14, .int 0])), (q_13, .inl (k_15, 16, .inr (.inl (fun _ => 0)))), (q_14, .inl (k_16, 16, .inr (.inl (fun _ => 0)))), (q_17, .inr (6, [.ref q_18, .ref q_19, .int 0])), (q_18, .inl (k_20, 16, .inr (.inl (fun _ => 0)))), (q_19, .inl (k_21, 16, .inr (.inl (fun _ => 0)))), (q_22, .inl (k_23, 2, .inl (fun _ => 0)))] H := hP
  replace hD : va_D A [(h0, .inr (2, [.null, .null, .ref q_1, .ref q_6, .ref q_8, .ref q_10, .ref q_12, .ref q_17, .int 0, .int 0, .int 0, .int 0, .ref q_22])), (q_1, .inr (6, [.ref q_2, .ref q_3, .int 0])), (q_2, .inl (k_4, 16, .inr (.inl (fun _ => 0)))), (q_3, .inl (k_5, 16, .inr (.inl (fun _ => 0)))), (q_6, .inl (k_7, 18, .inr (.inr (.inr (.inr (fun _ => none)))))), (q_8, .inl (k_9, 3, .inr (.inr (.inr (.inr (fun _ => none)))))), (q_10, .inl (k_11, 4, .inr (.inr (.inr (.inr (fun _ => none)))))), (q_12, .inr (6, [.ref q_13, .ref q_14, .int 0])), (q_13, .inl (k_15, 16, .inr (.inl (fun _ => 0)))), (q_14, .inl (k_16, 16, .inr (.inl (fun _ => 0)))), (q_17, .inr (6, [.ref q_18, .ref q_19, .int 0])), (q_18, .inl (k_20, 16, .inr (.inl (fun _ => 0)))), (q_19, .inl (k_21, 16, .inr (.inl (fun _ => 0)))), (q_22, .inl (k_23, 2, .inl (fun _ => 0)))] := hD
  refine lv_aload_n hx hb dX2_init_69 rfl (lv_at hl 0 rfl) ?_
  refine lv_aload_n hx hb dX2_init_70 rfl (lv_at hl 1 rfl) ?_
  refine va_putF (D := (dC, dI)) (ci := 2) (v := .ref asc) (ty := .object "MotionSigns$Tally") (C := RX2) (T := TX2) (N := 13) hx hb hts (in_X2_init_X2) tyX2 tyX2_ok nmX2 hown hK hP hD hS 0 rfl rfl 0 (by decide) (hts (.fieldLink RX2 38 "MotionSigns$Change" "scratch" "LMotionSigns$Tally;") (List.mem_of_getElem? (i := 15) rfl)) (fun _ h9 => h9) rfl hin rfl (tyX2_ok 0 (by decide)) rfl rfl (Nat.le_of_ble_eq_true rfl) dX2_init_71 ?_
  clear hP hD hS; try clear H
  intro H locs hP hD hS
  replace hP : va_P (dC, dI) vwCl [(h0, .inr (2, [.ref asc, .null, .ref q_1, .ref q_6, .ref q_8, .ref q_10, .ref q_12, .ref q_17, .int 0, .int 0, .int 0, .int 0, .ref q_22])), (q_1, .inr (6, [.ref q_2, .ref q_3, .int 0])), (q_2, .inl (k_4, 16, .inr (.inl (fun _ => 0)))), (q_3, .inl (k_5, 16, .inr (.inl (fun _ => 0)))), (q_6, .inl (k_7, 18, .inr (.inr (.inr (.inr (fun _ => none)))))), (q_8, .inl (k_9, 3, .inr (.inr (.inr (.inr (fun _ => none)))))), (q_10, .inl (k_11, 4, .inr (.inr (.inr (.inr (fun _ => none)))))), (q_12, .inr (6, [.ref q_13, .ref q_14, .int 0])), (q_13, .inl (k_15, 16, .inr (.inl (fun _ => 0)))), (q_14, .inl (k_16, 16, .inr (.inl (fun _ => 0)))), (q_17, .inr (6, [.ref q_18, .ref q_19, .int 0])), (q_18, .inl (k_20, 16, .inr (.inl (fun _ => 0)))), (q_19, .inl (k_21, 16, .inr (.inl (fun _ => 0)))), (q_22, .inl (k_23, 2, .inl (fun _ => 0)))] H := hP
  replace hD : va_D A [(h0, .inr (2, [.ref asc, .null, .ref q_1, .ref q_6, .ref q_8, .ref q_10, .ref q_12, .ref q_17, .int 0, .int 0, .int 0, .int 0, .ref q_22])), (q_1, .inr (6, [.ref q_2, .ref q_3, .int 0])), (q_2, .inl (k_4, 16, .inr (.inl (fun _ => 0)))), (q_3, .inl (k_5, 16, .inr (.inl (fun _ => 0)))), (q_6, .inl (k_7, 18, .inr (.inr (.inr (.inr (fun _ => none)))))), (q_8, .inl (k_9, 3, .inr (.inr (.inr (.inr (fun _ => none)))))), (q_10, .inl (k_11, 4, .inr (.inr (.inr (.inr (fun _ => none)))))), (q_12, .inr (6, [.ref q_13, .ref q_14, .int 0])), (q_13, .inl (k_15, 16, .inr (.inl (fun _ => 0)))), (q_14, .inl (k_16, 16, .inr (.inl (fun _ => 0)))), (q_17, .inr (6, [.ref q_18, .ref q_19, .int 0])), (q_18, .inl (k_20, 16, .inr (.inl (fun _ => 0)))), (q_19, .inl (k_21, 16, .inr (.inl (fun _ => 0)))), (q_22, .inl (k_23, 2, .inl (fun _ => 0)))] := hD
  refine lv_aload_n hx hb dX2_init_74 rfl (lv_at hl 0 rfl) ?_
  refine lv_aload_n hx hb dX2_init_75 rfl (lv_at hl 2 rfl) ?_
  refine va_putF (D := (dC, dI)) (ci := 2) (v := .ref ag) (ty := .object "MotionSigns$Tally") (C := RX2) (T := TX2) (N := 13) hx hb hts (in_X2_init_X2) tyX2 tyX2_ok nmX2 hown hK hP hD hS 0 rfl rfl 1 (by decide) (hts (.fieldLink RX2 42 "MotionSigns$Change" "gather" "LMotionSigns$Tally;") (List.mem_of_getElem? (i := 16) rfl)) (fun _ h9 => h9) rfl hin rfl (tyX2_ok 1 (by decide)) rfl rfl (Nat.le_of_ble_eq_true rfl) dX2_init_76 ?_
  clear hP hD hS; try clear H
  intro H locs hP hD hS
  replace hP : va_P (dC, dI) vwCl [(h0, .inr (2, [.ref asc, .ref ag, .ref q_1, .ref q_6, .ref q_8, .ref q_10, .ref q_12, .ref q_17, .int 0, .int 0, .int 0, .int 0, .ref q_22])), (q_1, .inr (6, [.ref q_2, .ref q_3, .int 0])), (q_2, .inl (k_4, 16, .inr (.inl (fun _ => 0)))), (q_3, .inl (k_5, 16, .inr (.inl (fun _ => 0)))), (q_6, .inl (k_7, 18, .inr (.inr (.inr (.inr (fun _ => none)))))), (q_8, .inl (k_9, 3, .inr (.inr (.inr (.inr (fun _ => none)))))), (q_10, .inl (k_11, 4, .inr (.inr (.inr (.inr (fun _ => none)))))), (q_12, .inr (6, [.ref q_13, .ref q_14, .int 0])), (q_13, .inl (k_15, 16, .inr (.inl (fun _ => 0)))), (q_14, .inl (k_16, 16, .inr (.inl (fun _ => 0)))), (q_17, .inr (6, [.ref q_18, .ref q_19, .int 0])), (q_18, .inl (k_20, 16, .inr (.inl (fun _ => 0)))), (q_19, .inl (k_21, 16, .inr (.inl (fun _ => 0)))), (q_22, .inl (k_23, 2, .inl (fun _ => 0)))] H := hP
  replace hD : va_D A [(h0, .inr (2, [.ref asc, .ref ag, .ref q_1, .ref q_6, .ref q_8, .ref q_10, .ref q_12, .ref q_17, .int 0, .int 0, .int 0, .int 0, .ref q_22])), (q_1, .inr (6, [.ref q_2, .ref q_3, .int 0])), (q_2, .inl (k_4, 16, .inr (.inl (fun _ => 0)))), (q_3, .inl (k_5, 16, .inr (.inl (fun _ => 0)))), (q_6, .inl (k_7, 18, .inr (.inr (.inr (.inr (fun _ => none)))))), (q_8, .inl (k_9, 3, .inr (.inr (.inr (.inr (fun _ => none)))))), (q_10, .inl (k_11, 4, .inr (.inr (.inr (.inr (fun _ => none)))))), (q_12, .inr (6, [.ref q_13, .ref q_14, .int 0])), (q_13, .inl (k_15, 16, .inr (.inl (fun _ => 0)))), (q_14, .inl (k_16, 16, .inr (.inl (fun _ => 0)))), (q_17, .inr (6, [.ref q_18, .ref q_19, .int 0])), (q_18, .inl (k_20, 16, .inr (.inl (fun _ => 0)))), (q_19, .inl (k_21, 16, .inr (.inl (fun _ => 0)))), (q_22, .inl (k_23, 2, .inl (fun _ => 0)))] := hD
  refine lv_iconst (v := 0) hx hb dX2_init_79 (by decide) ?_
  refine lv_istore_n (lv' := [(3, .int 0), (0, .ref h0), (1, .ref asc), (2, .ref ag)]) hx hb dX2_init_80 rfl hl (by decide) rfl (fun ls hl => ?_)
  replace hP := hP.sub (ws' := [(h0, .inr (2, [.ref asc, .ref ag, .ref q_1, .ref q_6, .ref q_8, .ref q_10, .ref q_12, .ref q_17, .int 0, .int 0, .int 0, .int 0, .ref q_22])), (q_1, .inr (6, [.ref q_2, .ref q_3, .int 0])), (q_2, .inl (k_4, 16, .inr (.inl (fun _ => 0)))), (q_3, .inl (k_5, 16, .inr (.inl (fun _ => 0)))), (q_6, .inl (k_7, 18, .inr (.inr (.inr (.inr (fun _ => none)))))), (q_8, .inl (k_9, 3, .inr (.inr (.inr (.inr (fun _ => none)))))), (q_10, .inl (k_11, 4, .inr (.inr (.inr (.inr (fun _ => none))))))]) [0, 1, 2, 3, 4, 5, 6] rfl
  replace hD := hD.sub (ws' := [(h0, .inr (2, [.ref asc, .ref ag, .ref q_1, .ref q_6, .ref q_8, .ref q_10, .ref q_12, .ref q_17, .int 0, .int 0, .int 0, .int 0, .ref q_22])), (q_1, .inr (6, [.ref q_2, .ref q_3, .int 0])), (q_2, .inl (k_4, 16, .inr (.inl (fun _ => 0)))), (q_3, .inl (k_5, 16, .inr (.inl (fun _ => 0)))), (q_6, .inl (k_7, 18, .inr (.inr (.inr (.inr (fun _ => none)))))), (q_8, .inl (k_9, 3, .inr (.inr (.inr (.inr (fun _ => none)))))), (q_10, .inl (k_11, 4, .inr (.inr (.inr (.inr (fun _ => none))))))]) [0, 1, 2, 3, 4, 5, 6] (by decide) rfl
  have key_27 : ∀ (n_26 i_24 : Nat) (x_25 : Int32) (f_28 : Nat → Option Nat) (H : Heap) (locs : List Loc) (ls : Array Slot), 0 ≤ i_24 → i_24 ≤ 18 → 18 - i_24 < n_26 → x_25 = nI i_24 → va_P (dC, dI) vwCl [(h0, .inr (2, [.ref asc, .ref ag, .ref q_1, .ref q_6, .ref q_8, .ref q_10, .ref q_12, .ref q_17, .int 0, .int 0, .int 0, .int 0, .ref q_22])), (q_1, .inr (6, [.ref q_2, .ref q_3, .int 0])), (q_2, .inl (k_4, 16, .inr (.inl (fun _ => 0)))), (q_3, .inl (k_5, 16, .inr (.inl (fun _ => 0)))), (q_6, .inl (k_7, 18, .inr (.inr (.inr (.inr f_28))))), (q_8, .inl (k_9, 3, .inr (.inr (.inr (.inr (fun _ => none)))))), (q_10, .inl (k_11, 4, .inr (.inr (.inr (.inr (fun _ => none))))))] H → va_D A [(h0, .inr (2, [.ref asc, .ref ag, .ref q_1, .ref q_6, .ref q_8, .ref q_10, .ref q_12, .ref q_17, .int 0, .int 0, .int 0, .int 0, .ref q_22])), (q_1, .inr (6, [.ref q_2, .ref q_3, .int 0])), (q_2, .inl (k_4, 16, .inr (.inl (fun _ => 0)))), (q_3, .inl (k_5, 16, .inr (.inl (fun _ => 0)))), (q_6, .inl (k_7, 18, .inr (.inr (.inr (.inr f_28))))), (q_8, .inl (k_9, 3, .inr (.inr (.inr (.inr (fun _ => none)))))), (q_10, .inl (k_11, 4, .inr (.inr (.inr (.inr (fun _ => none))))))] → va_S A s.heap H locs → lv_has ls 4 [(3, .int x_25), (0, .ref h0), (1, .ref asc), (2, .ref ag)] → W p l e ({ frames := 2, cells := 88, slots := 1007, locals := 32 } : Room) s m ([.ref h0, .ref asc, .ref ag] : List Value).toArray below meth c H locs (13 + 3 * i_24) (132 + 35 * i_24) Q0 (F0 m 81 ls []) := by
    intro n_26
    induction n_26 with
    | zero =>
      intro i_24 x_25 f_28 H locs ls h0 h1 h2
      exact absurd h2 (by omega)
    | succ n_26 ihkey_27 =>
      intro i_24 x_25 f_28 H locs ls hbi_24 hii_24 hni_24 ex_25 hP hD hS hl
      refine lv_iload_n hx hb dX2_init_81 rfl (lv_at hl 0 rfl) ?_
      refine lv_aload_n hx hb dX2_init_82 rfl (lv_at hl 1 rfl) ?_
      refine va_get (D := (dC, dI)) (ci := 2) (v := .ref q_6) (C := RX2) (T := TX2) (N := 13) hx hb hts (in_X2_init_X2) hown hK hP 0 rfl rfl 3 (by decide) (hts (.fieldLink RX2 18 "MotionSigns$Change" "rule" "[LMotionSigns$Poly;") (List.mem_of_getElem? (i := 8) rfl)) (fun _ h9 => h9) rfl dX2_init_83 ?_
      refine va_alen (v := 18) hx hb hK hP 4 2 rfl rfl rfl dX2_init_86 ?_
      refine lv_icmp_ge (tgt := 109) hx hb dX2_init_87 (by decide) (fun hi_24 => ?_) (fun hi_24 => ?_)
      · have hEi_24 : i_24 = 18 := by
          rcases Nat.lt_or_ge i_24 18 with q | q
          · exact absurd hi_24 (by rw [ex_25]; exact nI_ge (b := 18) q (by omega))
          · omega
        subst hEi_24
        refine W.widen (k := 67) (n := 762) (by omega) (by omega) ?_
        refine lv_iconst (v := 0) hx hb dX2_init_109 (by decide) ?_
        refine lv_istore_n (lv' := [(3, .int 0), (0, .ref h0), (1, .ref asc), (2, .ref ag)]) hx hb dX2_init_110 rfl hl (by decide) rfl (fun ls hl => ?_)
        replace hP := hP.sub (ws' := [(h0, .inr (2, [.ref asc, .ref ag, .ref q_1, .ref q_6, .ref q_8, .ref q_10, .ref q_12, .ref q_17, .int 0, .int 0, .int 0, .int 0, .ref q_22])), (q_1, .inr (6, [.ref q_2, .ref q_3, .int 0])), (q_2, .inl (k_4, 16, .inr (.inl (fun _ => 0)))), (q_3, .inl (k_5, 16, .inr (.inl (fun _ => 0)))), (q_8, .inl (k_9, 3, .inr (.inr (.inr (.inr (fun _ => none)))))), (q_10, .inl (k_11, 4, .inr (.inr (.inr (.inr (fun _ => none))))))]) [0, 1, 2, 3, 5, 6] rfl
        replace hD := hD.sub (ws' := [(h0, .inr (2, [.ref asc, .ref ag, .ref q_1, .ref q_6, .ref q_8, .ref q_10, .ref q_12, .ref q_17, .int 0, .int 0, .int 0, .int 0, .ref q_22])), (q_1, .inr (6, [.ref q_2, .ref q_3, .int 0])), (q_2, .inl (k_4, 16, .inr (.inl (fun _ => 0)))), (q_3, .inl (k_5, 16, .inr (.inl (fun _ => 0)))), (q_8, .inl (k_9, 3, .inr (.inr (.inr (.inr (fun _ => none)))))), (q_10, .inl (k_11, 4, .inr (.inr (.inr (.inr (fun _ => none))))))]) [0, 1, 2, 3, 5, 6] (by decide) rfl
        have key_32 : ∀ (n_31 i_29 : Nat) (x_30 : Int32) (f_33 : Nat → Option Nat) (H : Heap) (locs : List Loc) (ls : Array Slot), 0 ≤ i_29 → i_29 ≤ 3 → 3 - i_29 < n_31 → x_30 = nI i_29 → va_P (dC, dI) vwCl [(h0, .inr (2, [.ref asc, .ref ag, .ref q_1, .ref q_6, .ref q_8, .ref q_10, .ref q_12, .ref q_17, .int 0, .int 0, .int 0, .int 0, .ref q_22])), (q_1, .inr (6, [.ref q_2, .ref q_3, .int 0])), (q_2, .inl (k_4, 16, .inr (.inl (fun _ => 0)))), (q_3, .inl (k_5, 16, .inr (.inl (fun _ => 0)))), (q_8, .inl (k_9, 3, .inr (.inr (.inr (.inr f_33))))), (q_10, .inl (k_11, 4, .inr (.inr (.inr (.inr (fun _ => none))))))] H → va_D A [(h0, .inr (2, [.ref asc, .ref ag, .ref q_1, .ref q_6, .ref q_8, .ref q_10, .ref q_12, .ref q_17, .int 0, .int 0, .int 0, .int 0, .ref q_22])), (q_1, .inr (6, [.ref q_2, .ref q_3, .int 0])), (q_2, .inl (k_4, 16, .inr (.inl (fun _ => 0)))), (q_3, .inl (k_5, 16, .inr (.inl (fun _ => 0)))), (q_8, .inl (k_9, 3, .inr (.inr (.inr (.inr f_33))))), (q_10, .inl (k_11, 4, .inr (.inr (.inr (.inr (fun _ => none))))))] → va_S A s.heap H locs → lv_has ls 4 [(3, .int x_30), (0, .ref h0), (1, .ref asc), (2, .ref ag)] → W p l e ({ frames := 2, cells := 88, slots := 1007, locals := 32 } : Room) s m ([.ref h0, .ref asc, .ref ag] : List Value).toArray below meth c H locs (67 + 3 * i_29) (762 + 35 * i_29) Q0 (F0 m 111 ls []) := by
          intro n_31
          induction n_31 with
          | zero =>
            intro i_29 x_30 f_33 H locs ls h0 h1 h2
            exact absurd h2 (by omega)
          | succ n_31 ihkey_32 =>
            intro i_29 x_30 f_33 H locs ls hbi_29 hii_29 hni_29 ex_30 hP hD hS hl
            refine lv_iload_n hx hb dX2_init_111 rfl (lv_at hl 0 rfl) ?_
            refine lv_aload_n hx hb dX2_init_112 rfl (lv_at hl 1 rfl) ?_
            refine va_get (D := (dC, dI)) (ci := 2) (v := .ref q_8) (C := RX2) (T := TX2) (N := 13) hx hb hts (in_X2_init_X2) hown hK hP 0 rfl rfl 4 (by decide) (hts (.fieldLink RX2 22 "MotionSigns$Change" "slope" "[LMotionSigns$Poly;") (List.mem_of_getElem? (i := 9) rfl)) (fun _ h9 => h9) rfl dX2_init_113 ?_
            refine va_alen (v := 3) hx hb hK hP 4 3 rfl rfl rfl dX2_init_116 ?_
            refine lv_icmp_ge (tgt := 139) hx hb dX2_init_117 (by decide) (fun hi_29 => ?_) (fun hi_29 => ?_)
            · have hEi_29 : i_29 = 3 := by
                rcases Nat.lt_or_ge i_29 3 with q | q
                · exact absurd hi_29 (by rw [ex_30]; exact nI_ge (b := 3) q (by omega))
                · omega
              subst hEi_29
              refine W.widen (k := 76) (n := 867) (by omega) (by omega) ?_
              refine lv_iconst (v := 0) hx hb dX2_init_139 (by decide) ?_
              refine lv_istore_n (lv' := [(3, .int 0), (0, .ref h0), (1, .ref asc), (2, .ref ag)]) hx hb dX2_init_140 rfl hl (by decide) rfl (fun ls hl => ?_)
              replace hP := hP.sub (ws' := [(h0, .inr (2, [.ref asc, .ref ag, .ref q_1, .ref q_6, .ref q_8, .ref q_10, .ref q_12, .ref q_17, .int 0, .int 0, .int 0, .int 0, .ref q_22])), (q_1, .inr (6, [.ref q_2, .ref q_3, .int 0])), (q_2, .inl (k_4, 16, .inr (.inl (fun _ => 0)))), (q_3, .inl (k_5, 16, .inr (.inl (fun _ => 0)))), (q_10, .inl (k_11, 4, .inr (.inr (.inr (.inr (fun _ => none))))))]) [0, 1, 2, 3, 5] rfl
              replace hD := hD.sub (ws' := [(h0, .inr (2, [.ref asc, .ref ag, .ref q_1, .ref q_6, .ref q_8, .ref q_10, .ref q_12, .ref q_17, .int 0, .int 0, .int 0, .int 0, .ref q_22])), (q_1, .inr (6, [.ref q_2, .ref q_3, .int 0])), (q_2, .inl (k_4, 16, .inr (.inl (fun _ => 0)))), (q_3, .inl (k_5, 16, .inr (.inl (fun _ => 0)))), (q_10, .inl (k_11, 4, .inr (.inr (.inr (.inr (fun _ => none))))))]) [0, 1, 2, 3, 5] (by decide) rfl
              have key_37 : ∀ (n_36 i_34 : Nat) (x_35 : Int32) (f_38 : Nat → Option Nat) (H : Heap) (locs : List Loc) (ls : Array Slot), 0 ≤ i_34 → i_34 ≤ 4 → 4 - i_34 < n_36 → x_35 = nI i_34 → va_P (dC, dI) vwCl [(h0, .inr (2, [.ref asc, .ref ag, .ref q_1, .ref q_6, .ref q_8, .ref q_10, .ref q_12, .ref q_17, .int 0, .int 0, .int 0, .int 0, .ref q_22])), (q_1, .inr (6, [.ref q_2, .ref q_3, .int 0])), (q_2, .inl (k_4, 16, .inr (.inl (fun _ => 0)))), (q_3, .inl (k_5, 16, .inr (.inl (fun _ => 0)))), (q_10, .inl (k_11, 4, .inr (.inr (.inr (.inr f_38)))))] H → va_D A [(h0, .inr (2, [.ref asc, .ref ag, .ref q_1, .ref q_6, .ref q_8, .ref q_10, .ref q_12, .ref q_17, .int 0, .int 0, .int 0, .int 0, .ref q_22])), (q_1, .inr (6, [.ref q_2, .ref q_3, .int 0])), (q_2, .inl (k_4, 16, .inr (.inl (fun _ => 0)))), (q_3, .inl (k_5, 16, .inr (.inl (fun _ => 0)))), (q_10, .inl (k_11, 4, .inr (.inr (.inr (.inr f_38)))))] → va_S A s.heap H locs → lv_has ls 4 [(3, .int x_35), (0, .ref h0), (1, .ref asc), (2, .ref ag)] → W p l e ({ frames := 2, cells := 88, slots := 1007, locals := 32 } : Room) s m ([.ref h0, .ref asc, .ref ag] : List Value).toArray below meth c H locs (76 + 3 * i_34) (867 + 35 * i_34) Q0 (F0 m 141 ls []) := by
                intro n_36
                induction n_36 with
                | zero =>
                  intro i_34 x_35 f_38 H locs ls h0 h1 h2
                  exact absurd h2 (by omega)
                | succ n_36 ihkey_37 =>
                  intro i_34 x_35 f_38 H locs ls hbi_34 hii_34 hni_34 ex_35 hP hD hS hl
                  refine lv_iload_n hx hb dX2_init_141 rfl (lv_at hl 0 rfl) ?_
                  refine lv_aload_n hx hb dX2_init_142 rfl (lv_at hl 1 rfl) ?_
                  refine va_get (D := (dC, dI)) (ci := 2) (v := .ref q_10) (C := RX2) (T := TX2) (N := 13) hx hb hts (in_X2_init_X2) hown hK hP 0 rfl rfl 5 (by decide) (hts (.fieldLink RX2 25 "MotionSigns$Change" "cubic" "[LMotionSigns$Poly;") (List.mem_of_getElem? (i := 10) rfl)) (fun _ h9 => h9) rfl dX2_init_143 ?_
                  refine va_alen (v := 4) hx hb hK hP 4 4 rfl rfl rfl dX2_init_146 ?_
                  refine lv_icmp_ge (tgt := 169) hx hb dX2_init_147 (by decide) (fun hi_34 => ?_) (fun hi_34 => ?_)
                  · have hEi_34 : i_34 = 4 := by
                      rcases Nat.lt_or_ge i_34 4 with q | q
                      · exact absurd hi_34 (by rw [ex_35]; exact nI_ge (b := 4) q (by omega))
                      · omega
                    subst hEi_34
                    refine W.widen (k := 88) (n := 1007) (by omega) (by omega) ?_
                    replace hP := hP.sub (ws' := [(h0, .inr (2, [.ref asc, .ref ag, .ref q_1, .ref q_6, .ref q_8, .ref q_10, .ref q_12, .ref q_17, .int 0, .int 0, .int 0, .int 0, .ref q_22])), (q_1, .inr (6, [.ref q_2, .ref q_3, .int 0])), (q_2, .inl (k_4, 16, .inr (.inl (fun _ => 0)))), (q_3, .inl (k_5, 16, .inr (.inl (fun _ => 0))))]) [0, 1, 2, 3] rfl
                    replace hD := hD.sub (ws' := [(h0, .inr (2, [.ref asc, .ref ag, .ref q_1, .ref q_6, .ref q_8, .ref q_10, .ref q_12, .ref q_17, .int 0, .int 0, .int 0, .int 0, .ref q_22])), (q_1, .inr (6, [.ref q_2, .ref q_3, .int 0])), (q_2, .inl (k_4, 16, .inr (.inl (fun _ => 0)))), (q_3, .inl (k_5, 16, .inr (.inl (fun _ => 0))))]) [0, 1, 2, 3] (by decide) rfl
                    have hP9 := hP.sub (ws' := [(h0, .inr (2, [.ref asc, .ref ag, .ref q_1, .ref q_6, .ref q_8, .ref q_10, .ref q_12, .ref q_17, .int 0, .int 0, .int 0, .int 0, .ref q_22])), (q_1, .inr (6, [.ref q_2, .ref q_3, .int 0])), (q_2, .inl (k_4, 16, .inr (.inl (fun _ => 0)))), (q_3, .inl (k_5, 16, .inr (.inl (fun _ => 0))))]) [0, 1, 2, 3] rfl
                    have hD9 := hD.sub (ws' := [(h0, .inr (2, [.ref asc, .ref ag, .ref q_1, .ref q_6, .ref q_8, .ref q_10, .ref q_12, .ref q_17, .int 0, .int 0, .int 0, .int 0, .ref q_22])), (q_1, .inr (6, [.ref q_2, .ref q_3, .int 0])), (q_2, .inl (k_4, 16, .inr (.inl (fun _ => 0)))), (q_3, .inl (k_5, 16, .inr (.inl (fun _ => 0))))]) [0, 1, 2, 3] (by decide) rfl
                    have hK9 := hK.sub (tys' := [(k_4, .long), (k_5, .long)]) [0, 1] rfl
                    rw [← hAe] at hD9
                    refine W.widen (k := 88) (n := 1007) (Nat.le_of_ble_eq_true rfl) (Nat.le_of_ble_eq_true rfl) ?_
                    subst hQ0
                    subst hAe
                    exact W.vret hx hb hr (fun t ht hW => ⟨⟨(), rfl, trivial, q_1, q_2, q_3, k_4, k_5, q_6, q_8, q_10, q_12, q_17, q_22, by rw [ht]; exact hP9, va_K.moved hW.alike hK9, hD9⟩, hS.F ht⟩) hS.2.2 dX2_init_169
                  · have hlti_34 : i_34 < 4 := by
                      rcases Nat.lt_or_ge i_34 4 with q | q
                      · exact q
                      · exact absurd (by rw [ex_35]; exact nI_le q (by omega)) hi_34
                    refine lv_aload_n hx hb dX2_init_150 rfl (lv_at hl 1 rfl) ?_
                    refine va_get (D := (dC, dI)) (ci := 2) (v := .ref q_10) (C := RX2) (T := TX2) (N := 13) hx hb hts (in_X2_init_X2) hown hK hP 0 rfl rfl 5 (by decide) (hts (.fieldLink RX2 25 "MotionSigns$Change" "cubic" "[LMotionSigns$Poly;") (List.mem_of_getElem? (i := 10) rfl)) (fun _ h9 => h9) rfl dX2_init_151 ?_
                    refine lv_iload_n hx hb dX2_init_154 rfl (lv_at hl 0 rfl) ?_
                    refine va_new (ci := 6) (fs := [.null, .null, .int 0]) (C := RX6) (T := TX6) (N := 3) hx hb hts (in_X2_init_X6) tyX6 tyX6_ok hown (hts (.classLink RX2 9 RX6) (List.mem_of_getElem? (i := 4) rfl)) (hts (.instantiable RX6 3) (List.mem_of_getElem? (i := 5) rfl)) (hts (.initialized RX6) (List.mem_of_getElem? (i := 6) rfl)) hK hP hD hS hA rfl (fun j hj => by rcases (show j = 0 ∨ j = 1 ∨ j = 2 by omega) with rfl | rfl | rfl <;> rfl) (by show _ ≤ (88 : Nat); omega) (by show _ ≤ (1007 : Nat); omega) dX2_init_155 ?_
                    clear hP hD hS; try clear H
                    intro q_39 H hP hD hS
                    replace hP : va_P (dC, dI) vwCl [(h0, .inr (2, [.ref asc, .ref ag, .ref q_1, .ref q_6, .ref q_8, .ref q_10, .ref q_12, .ref q_17, .int 0, .int 0, .int 0, .int 0, .ref q_22])), (q_1, .inr (6, [.ref q_2, .ref q_3, .int 0])), (q_2, .inl (k_4, 16, .inr (.inl (fun _ => 0)))), (q_3, .inl (k_5, 16, .inr (.inl (fun _ => 0)))), (q_10, .inl (k_11, 4, .inr (.inr (.inr (.inr f_38))))), (q_39, .inr (6, [.null, .null, .int 0]))] H := hP
                    replace hD : va_D A [(h0, .inr (2, [.ref asc, .ref ag, .ref q_1, .ref q_6, .ref q_8, .ref q_10, .ref q_12, .ref q_17, .int 0, .int 0, .int 0, .int 0, .ref q_22])), (q_1, .inr (6, [.ref q_2, .ref q_3, .int 0])), (q_2, .inl (k_4, 16, .inr (.inl (fun _ => 0)))), (q_3, .inl (k_5, 16, .inr (.inl (fun _ => 0)))), (q_10, .inl (k_11, 4, .inr (.inr (.inr (.inr f_38))))), (q_39, .inr (6, [.null, .null, .int 0]))] := hD
                    refine lv_dup hx hb dX2_init_158 rfl ?_
                    have hPc := hP.sub (ws' := [(q_39, .inr (6, [.null, .null, .int 0]))]) [5] rfl
                    have hDc := hD.sub (ws' := [(q_39, .inr (6, [.null, .null, .int 0]))]) [5] (by decide) rfl
                    have hKc := hK.sub (tys' := []) [] rfl
                    have hFc := va_free (wc := [(q_39, .inr (6, [.null, .null, .int 0]))]) hD hS hA [5] rfl
                    refine va_callv (va_runIN (As := []) (rest := [.ref q_39, .int x_35, .ref q_10]) ⟨hx, hb, hml, hown, hts⟩ (c_X6_init l dC dI q_39 H.size) ⟨va_cnB 0 hts gX2_init_X6_init_n11 rfl rfl rfl (hN.1 (RX2, 11, yX6_init, RX11) (List.mem_of_getElem? (i := 3) rfl)) (hts (.initialized RX6) (List.mem_of_getElem? (i := 6) rfl)) hd_X6_init ⟨Nat.le_of_ble_eq_true rfl, Nat.le_of_ble_eq_true rfl⟩, rfl, (hts (.instanceMethod yX6_init) (List.mem_of_getElem? (i := 17) rfl))⟩ ⟨fun a U g mk q => by obtain ⟨q0, q1, qP, qK, qD, qE0⟩ := q; exact ⟨q0, q1, qP, va_K.moved (u := U) (U := U.calling g mk a) (Vm.Alike.refl U.vm) qK, qD, w_N.same rfl qE0⟩, fun U hU hW => ⟨rfl, by rw [hU], by rw [hU]; exact hPc, va_K.moved hW.alike hKc, hDc.weaken (fun _ _ _ _ => trivial), w_N.warm hW hN⟩⟩ rfl rfl hl.1 rfl (lv_room (Nat.le_of_ble_eq_true rfl)) dX2_init_159 ⟨(by show _ ≤ (88 : Nat); omega), (by show _ ≤ (1007 : Nat); omega)⟩) hS (fun q _ h => hFc q h) hFc (fun u t H1 locs1 ht hvm hw hB hz1 hk1 hS1 => ?_)
                    obtain ⟨q_40, q_41, k_42, k_43, hP1, hK1, hD1⟩ := hB
                    rw [ht] at hP1
                    have hK1 := va_K.moved hvm.symm hK1
                    have hJ := va_join (wr := [(h0, .inr (2, [.ref asc, .ref ag, .ref q_1, .ref q_6, .ref q_8, .ref q_10, .ref q_12, .ref q_17, .int 0, .int 0, .int 0, .int 0, .ref q_22])), (q_1, .inr (6, [.ref q_2, .ref q_3, .int 0])), (q_2, .inl (k_4, 16, .inr (.inl (fun _ => 0)))), (q_3, .inl (k_5, 16, .inr (.inl (fun _ => 0)))), (q_10, .inl (k_11, 4, .inr (.inr (.inr (.inr f_38)))))]) (w1 := [(q_39, .inr (6, [.ref q_40, .ref q_41, .int 0])), (q_40, .inl (k_42, 16, .inr (.inl (fun _ => 0)))), (q_41, .inl (k_43, 16, .inr (.inl (fun _ => 0))))]) hP hD [5] [0, 1, 2, 3, 4] rfl rfl (by decide) (by decide) hk1 hFc hP1 hD1
                    clear hP hD hPc hDc hKc hFc hz1 hw; try clear hk1
                    obtain ⟨hP, hD⟩ := hJ
                    replace hK := (hK.sub (tys' := [(k_4, .long), (k_5, .long), (k_7, .object RX6), (k_9, .object RX6), (k_11, .object RX6), (k_15, .long), (k_16, .long), (k_20, .long), (k_21, .long), (k_23, .int)]) [0, 1, 2, 3, 4, 5, 6, 7, 8, 9] rfl).app (hK1.sub (tys' := [(k_42, .long), (k_43, .long)]) [0, 1] rfl)
                    clear hP1 hK1 hD1 hvm ht hS; try clear t
                    try clear H
                    revert hS1
                    intro hS
                    generalize H1 = H at hP hS ⊢; try clear H1
                    replace hP : va_P (dC, dI) vwCl [(h0, .inr (2, [.ref asc, .ref ag, .ref q_1, .ref q_6, .ref q_8, .ref q_10, .ref q_12, .ref q_17, .int 0, .int 0, .int 0, .int 0, .ref q_22])), (q_1, .inr (6, [.ref q_2, .ref q_3, .int 0])), (q_2, .inl (k_4, 16, .inr (.inl (fun _ => 0)))), (q_3, .inl (k_5, 16, .inr (.inl (fun _ => 0)))), (q_10, .inl (k_11, 4, .inr (.inr (.inr (.inr f_38))))), (q_39, .inr (6, [.ref q_40, .ref q_41, .int 0])), (q_40, .inl (k_42, 16, .inr (.inl (fun _ => 0)))), (q_41, .inl (k_43, 16, .inr (.inl (fun _ => 0))))] H := hP
                    replace hD : va_D A [(h0, .inr (2, [.ref asc, .ref ag, .ref q_1, .ref q_6, .ref q_8, .ref q_10, .ref q_12, .ref q_17, .int 0, .int 0, .int 0, .int 0, .ref q_22])), (q_1, .inr (6, [.ref q_2, .ref q_3, .int 0])), (q_2, .inl (k_4, 16, .inr (.inl (fun _ => 0)))), (q_3, .inl (k_5, 16, .inr (.inl (fun _ => 0)))), (q_10, .inl (k_11, 4, .inr (.inr (.inr (.inr f_38))))), (q_39, .inr (6, [.ref q_40, .ref q_41, .int 0])), (q_40, .inl (k_42, 16, .inr (.inl (fun _ => 0)))), (q_41, .inl (k_43, 16, .inr (.inl (fun _ => 0))))] := hD
                    replace hK : va_K (dC, dI) vwCl [(k_4, .long), (k_5, .long), (k_7, .object RX6), (k_9, .object RX6), (k_11, .object RX6), (k_15, .long), (k_16, .long), (k_20, .long), (k_21, .long), (k_23, .int), (k_42, .long), (k_43, .long)] s := hK
                    refine va_astq hx hb hK hP hD hS 4 4 5 6 rfl rfl rfl rfl (by rw [ex_35]; exact vp_in_nI (by omega) (by omega)) dX2_init_162 ?_
                    clear hP hD hS; try clear H
                    intro H locs hP hD hS
                    replace hP : va_P (dC, dI) vwCl [(h0, .inr (2, [.ref asc, .ref ag, .ref q_1, .ref q_6, .ref q_8, .ref q_10, .ref q_12, .ref q_17, .int 0, .int 0, .int 0, .int 0, .ref q_22])), (q_1, .inr (6, [.ref q_2, .ref q_3, .int 0])), (q_2, .inl (k_4, 16, .inr (.inl (fun _ => 0)))), (q_3, .inl (k_5, 16, .inr (.inl (fun _ => 0)))), (q_10, .inl (k_11, 4, .inr (.inr (.inr (.inr (va_up (f_38) (x_35 : Int32).toNatClampNeg (some q_39))))))), (q_39, .inr (6, [.ref q_40, .ref q_41, .int 0])), (q_40, .inl (k_42, 16, .inr (.inl (fun _ => 0)))), (q_41, .inl (k_43, 16, .inr (.inl (fun _ => 0))))] H := hP
                    replace hD : va_D A [(h0, .inr (2, [.ref asc, .ref ag, .ref q_1, .ref q_6, .ref q_8, .ref q_10, .ref q_12, .ref q_17, .int 0, .int 0, .int 0, .int 0, .ref q_22])), (q_1, .inr (6, [.ref q_2, .ref q_3, .int 0])), (q_2, .inl (k_4, 16, .inr (.inl (fun _ => 0)))), (q_3, .inl (k_5, 16, .inr (.inl (fun _ => 0)))), (q_10, .inl (k_11, 4, .inr (.inr (.inr (.inr (va_up (f_38) (x_35 : Int32).toNatClampNeg (some q_39))))))), (q_39, .inr (6, [.ref q_40, .ref q_41, .int 0])), (q_40, .inl (k_42, 16, .inr (.inl (fun _ => 0)))), (q_41, .inl (k_43, 16, .inr (.inl (fun _ => 0))))] := hD
                    obtain ⟨v_44, ev_44⟩ : ∃ y : Int32, y = x_35 + 1 := ⟨_, rfl⟩
                    refine lv_iinc (v := v_44) (lv' := [(3, .int v_44), (0, .ref h0), (1, .ref asc), (2, .ref ag)]) hx hb dX2_init_163 hl (k := 0) rfl (by rw [ev_44]; rfl) (by decide) rfl (fun ls hl => ?_)
                    refine lv_goto (tgt := 141) hx hb dX2_init_166 (by decide) ?_
                    replace hP := hP.sub (ws' := [(h0, .inr (2, [.ref asc, .ref ag, .ref q_1, .ref q_6, .ref q_8, .ref q_10, .ref q_12, .ref q_17, .int 0, .int 0, .int 0, .int 0, .ref q_22])), (q_1, .inr (6, [.ref q_2, .ref q_3, .int 0])), (q_2, .inl (k_4, 16, .inr (.inl (fun _ => 0)))), (q_3, .inl (k_5, 16, .inr (.inl (fun _ => 0)))), (q_10, .inl (k_11, 4, .inr (.inr (.inr (.inr (va_up (f_38) (x_35 : Int32).toNatClampNeg (some q_39)))))))]) [0, 1, 2, 3, 4] rfl
                    replace hD := hD.sub (ws' := [(h0, .inr (2, [.ref asc, .ref ag, .ref q_1, .ref q_6, .ref q_8, .ref q_10, .ref q_12, .ref q_17, .int 0, .int 0, .int 0, .int 0, .ref q_22])), (q_1, .inr (6, [.ref q_2, .ref q_3, .int 0])), (q_2, .inl (k_4, 16, .inr (.inl (fun _ => 0)))), (q_3, .inl (k_5, 16, .inr (.inl (fun _ => 0)))), (q_10, .inl (k_11, 4, .inr (.inr (.inr (.inr (va_up (f_38) (x_35 : Int32).toNatClampNeg (some q_39)))))))]) [0, 1, 2, 3, 4] (by decide) rfl
                    refine W.widen (k := 76 + 3 * (i_34 + 1)) (n := 867 + 35 * (i_34 + 1)) (by omega) (by omega) ?_
                    exact ihkey_37 (i_34 + 1) _ _ H locs ls (by omega) (by omega) (by omega) (by rw [ev_44, ex_35]; exact nI_1 i_34) (hP.sub [0, 1, 2, 3, 4] rfl) (hD.sub [0, 1, 2, 3, 4] (by decide) rfl) hS (lv_sub hl [0, 1, 2, 3] rfl)
              refine W.widen (k := 76 + 3 * 0) (n := 867 + 35 * 0) (by omega) (by omega) ?_
              exact key_37 (4 + 1) 0 _ _ H locs ls (by omega) (by omega) (by omega) (by first | rfl | exact nI_0.symm | decide) hP hD hS hl
            · have hlti_29 : i_29 < 3 := by
                rcases Nat.lt_or_ge i_29 3 with q | q
                · exact q
                · exact absurd (by rw [ex_30]; exact nI_le q (by omega)) hi_29
              refine lv_aload_n hx hb dX2_init_120 rfl (lv_at hl 1 rfl) ?_
              refine va_get (D := (dC, dI)) (ci := 2) (v := .ref q_8) (C := RX2) (T := TX2) (N := 13) hx hb hts (in_X2_init_X2) hown hK hP 0 rfl rfl 4 (by decide) (hts (.fieldLink RX2 22 "MotionSigns$Change" "slope" "[LMotionSigns$Poly;") (List.mem_of_getElem? (i := 9) rfl)) (fun _ h9 => h9) rfl dX2_init_121 ?_
              refine lv_iload_n hx hb dX2_init_124 rfl (lv_at hl 0 rfl) ?_
              refine va_new (ci := 6) (fs := [.null, .null, .int 0]) (C := RX6) (T := TX6) (N := 3) hx hb hts (in_X2_init_X6) tyX6 tyX6_ok hown (hts (.classLink RX2 9 RX6) (List.mem_of_getElem? (i := 4) rfl)) (hts (.instantiable RX6 3) (List.mem_of_getElem? (i := 5) rfl)) (hts (.initialized RX6) (List.mem_of_getElem? (i := 6) rfl)) hK hP hD hS hA rfl (fun j hj => by rcases (show j = 0 ∨ j = 1 ∨ j = 2 by omega) with rfl | rfl | rfl <;> rfl) (by show _ ≤ (88 : Nat); omega) (by show _ ≤ (1007 : Nat); omega) dX2_init_125 ?_
              clear hP hD hS; try clear H
              intro q_45 H hP hD hS
              replace hP : va_P (dC, dI) vwCl [(h0, .inr (2, [.ref asc, .ref ag, .ref q_1, .ref q_6, .ref q_8, .ref q_10, .ref q_12, .ref q_17, .int 0, .int 0, .int 0, .int 0, .ref q_22])), (q_1, .inr (6, [.ref q_2, .ref q_3, .int 0])), (q_2, .inl (k_4, 16, .inr (.inl (fun _ => 0)))), (q_3, .inl (k_5, 16, .inr (.inl (fun _ => 0)))), (q_8, .inl (k_9, 3, .inr (.inr (.inr (.inr f_33))))), (q_10, .inl (k_11, 4, .inr (.inr (.inr (.inr (fun _ => none)))))), (q_45, .inr (6, [.null, .null, .int 0]))] H := hP
              replace hD : va_D A [(h0, .inr (2, [.ref asc, .ref ag, .ref q_1, .ref q_6, .ref q_8, .ref q_10, .ref q_12, .ref q_17, .int 0, .int 0, .int 0, .int 0, .ref q_22])), (q_1, .inr (6, [.ref q_2, .ref q_3, .int 0])), (q_2, .inl (k_4, 16, .inr (.inl (fun _ => 0)))), (q_3, .inl (k_5, 16, .inr (.inl (fun _ => 0)))), (q_8, .inl (k_9, 3, .inr (.inr (.inr (.inr f_33))))), (q_10, .inl (k_11, 4, .inr (.inr (.inr (.inr (fun _ => none)))))), (q_45, .inr (6, [.null, .null, .int 0]))] := hD
              refine lv_dup hx hb dX2_init_128 rfl ?_
              have hPc := hP.sub (ws' := [(q_45, .inr (6, [.null, .null, .int 0]))]) [6] rfl
              have hDc := hD.sub (ws' := [(q_45, .inr (6, [.null, .null, .int 0]))]) [6] (by decide) rfl
              have hKc := hK.sub (tys' := []) [] rfl
              have hFc := va_free (wc := [(q_45, .inr (6, [.null, .null, .int 0]))]) hD hS hA [6] rfl
              refine va_callv (va_runIN (As := []) (rest := [.ref q_45, .int x_30, .ref q_8]) ⟨hx, hb, hml, hown, hts⟩ (c_X6_init l dC dI q_45 H.size) ⟨va_cnB 0 hts gX2_init_X6_init_n11 rfl rfl rfl (hN.1 (RX2, 11, yX6_init, RX11) (List.mem_of_getElem? (i := 3) rfl)) (hts (.initialized RX6) (List.mem_of_getElem? (i := 6) rfl)) hd_X6_init ⟨Nat.le_of_ble_eq_true rfl, Nat.le_of_ble_eq_true rfl⟩, rfl, (hts (.instanceMethod yX6_init) (List.mem_of_getElem? (i := 17) rfl))⟩ ⟨fun a U g mk q => by obtain ⟨q0, q1, qP, qK, qD, qE0⟩ := q; exact ⟨q0, q1, qP, va_K.moved (u := U) (U := U.calling g mk a) (Vm.Alike.refl U.vm) qK, qD, w_N.same rfl qE0⟩, fun U hU hW => ⟨rfl, by rw [hU], by rw [hU]; exact hPc, va_K.moved hW.alike hKc, hDc.weaken (fun _ _ _ _ => trivial), w_N.warm hW hN⟩⟩ rfl rfl hl.1 rfl (lv_room (Nat.le_of_ble_eq_true rfl)) dX2_init_129 ⟨(by show _ ≤ (88 : Nat); omega), (by show _ ≤ (1007 : Nat); omega)⟩) hS (fun q _ h => hFc q h) hFc (fun u t H1 locs1 ht hvm hw hB hz1 hk1 hS1 => ?_)
              obtain ⟨q_46, q_47, k_48, k_49, hP1, hK1, hD1⟩ := hB
              rw [ht] at hP1
              have hK1 := va_K.moved hvm.symm hK1
              have hJ := va_join (wr := [(h0, .inr (2, [.ref asc, .ref ag, .ref q_1, .ref q_6, .ref q_8, .ref q_10, .ref q_12, .ref q_17, .int 0, .int 0, .int 0, .int 0, .ref q_22])), (q_1, .inr (6, [.ref q_2, .ref q_3, .int 0])), (q_2, .inl (k_4, 16, .inr (.inl (fun _ => 0)))), (q_3, .inl (k_5, 16, .inr (.inl (fun _ => 0)))), (q_8, .inl (k_9, 3, .inr (.inr (.inr (.inr f_33))))), (q_10, .inl (k_11, 4, .inr (.inr (.inr (.inr (fun _ => none))))))]) (w1 := [(q_45, .inr (6, [.ref q_46, .ref q_47, .int 0])), (q_46, .inl (k_48, 16, .inr (.inl (fun _ => 0)))), (q_47, .inl (k_49, 16, .inr (.inl (fun _ => 0))))]) hP hD [6] [0, 1, 2, 3, 4, 5] rfl rfl (by decide) (by decide) hk1 hFc hP1 hD1
              clear hP hD hPc hDc hKc hFc hz1 hw; try clear hk1
              obtain ⟨hP, hD⟩ := hJ
              replace hK := (hK.sub (tys' := [(k_4, .long), (k_5, .long), (k_7, .object RX6), (k_9, .object RX6), (k_11, .object RX6), (k_15, .long), (k_16, .long), (k_20, .long), (k_21, .long), (k_23, .int)]) [0, 1, 2, 3, 4, 5, 6, 7, 8, 9] rfl).app (hK1.sub (tys' := [(k_48, .long), (k_49, .long)]) [0, 1] rfl)
              clear hP1 hK1 hD1 hvm ht hS; try clear t
              try clear H
              revert hS1
              intro hS
              generalize H1 = H at hP hS ⊢; try clear H1
              replace hP : va_P (dC, dI) vwCl [(h0, .inr (2, [.ref asc, .ref ag, .ref q_1, .ref q_6, .ref q_8, .ref q_10, .ref q_12, .ref q_17, .int 0, .int 0, .int 0, .int 0, .ref q_22])), (q_1, .inr (6, [.ref q_2, .ref q_3, .int 0])), (q_2, .inl (k_4, 16, .inr (.inl (fun _ => 0)))), (q_3, .inl (k_5, 16, .inr (.inl (fun _ => 0)))), (q_8, .inl (k_9, 3, .inr (.inr (.inr (.inr f_33))))), (q_10, .inl (k_11, 4, .inr (.inr (.inr (.inr (fun _ => none)))))), (q_45, .inr (6, [.ref q_46, .ref q_47, .int 0])), (q_46, .inl (k_48, 16, .inr (.inl (fun _ => 0)))), (q_47, .inl (k_49, 16, .inr (.inl (fun _ => 0))))] H := hP
              replace hD : va_D A [(h0, .inr (2, [.ref asc, .ref ag, .ref q_1, .ref q_6, .ref q_8, .ref q_10, .ref q_12, .ref q_17, .int 0, .int 0, .int 0, .int 0, .ref q_22])), (q_1, .inr (6, [.ref q_2, .ref q_3, .int 0])), (q_2, .inl (k_4, 16, .inr (.inl (fun _ => 0)))), (q_3, .inl (k_5, 16, .inr (.inl (fun _ => 0)))), (q_8, .inl (k_9, 3, .inr (.inr (.inr (.inr f_33))))), (q_10, .inl (k_11, 4, .inr (.inr (.inr (.inr (fun _ => none)))))), (q_45, .inr (6, [.ref q_46, .ref q_47, .int 0])), (q_46, .inl (k_48, 16, .inr (.inl (fun _ => 0)))), (q_47, .inl (k_49, 16, .inr (.inl (fun _ => 0))))] := hD
              replace hK : va_K (dC, dI) vwCl [(k_4, .long), (k_5, .long), (k_7, .object RX6), (k_9, .object RX6), (k_11, .object RX6), (k_15, .long), (k_16, .long), (k_20, .long), (k_21, .long), (k_23, .int), (k_48, .long), (k_49, .long)] s := hK
              refine va_astq hx hb hK hP hD hS 4 3 6 6 rfl rfl rfl rfl (by rw [ex_30]; exact vp_in_nI (by omega) (by omega)) dX2_init_132 ?_
              clear hP hD hS; try clear H
              intro H locs hP hD hS
              replace hP : va_P (dC, dI) vwCl [(h0, .inr (2, [.ref asc, .ref ag, .ref q_1, .ref q_6, .ref q_8, .ref q_10, .ref q_12, .ref q_17, .int 0, .int 0, .int 0, .int 0, .ref q_22])), (q_1, .inr (6, [.ref q_2, .ref q_3, .int 0])), (q_2, .inl (k_4, 16, .inr (.inl (fun _ => 0)))), (q_3, .inl (k_5, 16, .inr (.inl (fun _ => 0)))), (q_8, .inl (k_9, 3, .inr (.inr (.inr (.inr (va_up (f_33) (x_30 : Int32).toNatClampNeg (some q_45))))))), (q_10, .inl (k_11, 4, .inr (.inr (.inr (.inr (fun _ => none)))))), (q_45, .inr (6, [.ref q_46, .ref q_47, .int 0])), (q_46, .inl (k_48, 16, .inr (.inl (fun _ => 0)))), (q_47, .inl (k_49, 16, .inr (.inl (fun _ => 0))))] H := hP
              replace hD : va_D A [(h0, .inr (2, [.ref asc, .ref ag, .ref q_1, .ref q_6, .ref q_8, .ref q_10, .ref q_12, .ref q_17, .int 0, .int 0, .int 0, .int 0, .ref q_22])), (q_1, .inr (6, [.ref q_2, .ref q_3, .int 0])), (q_2, .inl (k_4, 16, .inr (.inl (fun _ => 0)))), (q_3, .inl (k_5, 16, .inr (.inl (fun _ => 0)))), (q_8, .inl (k_9, 3, .inr (.inr (.inr (.inr (va_up (f_33) (x_30 : Int32).toNatClampNeg (some q_45))))))), (q_10, .inl (k_11, 4, .inr (.inr (.inr (.inr (fun _ => none)))))), (q_45, .inr (6, [.ref q_46, .ref q_47, .int 0])), (q_46, .inl (k_48, 16, .inr (.inl (fun _ => 0)))), (q_47, .inl (k_49, 16, .inr (.inl (fun _ => 0))))] := hD
              obtain ⟨v_50, ev_50⟩ : ∃ y : Int32, y = x_30 + 1 := ⟨_, rfl⟩
              refine lv_iinc (v := v_50) (lv' := [(3, .int v_50), (0, .ref h0), (1, .ref asc), (2, .ref ag)]) hx hb dX2_init_133 hl (k := 0) rfl (by rw [ev_50]; rfl) (by decide) rfl (fun ls hl => ?_)
              refine lv_goto (tgt := 111) hx hb dX2_init_136 (by decide) ?_
              replace hP := hP.sub (ws' := [(h0, .inr (2, [.ref asc, .ref ag, .ref q_1, .ref q_6, .ref q_8, .ref q_10, .ref q_12, .ref q_17, .int 0, .int 0, .int 0, .int 0, .ref q_22])), (q_1, .inr (6, [.ref q_2, .ref q_3, .int 0])), (q_2, .inl (k_4, 16, .inr (.inl (fun _ => 0)))), (q_3, .inl (k_5, 16, .inr (.inl (fun _ => 0)))), (q_8, .inl (k_9, 3, .inr (.inr (.inr (.inr (va_up (f_33) (x_30 : Int32).toNatClampNeg (some q_45))))))), (q_10, .inl (k_11, 4, .inr (.inr (.inr (.inr (fun _ => none))))))]) [0, 1, 2, 3, 4, 5] rfl
              replace hD := hD.sub (ws' := [(h0, .inr (2, [.ref asc, .ref ag, .ref q_1, .ref q_6, .ref q_8, .ref q_10, .ref q_12, .ref q_17, .int 0, .int 0, .int 0, .int 0, .ref q_22])), (q_1, .inr (6, [.ref q_2, .ref q_3, .int 0])), (q_2, .inl (k_4, 16, .inr (.inl (fun _ => 0)))), (q_3, .inl (k_5, 16, .inr (.inl (fun _ => 0)))), (q_8, .inl (k_9, 3, .inr (.inr (.inr (.inr (va_up (f_33) (x_30 : Int32).toNatClampNeg (some q_45))))))), (q_10, .inl (k_11, 4, .inr (.inr (.inr (.inr (fun _ => none))))))]) [0, 1, 2, 3, 4, 5] (by decide) rfl
              refine W.widen (k := 67 + 3 * (i_29 + 1)) (n := 762 + 35 * (i_29 + 1)) (by omega) (by omega) ?_
              exact ihkey_32 (i_29 + 1) _ _ H locs ls (by omega) (by omega) (by omega) (by rw [ev_50, ex_30]; exact nI_1 i_29) (hP.sub [0, 1, 2, 3, 4, 5] rfl) (hD.sub [0, 1, 2, 3, 4, 5] (by decide) rfl) hS (lv_sub hl [0, 1, 2, 3] rfl)
        refine W.widen (k := 67 + 3 * 0) (n := 762 + 35 * 0) (by omega) (by omega) ?_
        exact key_32 (3 + 1) 0 _ _ H locs ls (by omega) (by omega) (by omega) (by first | rfl | exact nI_0.symm | decide) hP hD hS hl
      · have hlti_24 : i_24 < 18 := by
          rcases Nat.lt_or_ge i_24 18 with q | q
          · exact q
          · exact absurd (by rw [ex_25]; exact nI_le q (by omega)) hi_24
        refine lv_aload_n hx hb dX2_init_90 rfl (lv_at hl 1 rfl) ?_
        refine va_get (D := (dC, dI)) (ci := 2) (v := .ref q_6) (C := RX2) (T := TX2) (N := 13) hx hb hts (in_X2_init_X2) hown hK hP 0 rfl rfl 3 (by decide) (hts (.fieldLink RX2 18 "MotionSigns$Change" "rule" "[LMotionSigns$Poly;") (List.mem_of_getElem? (i := 8) rfl)) (fun _ h9 => h9) rfl dX2_init_91 ?_
        refine lv_iload_n hx hb dX2_init_94 rfl (lv_at hl 0 rfl) ?_
        refine va_new (ci := 6) (fs := [.null, .null, .int 0]) (C := RX6) (T := TX6) (N := 3) hx hb hts (in_X2_init_X6) tyX6 tyX6_ok hown (hts (.classLink RX2 9 RX6) (List.mem_of_getElem? (i := 4) rfl)) (hts (.instantiable RX6 3) (List.mem_of_getElem? (i := 5) rfl)) (hts (.initialized RX6) (List.mem_of_getElem? (i := 6) rfl)) hK hP hD hS hA rfl (fun j hj => by rcases (show j = 0 ∨ j = 1 ∨ j = 2 by omega) with rfl | rfl | rfl <;> rfl) (by show _ ≤ (88 : Nat); omega) (by show _ ≤ (1007 : Nat); omega) dX2_init_95 ?_
        clear hP hD hS; try clear H
        intro q_51 H hP hD hS
        replace hP : va_P (dC, dI) vwCl [(h0, .inr (2, [.ref asc, .ref ag, .ref q_1, .ref q_6, .ref q_8, .ref q_10, .ref q_12, .ref q_17, .int 0, .int 0, .int 0, .int 0, .ref q_22])), (q_1, .inr (6, [.ref q_2, .ref q_3, .int 0])), (q_2, .inl (k_4, 16, .inr (.inl (fun _ => 0)))), (q_3, .inl (k_5, 16, .inr (.inl (fun _ => 0)))), (q_6, .inl (k_7, 18, .inr (.inr (.inr (.inr f_28))))), (q_8, .inl (k_9, 3, .inr (.inr (.inr (.inr (fun _ => none)))))), (q_10, .inl (k_11, 4, .inr (.inr (.inr (.inr (fun _ => none)))))), (q_51, .inr (6, [.null, .null, .int 0]))] H := hP
        replace hD : va_D A [(h0, .inr (2, [.ref asc, .ref ag, .ref q_1, .ref q_6, .ref q_8, .ref q_10, .ref q_12, .ref q_17, .int 0, .int 0, .int 0, .int 0, .ref q_22])), (q_1, .inr (6, [.ref q_2, .ref q_3, .int 0])), (q_2, .inl (k_4, 16, .inr (.inl (fun _ => 0)))), (q_3, .inl (k_5, 16, .inr (.inl (fun _ => 0)))), (q_6, .inl (k_7, 18, .inr (.inr (.inr (.inr f_28))))), (q_8, .inl (k_9, 3, .inr (.inr (.inr (.inr (fun _ => none)))))), (q_10, .inl (k_11, 4, .inr (.inr (.inr (.inr (fun _ => none)))))), (q_51, .inr (6, [.null, .null, .int 0]))] := hD
        refine lv_dup hx hb dX2_init_98 rfl ?_
        have hPc := hP.sub (ws' := [(q_51, .inr (6, [.null, .null, .int 0]))]) [7] rfl
        have hDc := hD.sub (ws' := [(q_51, .inr (6, [.null, .null, .int 0]))]) [7] (by decide) rfl
        have hKc := hK.sub (tys' := []) [] rfl
        have hFc := va_free (wc := [(q_51, .inr (6, [.null, .null, .int 0]))]) hD hS hA [7] rfl
        refine va_callv (va_runIN (As := []) (rest := [.ref q_51, .int x_25, .ref q_6]) ⟨hx, hb, hml, hown, hts⟩ (c_X6_init l dC dI q_51 H.size) ⟨va_cnB 0 hts gX2_init_X6_init_n11 rfl rfl rfl (hN.1 (RX2, 11, yX6_init, RX11) (List.mem_of_getElem? (i := 3) rfl)) (hts (.initialized RX6) (List.mem_of_getElem? (i := 6) rfl)) hd_X6_init ⟨Nat.le_of_ble_eq_true rfl, Nat.le_of_ble_eq_true rfl⟩, rfl, (hts (.instanceMethod yX6_init) (List.mem_of_getElem? (i := 17) rfl))⟩ ⟨fun a U g mk q => by obtain ⟨q0, q1, qP, qK, qD, qE0⟩ := q; exact ⟨q0, q1, qP, va_K.moved (u := U) (U := U.calling g mk a) (Vm.Alike.refl U.vm) qK, qD, w_N.same rfl qE0⟩, fun U hU hW => ⟨rfl, by rw [hU], by rw [hU]; exact hPc, va_K.moved hW.alike hKc, hDc.weaken (fun _ _ _ _ => trivial), w_N.warm hW hN⟩⟩ rfl rfl hl.1 rfl (lv_room (Nat.le_of_ble_eq_true rfl)) dX2_init_99 ⟨(by show _ ≤ (88 : Nat); omega), (by show _ ≤ (1007 : Nat); omega)⟩) hS (fun q _ h => hFc q h) hFc (fun u t H1 locs1 ht hvm hw hB hz1 hk1 hS1 => ?_)
        obtain ⟨q_52, q_53, k_54, k_55, hP1, hK1, hD1⟩ := hB
        rw [ht] at hP1
        have hK1 := va_K.moved hvm.symm hK1
        have hJ := va_join (wr := [(h0, .inr (2, [.ref asc, .ref ag, .ref q_1, .ref q_6, .ref q_8, .ref q_10, .ref q_12, .ref q_17, .int 0, .int 0, .int 0, .int 0, .ref q_22])), (q_1, .inr (6, [.ref q_2, .ref q_3, .int 0])), (q_2, .inl (k_4, 16, .inr (.inl (fun _ => 0)))), (q_3, .inl (k_5, 16, .inr (.inl (fun _ => 0)))), (q_6, .inl (k_7, 18, .inr (.inr (.inr (.inr f_28))))), (q_8, .inl (k_9, 3, .inr (.inr (.inr (.inr (fun _ => none)))))), (q_10, .inl (k_11, 4, .inr (.inr (.inr (.inr (fun _ => none))))))]) (w1 := [(q_51, .inr (6, [.ref q_52, .ref q_53, .int 0])), (q_52, .inl (k_54, 16, .inr (.inl (fun _ => 0)))), (q_53, .inl (k_55, 16, .inr (.inl (fun _ => 0))))]) hP hD [7] [0, 1, 2, 3, 4, 5, 6] rfl rfl (by decide) (by decide) hk1 hFc hP1 hD1
        clear hP hD hPc hDc hKc hFc hz1 hw; try clear hk1
        obtain ⟨hP, hD⟩ := hJ
        replace hK := (hK.sub (tys' := [(k_4, .long), (k_5, .long), (k_7, .object RX6), (k_9, .object RX6), (k_11, .object RX6), (k_15, .long), (k_16, .long), (k_20, .long), (k_21, .long), (k_23, .int)]) [0, 1, 2, 3, 4, 5, 6, 7, 8, 9] rfl).app (hK1.sub (tys' := [(k_54, .long), (k_55, .long)]) [0, 1] rfl)
        clear hP1 hK1 hD1 hvm ht hS; try clear t
        try clear H
        revert hS1
        intro hS
        generalize H1 = H at hP hS ⊢; try clear H1
        replace hP : va_P (dC, dI) vwCl [(h0, .inr (2, [.ref asc, .ref ag, .ref q_1, .ref q_6, .ref q_8, .ref q_10, .ref q_12, .ref q_17, .int 0, .int 0, .int 0, .int 0, .ref q_22])), (q_1, .inr (6, [.ref q_2, .ref q_3, .int 0])), (q_2, .inl (k_4, 16, .inr (.inl (fun _ => 0)))), (q_3, .inl (k_5, 16, .inr (.inl (fun _ => 0)))), (q_6, .inl (k_7, 18, .inr (.inr (.inr (.inr f_28))))), (q_8, .inl (k_9, 3, .inr (.inr (.inr (.inr (fun _ => none)))))), (q_10, .inl (k_11, 4, .inr (.inr (.inr (.inr (fun _ => none)))))), (q_51, .inr (6, [.ref q_52, .ref q_53, .int 0])), (q_52, .inl (k_54, 16, .inr (.inl (fun _ => 0)))), (q_53, .inl (k_55, 16, .inr (.inl (fun _ => 0))))] H := hP
        replace hD : va_D A [(h0, .inr (2, [.ref asc, .ref ag, .ref q_1, .ref q_6, .ref q_8, .ref q_10, .ref q_12, .ref q_17, .int 0, .int 0, .int 0, .int 0, .ref q_22])), (q_1, .inr (6, [.ref q_2, .ref q_3, .int 0])), (q_2, .inl (k_4, 16, .inr (.inl (fun _ => 0)))), (q_3, .inl (k_5, 16, .inr (.inl (fun _ => 0)))), (q_6, .inl (k_7, 18, .inr (.inr (.inr (.inr f_28))))), (q_8, .inl (k_9, 3, .inr (.inr (.inr (.inr (fun _ => none)))))), (q_10, .inl (k_11, 4, .inr (.inr (.inr (.inr (fun _ => none)))))), (q_51, .inr (6, [.ref q_52, .ref q_53, .int 0])), (q_52, .inl (k_54, 16, .inr (.inl (fun _ => 0)))), (q_53, .inl (k_55, 16, .inr (.inl (fun _ => 0))))] := hD
        replace hK : va_K (dC, dI) vwCl [(k_4, .long), (k_5, .long), (k_7, .object RX6), (k_9, .object RX6), (k_11, .object RX6), (k_15, .long), (k_16, .long), (k_20, .long), (k_21, .long), (k_23, .int), (k_54, .long), (k_55, .long)] s := hK
        refine va_astq hx hb hK hP hD hS 4 2 7 6 rfl rfl rfl rfl (by rw [ex_25]; exact vp_in_nI (by omega) (by omega)) dX2_init_102 ?_
        clear hP hD hS; try clear H
        intro H locs hP hD hS
        replace hP : va_P (dC, dI) vwCl [(h0, .inr (2, [.ref asc, .ref ag, .ref q_1, .ref q_6, .ref q_8, .ref q_10, .ref q_12, .ref q_17, .int 0, .int 0, .int 0, .int 0, .ref q_22])), (q_1, .inr (6, [.ref q_2, .ref q_3, .int 0])), (q_2, .inl (k_4, 16, .inr (.inl (fun _ => 0)))), (q_3, .inl (k_5, 16, .inr (.inl (fun _ => 0)))), (q_6, .inl (k_7, 18, .inr (.inr (.inr (.inr (va_up (f_28) (x_25 : Int32).toNatClampNeg (some q_51))))))), (q_8, .inl (k_9, 3, .inr (.inr (.inr (.inr (fun _ => none)))))), (q_10, .inl (k_11, 4, .inr (.inr (.inr (.inr (fun _ => none)))))), (q_51, .inr (6, [.ref q_52, .ref q_53, .int 0])), (q_52, .inl (k_54, 16, .inr (.inl (fun _ => 0)))), (q_53, .inl (k_55, 16, .inr (.inl (fun _ => 0))))] H := hP
        replace hD : va_D A [(h0, .inr (2, [.ref asc, .ref ag, .ref q_1, .ref q_6, .ref q_8, .ref q_10, .ref q_12, .ref q_17, .int 0, .int 0, .int 0, .int 0, .ref q_22])), (q_1, .inr (6, [.ref q_2, .ref q_3, .int 0])), (q_2, .inl (k_4, 16, .inr (.inl (fun _ => 0)))), (q_3, .inl (k_5, 16, .inr (.inl (fun _ => 0)))), (q_6, .inl (k_7, 18, .inr (.inr (.inr (.inr (va_up (f_28) (x_25 : Int32).toNatClampNeg (some q_51))))))), (q_8, .inl (k_9, 3, .inr (.inr (.inr (.inr (fun _ => none)))))), (q_10, .inl (k_11, 4, .inr (.inr (.inr (.inr (fun _ => none)))))), (q_51, .inr (6, [.ref q_52, .ref q_53, .int 0])), (q_52, .inl (k_54, 16, .inr (.inl (fun _ => 0)))), (q_53, .inl (k_55, 16, .inr (.inl (fun _ => 0))))] := hD
        obtain ⟨v_56, ev_56⟩ : ∃ y : Int32, y = x_25 + 1 := ⟨_, rfl⟩
        refine lv_iinc (v := v_56) (lv' := [(3, .int v_56), (0, .ref h0), (1, .ref asc), (2, .ref ag)]) hx hb dX2_init_103 hl (k := 0) rfl (by rw [ev_56]; rfl) (by decide) rfl (fun ls hl => ?_)
        refine lv_goto (tgt := 81) hx hb dX2_init_106 (by decide) ?_
        replace hP := hP.sub (ws' := [(h0, .inr (2, [.ref asc, .ref ag, .ref q_1, .ref q_6, .ref q_8, .ref q_10, .ref q_12, .ref q_17, .int 0, .int 0, .int 0, .int 0, .ref q_22])), (q_1, .inr (6, [.ref q_2, .ref q_3, .int 0])), (q_2, .inl (k_4, 16, .inr (.inl (fun _ => 0)))), (q_3, .inl (k_5, 16, .inr (.inl (fun _ => 0)))), (q_6, .inl (k_7, 18, .inr (.inr (.inr (.inr (va_up (f_28) (x_25 : Int32).toNatClampNeg (some q_51))))))), (q_8, .inl (k_9, 3, .inr (.inr (.inr (.inr (fun _ => none)))))), (q_10, .inl (k_11, 4, .inr (.inr (.inr (.inr (fun _ => none))))))]) [0, 1, 2, 3, 4, 5, 6] rfl
        replace hD := hD.sub (ws' := [(h0, .inr (2, [.ref asc, .ref ag, .ref q_1, .ref q_6, .ref q_8, .ref q_10, .ref q_12, .ref q_17, .int 0, .int 0, .int 0, .int 0, .ref q_22])), (q_1, .inr (6, [.ref q_2, .ref q_3, .int 0])), (q_2, .inl (k_4, 16, .inr (.inl (fun _ => 0)))), (q_3, .inl (k_5, 16, .inr (.inl (fun _ => 0)))), (q_6, .inl (k_7, 18, .inr (.inr (.inr (.inr (va_up (f_28) (x_25 : Int32).toNatClampNeg (some q_51))))))), (q_8, .inl (k_9, 3, .inr (.inr (.inr (.inr (fun _ => none)))))), (q_10, .inl (k_11, 4, .inr (.inr (.inr (.inr (fun _ => none))))))]) [0, 1, 2, 3, 4, 5, 6] (by decide) rfl
        refine W.widen (k := 13 + 3 * (i_24 + 1)) (n := 132 + 35 * (i_24 + 1)) (by omega) (by omega) ?_
        exact ihkey_27 (i_24 + 1) _ _ H locs ls (by omega) (by omega) (by omega) (by rw [ev_56, ex_25]; exact nI_1 i_24) (hP.sub [0, 1, 2, 3, 4, 5, 6] rfl) (hD.sub [0, 1, 2, 3, 4, 5, 6] (by decide) rfl) hS (lv_sub hl [0, 1, 2, 3] rfl)
  refine W.widen (k := 13 + 3 * 0) (n := 132 + 35 * 0) (by omega) (by omega) ?_
  exact key_27 (18 + 1) 0 _ _ H locs ls (by omega) (by omega) (by omega) (by first | rfl | exact nI_0.symm | decide) hP hD hS hl
