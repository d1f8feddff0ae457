theorem in_X10_init_X1 : ∀ w ∈ wsX10, w ∈ wsX10_init := by decide +kernel
theorem in_X10_init_X10 : ∀ w ∈ wsX100, w ∈ wsX10_init := by decide +kernel
theorem in_X1_init_X1 : ∀ w ∈ wsX10, w ∈ wsX1_init := by decide +kernel
theorem in_X6_init_X6 : ∀ w ∈ wsX60, w ∈ wsX6_init := by decide +kernel
theorem in_X8_init_X8 : ∀ w ∈ wsX80, w ∈ wsX8_init := by decide +kernel
theorem hd_X1_init : yX1_init.cls ≠ "java/lang/invoke/MethodHandle" ∧ yX1_init.cls ≠ "java/lang/invoke/VarHandle" ∧ (parseMethodDescriptor yX1_init.desc).map (fun d => d.parameters.length) = some 0 := by decide +kernel
set_option maxHeartbeats 4000000 in
set_option maxRecDepth 100000 in
/-- Poly() -/
theorem c_X6_init (l : Launch) (dC : Nat → ClassId) (dI : Nat → Nat → Nat) (h0 : Nat) (sz : Nat) : Met l yX6_init wsX6_init ({ frames := 1, cells := 2, slots := 32, locals := 12 }) (va_Pc [.ref h0] (fun U => U.heap.size = sz ∧ va_P (dC, dI) vwCl [(h0, .inr (6, [.null, .null, .int 0]))] U.heap ∧ va_K (dC, dI) vwCl [] U ∧ va_D (fun _ => True) [(h0, .inr (6, [.null, .null, .int 0]))] ∧ w_N U)) (va_Qv (fun _ : Unit => True) (fun _ t => ∃ (q1 : Nat) (q2 : Nat) (k1 : Nat) (k2 : Nat), va_P (dC, dI) vwCl [(h0, .inr (6, [.ref q1, .ref q2, .int 0])), (q1, .inl (k1, 16, .inr (.inl (fun _ => 0)))), (q2, .inl (k2, 16, .inr (.inl (fun _ => 0))))] t.heap ∧ va_K (dC, dI) vwCl [(k1, .long), (k2, .long)] t ∧ va_D (va_A [(h0, .inr (6, [.null, .null, .int 0]))] sz) [(h0, .inr (6, [.ref q1, .ref q2, .int 0])), (q1, .inl (k1, 16, .inr (.inl (fun _ => 0)))), (q2, .inl (k2, 16, .inr (.inl (fun _ => 0))))]) (va_A [(h0, .inr (6, [.null, .null, .int 0]))] sz)) 2 32 (va_A [(h0, .inr (6, [.null, .null, .int 0]))] sz) := by
  refine Met.ofW (cc := cX6_init) (maxL := 1) (ret := none) (by decide) rfl ?_
  intro p e s m args below meth c s₁ B hml hv
  obtain ⟨rfl, hsz, hP, hK, hD0, hN⟩ := hv
  have hx := B.exec
  have hb := B.bytes
  have hr := B.returns
  have hts := atoms_spec (ws := wsX6_init) B.pre
  have hown : s.vm.findClass RX6 = some m.cls := findClass_of_methodNamed B.named
  have hlocks := B.notSynchronized
  have hin : meth.name = "<init>" := (name_of_methodNamed B.named B.method).1
  subst hsz
  have hD := hD0.self (sz := s.heap.size)
  generalize hAe : va_A [(h0, .inr (6, [.null, .null, .int 0]))] s.heap.size = A at hD ⊢
  have hA : ∀ q : Nat, s.heap.size ≤ q → A q := fun q h => by rw [← hAe]; exact Or.inr h
  have hS : va_S A s.heap s.heap [] := va_S.rf
  have hP : va_P (dC, dI) vwCl [(h0, .inr (6, [.null, .null, .int 0]))] s.heap := hP
  have hl := lv_entry ([.ref h0]) (n := 1) (Nat.le_of_ble_eq_true rfl)
  rw [lg_entry_eq]
  generalize (lg_sl ([.ref h0]) ++ List.replicate (1 - (lg_sl ([.ref h0])).length) Slot.unset).toArray = ls at hl ⊢
  have hl : lv_has ls 1 [(0, .ref h0)] := hl
  refine gen_W (fun Q0 hQ0 => ?_)
  refine lv_aload_n hx hb dX6_init_0 rfl (lv_at hl 0 rfl) ?_
  refine W.objInit hx hb hown (hts (.methodLink RX6 1 objectInit) (List.mem_of_getElem? (i := 1) rfl)) (hts (.instanceMethod objectInit) (List.mem_of_getElem? (i := 2) rfl)) (hts _ (List.mem_of_getElem? (i := 3) rfl)) rfl (by rw [hml]; exact hl.1) rfl dX6_init_1 (Nat.le_of_ble_eq_true rfl) (Nat.le_of_ble_eq_true rfl) ?_
  refine W.eq (g2 := F0 m 4 ls []) rfl ?_
  refine lv_aload_n hx hb dX6_init_4 rfl (lv_at hl 0 rfl) ?_
  refine lv_bipush (v := 16) hx hb dX6_init_5 (by decide) ?_
  refine va_newa (atype := .long) (ty := .long) (N' := 16) (a0 := (16, .inr (.inl (fun _ => 0)))) hx hb (hts (.arrayClass .long) (List.mem_of_getElem? (i := 4) rfl)) rfl hK hP hD hS hA (fun _ => rfl) (by decide) (by decide) (Nat.le_of_ble_eq_true rfl) (Nat.le_of_ble_eq_true rfl) (Nat.le_of_ble_eq_true rfl) dX6_init_7 ?_
  clear hP hD hS hK; try clear H
  intro q_1 k_2 H hK hP hD hS
  replace hP : va_P (dC, dI) vwCl [(h0, .inr (6, [.null, .null, .int 0])), (q_1, .inl (k_2, 16, .inr (.inl (fun _ => 0))))] H := hP
  replace hD : va_D A [(h0, .inr (6, [.null, .null, .int 0])), (q_1, .inl (k_2, 16, .inr (.inl (fun _ => 0))))] := hD
  replace hK : va_K (dC, dI) vwCl [(k_2, .long)] s := hK
  refine va_put (D := (dC, dI)) (ci := 6) (v := .ref q_1) (ty := .array .long) (C := RX6) (T := TX6) (N := 3) hx hb hts (in_X6_init_X6) tyX6 tyX6_ok nmX6 hown hK hP hD hS 0 rfl rfl 0 (by decide) (hts (.fieldLink RX6 7 "MotionSigns$Poly" "key" "[J") (List.mem_of_getElem? (i := 5) rfl)) (fun _ h9 => h9) rfl (tyX6_ok 0 (by decide)) rfl rfl (Nat.le_of_ble_eq_true rfl) dX6_init_9 ?_
  clear hP hD hS; try clear H
  intro H locs hP hD hS
  replace hP : va_P (dC, dI) vwCl [(h0, .inr (6, [.ref q_1, .null, .int 0])), (q_1, .inl (k_2, 16, .inr (.inl (fun _ => 0))))] H := hP
  replace hD : va_D A [(h0, .inr (6, [.ref q_1, .null, .int 0])), (q_1, .inl (k_2, 16, .inr (.inl (fun _ => 0))))] := hD
  refine lv_aload_n hx hb dX6_init_12 rfl (lv_at hl 0 rfl) ?_
  refine lv_bipush (v := 16) hx hb dX6_init_13 (by decide) ?_
  refine va_newa (atype := .long) (ty := .long) (N' := 16) (a0 := (16, .inr (.inl (fun _ => 0)))) hx hb (hts (.arrayClass .long) (List.mem_of_getElem? (i := 4) rfl)) rfl hK hP hD hS hA (fun _ => rfl) (by decide) (by decide) (Nat.le_of_ble_eq_true rfl) (Nat.le_of_ble_eq_true rfl) (Nat.le_of_ble_eq_true rfl) dX6_init_15 ?_
  clear hP hD hS hK; try clear H
  intro q_3 k_4 H hK hP hD hS
  replace hP : va_P (dC, dI) vwCl [(h0, .inr (6, [.ref q_1, .null, .int 0])), (q_1, .inl (k_2, 16, .inr (.inl (fun _ => 0)))), (q_3, .inl (k_4, 16, .inr (.inl (fun _ => 0))))] H := hP
  replace hD : va_D A [(h0, .inr (6, [.ref q_1, .null, .int 0])), (q_1, .inl (k_2, 16, .inr (.inl (fun _ => 0)))), (q_3, .inl (k_4, 16, .inr (.inl (fun _ => 0))))] := hD
  replace hK : va_K (dC, dI) vwCl [(k_2, .long), (k_4, .long)] s := hK
  refine va_put (D := (dC, dI)) (ci := 6) (v := .ref q_3) (ty := .array .long) (C := RX6) (T := TX6) (N := 3) hx hb hts (in_X6_init_X6) tyX6 tyX6_ok nmX6 hown hK hP hD hS 0 rfl rfl 1 (by decide) (hts (.fieldLink RX6 13 "MotionSigns$Poly" "val" "[J") (List.mem_of_getElem? (i := 6) rfl)) (fun _ h9 => h9) rfl (tyX6_ok 1 (by decide)) rfl rfl (Nat.le_of_ble_eq_true rfl) dX6_init_17 ?_
  clear hP hD hS; try clear H
  intro H locs hP hD hS
  replace hP : va_P (dC, dI) vwCl [(h0, .inr (6, [.ref q_1, .ref q_3, .int 0])), (q_1, .inl (k_2, 16, .inr (.inl (fun _ => 0)))), (q_3, .inl (k_4, 16, .inr (.inl (fun _ => 0))))] H := hP
  replace hD : va_D A [(h0, .inr (6, [.ref q_1, .ref q_3, .int 0])), (q_1, .inl (k_2, 16, .inr (.inl (fun _ => 0)))), (q_3, .inl (k_4, 16, .inr (.inl (fun _ => 0))))] := hD
  have hP9 := hP.sub (ws' := [(h0, .inr (6, [.ref q_1, .ref q_3, .int 0])), (q_1, .inl (k_2, 16, .inr (.inl (fun _ => 0)))), (q_3, .inl (k_4, 16, .inr (.inl (fun _ => 0))))]) [0, 1, 2] rfl
  have hD9 := hD.sub (ws' := [(h0, .inr (6, [.ref q_1, .ref q_3, .int 0])), (q_1, .inl (k_2, 16, .inr (.inl (fun _ => 0)))), (q_3, .inl (k_4, 16, .inr (.inl (fun _ => 0))))]) [0, 1, 2] (by decide) rfl
  have hK9 := hK.sub (tys' := [(k_2, .long), (k_4, .long)]) [0, 1] rfl
  rw [← hAe] at hD9
  refine W.widen (k := 2) (n := 32) (Nat.le_of_ble_eq_true rfl) (Nat.le_of_ble_eq_true rfl) ?_
  subst hQ0
  subst hAe
  exact W.vret hx hb hr (fun t ht hW => ⟨⟨(), rfl, trivial, q_1, q_3, k_2, k_4, by rw [ht]; exact hP9, va_K.moved hW.alike hK9, hD9⟩, hS.F ht⟩) hS.2.2 dX6_init_20
set_option maxHeartbeats 4000000 in
set_option maxRecDepth 100000 in
/-- Big() -/
theorem c_X1_init (l : Launch) (dC : Nat → ClassId) (dI : Nat → Nat → Nat) (h0 : Nat) (sz : Nat) : Met l yX1_init wsX1_init ({ frames := 1, cells := 1, slots := 3, locals := 12 }) (va_Pc [.ref h0] (fun U => U.heap.size = sz ∧ va_P (dC, dI) vwCl [(h0, .inr (1, [.int 0, .int 0, .null]))] U.heap ∧ va_K (dC, dI) vwCl [] U ∧ va_D (fun _ => True) [(h0, .inr (1, [.int 0, .int 0, .null]))] ∧ w_N U)) (va_Qv (fun _ : Unit => True) (fun _ t => ∃ (fs : List Value), va_P (dC, dI) vwCl [(h0, .inr (1, fs))] t.heap ∧ va_K (dC, dI) vwCl [] t ∧ va_D (va_A [(h0, .inr (1, [.int 0, .int 0, .null]))] sz) [(h0, .inr (1, fs))]) (va_A [(h0, .inr (1, [.int 0, .int 0, .null]))] sz)) 1 3 (va_A [(h0, .inr (1, [.int 0, .int 0, .null]))] sz) := by
  refine Met.ofW (cc := cX1_init) (maxL := 1) (ret := none) (by decide) rfl ?_
  intro p e s m args below meth c s₁ B hml hv
  obtain ⟨rfl, hsz, hP, hK, hD0, hN⟩ := hv
  have hx := B.exec
  have hb := B.bytes
  have hr := B.returns
  have hts := atoms_spec (ws := wsX1_init) B.pre
  have hown : s.vm.findClass RX1 = some m.cls := findClass_of_methodNamed B.named
  have hlocks := B.notSynchronized
  have hin : meth.name = "<init>" := (name_of_methodNamed B.named B.method).1
  subst hsz
  have hD := hD0.self (sz := s.heap.size)
  generalize hAe : va_A [(h0, .inr (1, [.int 0, .int 0, .null]))] s.heap.size = A at hD ⊢
  have hA : ∀ q : Nat, s.heap.size ≤ q → A q := fun q h => by rw [← hAe]; exact Or.inr h
  have hS : va_S A s.heap s.heap [] := va_S.rf
  have hP : va_P (dC, dI) vwCl [(h0, .inr (1, [.int 0, .int 0, .null]))] s.heap := hP
  have hl := lv_entry ([.ref h0]) (n := 1) (Nat.le_of_ble_eq_true rfl)
  rw [lg_entry_eq]
  generalize (lg_sl ([.ref h0]) ++ List.replicate (1 - (lg_sl ([.ref h0])).length) Slot.unset).toArray = ls at hl ⊢
  have hl : lv_has ls 1 [(0, .ref h0)] := hl
  refine gen_W (fun Q0 hQ0 => ?_)
  refine lv_aload_n hx hb dX1_init_0 rfl (lv_at hl 0 rfl) ?_
  refine W.objInit hx hb hown (hts (.methodLink RX1 1 objectInit) (List.mem_of_getElem? (i := 1) rfl)) (hts (.instanceMethod objectInit) (List.mem_of_getElem? (i := 2) rfl)) (hts _ (List.mem_of_getElem? (i := 3) rfl)) rfl (by rw [hml]; exact hl.1) rfl dX1_init_1 (Nat.le_of_ble_eq_true rfl) (Nat.le_of_ble_eq_true rfl) ?_
  refine W.eq (g2 := F0 m 4 ls []) rfl ?_
  refine lv_aload_n hx hb dX1_init_4 rfl (lv_at hl 0 rfl) ?_
  refine lv_iconst (v := 3) hx hb dX1_init_5 (by decide) ?_
  refine va_newa (atype := .int) (ty := .int) (N' := 3) (a0 := (3, .inl (fun _ => 0))) hx hb (hts (.arrayClass .int) (List.mem_of_getElem? (i := 4) rfl)) rfl hK hP hD hS hA (fun _ => rfl) (by decide) (by decide) (Nat.le_of_ble_eq_true rfl) (Nat.le_of_ble_eq_true rfl) (Nat.le_of_ble_eq_true rfl) dX1_init_6 ?_
  clear hP hD hS hK; try clear H
  intro q_1 k_2 H hK hP hD hS
  replace hP : va_P (dC, dI) vwCl [(h0, .inr (1, [.int 0, .int 0, .null])), (q_1, .inl (k_2, 3, .inl (fun _ => 0)))] H := hP
  replace hD : va_D A [(h0, .inr (1, [.int 0, .int 0, .null])), (q_1, .inl (k_2, 3, .inl (fun _ => 0)))] := hD
  replace hK : va_K (dC, dI) vwCl [(k_2, .int)] s := hK
  refine va_put (D := (dC, dI)) (ci := 1) (v := .ref q_1) (ty := .array .int) (C := RX1) (T := TX1) (N := 3) hx hb hts (in_X1_init_X1) tyX1 tyX1_ok nmX1 hown hK hP hD hS 0 rfl rfl 2 (by decide) (hts (.fieldLink RX1 7 "MotionSigns$Big" "limb" "[I") (List.mem_of_getElem? (i := 5) rfl)) (fun _ h9 => h9) rfl (tyX1_ok 2 (by decide)) rfl rfl (Nat.le_of_ble_eq_true rfl) dX1_init_8 ?_
  clear hP hD hS; try clear H
  intro H locs hP hD hS
  replace hP : va_P (dC, dI) vwCl [(h0, .inr (1, [.int 0, .int 0, .ref q_1])), (q_1, .inl (k_2, 3, .inl (fun _ => 0)))] H := hP
  replace hD : va_D A [(h0, .inr (1, [.int 0, .int 0, .ref q_1])), (q_1, .inl (k_2, 3, .inl (fun _ => 0)))] := hD
  have hP9 := hP.sub (ws' := [(h0, .inr (1, [.int 0, .int 0, .ref q_1]))]) [0] rfl
  have hD9 := hD.sub (ws' := [(h0, .inr (1, [.int 0, .int 0, .ref q_1]))]) [0] (by decide) rfl
  have hK9 := hK.sub (tys' := []) [] rfl
  rw [← hAe] at hD9
  refine W.widen (k := 1) (n := 3) (Nat.le_of_ble_eq_true rfl) (Nat.le_of_ble_eq_true rfl) ?_
  subst hQ0
  subst hAe
  exact W.vret hx hb hr (fun t ht hW => ⟨⟨(), rfl, trivial, [.int 0, .int 0, .ref q_1], by rw [ht]; exact hP9, va_K.moved hW.alike hK9, hD9⟩, hS.F ht⟩) hS.2.2 dX1_init_11
set_option maxHeartbeats 4000000 in
set_option maxRecDepth 100000 in
/-- Tally(boolean) -/
theorem c_X8_init_0 (l : Launch) (dC : Nat → ClassId) (dI : Nat → Nat → Nat) (h0 : Nat) (sz : Nat) : Met l yX8_init wsX8_init ({ frames := 1, cells := 5, slots := 4352, locals := 12 }) (va_Pc [.ref h0, .int 0] (fun U => U.heap.size = sz ∧ va_P (dC, dI) vwCl [(h0, .inr (8, [.null, .null, .null, .null, .null, .int 0]))] U.heap ∧ va_K (dC, dI) vwCl [] U ∧ va_D (fun _ => True) [(h0, .inr (8, [.null, .null, .null, .null, .null, .int 0]))] ∧ w_N U)) (va_Qv (fun _ : Unit => True) (fun _ t => va_P (dC, dI) vwCl [] t.heap ∧ va_K (dC, dI) vwCl [] t ∧ va_D (va_A [(h0, .inr (8, [.null, .null, .null, .null, .null, .int 0]))] sz) []) (va_A [(h0, .inr (8, [.null, .null, .null, .null, .null, .int 0]))] sz)) 5 4352 (va_A [(h0, .inr (8, [.null, .null, .null, .null, .null, .int 0]))] sz) := by
  refine Met.ofW (cc := cX8_init) (maxL := 2) (ret := none) (by decide) rfl ?_
  intro p e s m args below meth c s₁ B hml hv
  obtain ⟨rfl, hsz, hP, hK, hD0, hN⟩ := hv
  have hx := B.exec
  have hb := B.bytes
  have hr := B.returns
  have hts := atoms_spec (ws := wsX8_init) B.pre
  have hown : s.vm.findClass RX8 = some m.cls := findClass_of_methodNamed B.named
  have hlocks := B.notSynchronized
  have hin : meth.name = "<init>" := (name_of_methodNamed B.named B.method).1
  subst hsz
  have hD := hD0.self (sz := s.heap.size)
  generalize hAe : va_A [(h0, .inr (8, [.null, .null, .null, .null, .null, .int 0]))] s.heap.size = A at hD ⊢
  have hA : ∀ q : Nat, s.heap.size ≤ q → A q := fun q h => by rw [← hAe]; exact Or.inr h
  have hS : va_S A s.heap s.heap [] := va_S.rf
  have hP : va_P (dC, dI) vwCl [(h0, .inr (8, [.null, .null, .null, .null, .null, .int 0]))] s.heap := hP
  have hl := lv_entry ([.ref h0, .int 0]) (n := 2) (Nat.le_of_ble_eq_true rfl)
  rw [lg_entry_eq]
  generalize (lg_sl ([.ref h0, .int 0]) ++ List.replicate (2 - (lg_sl ([.ref h0, .int 0])).length) Slot.unset).toArray = ls at hl ⊢
  have hl : lv_has ls 2 [(0, .ref h0), (1, .int 0)] := hl
  refine gen_W (fun Q0 hQ0 => ?_)
  refine lv_aload_n hx hb dX8_init_0 rfl (lv_at hl 0 rfl) ?_
  refine W.objInit hx hb hown (hts (.methodLink RX8 3 objectInit) (List.mem_of_getElem? (i := 1) rfl)) (hts (.instanceMethod objectInit) (List.mem_of_getElem? (i := 2) rfl)) (hts _ (List.mem_of_getElem? (i := 3) rfl)) rfl (by rw [hml]; exact hl.1) rfl dX8_init_1 (Nat.le_of_ble_eq_true rfl) (Nat.le_of_ble_eq_true rfl) ?_
  refine W.eq (g2 := F0 m 4 ls []) rfl ?_
  refine lv_aload_n hx hb dX8_init_4 rfl (lv_at hl 0 rfl) ?_
  refine lv_bipush (v := 64) hx hb dX8_init_5 (by decide) ?_
  refine va_newa (atype := .long) (ty := .long) (N' := 64) (a0 := (64, .inr (.inl (fun _ => 0)))) hx hb (hts (.arrayClass .long) (List.mem_of_getElem? (i := 4) rfl)) rfl hK hP hD hS hA (fun _ => rfl) (by decide) (by decide) (Nat.le_of_ble_eq_true rfl) (Nat.le_of_ble_eq_true rfl) (Nat.le_of_ble_eq_true rfl) dX8_init_7 ?_
  clear hP hD hS hK; try clear H
  intro q_1 k_2 H hK hP hD hS
  replace hP : va_P (dC, dI) vwCl [(h0, .inr (8, [.null, .null, .null, .null, .null, .int 0])), (q_1, .inl (k_2, 64, .inr (.inl (fun _ => 0))))] H := hP
  replace hD : va_D A [(h0, .inr (8, [.null, .null, .null, .null, .null, .int 0])), (q_1, .inl (k_2, 64, .inr (.inl (fun _ => 0))))] := hD
  replace hK : va_K (dC, dI) vwCl [(k_2, .long)] s := hK
  refine va_put (D := (dC, dI)) (ci := 8) (v := .ref q_1) (ty := .array .long) (C := RX8) (T := TX8) (N := 6) hx hb hts (in_X8_init_X8) tyX8 tyX8_ok nmX8 hown hK hP hD hS 0 rfl rfl 1 (by decide) (hts (.fieldLink RX8 9 "MotionSigns$Tally" "key" "[J") (List.mem_of_getElem? (i := 5) rfl)) (fun _ h9 => h9) rfl (tyX8_ok 1 (by decide)) rfl rfl (Nat.le_of_ble_eq_true rfl) dX8_init_9 ?_
  clear hP hD hS; try clear H
  intro H locs hP hD hS
  replace hP : va_P (dC, dI) vwCl [(h0, .inr (8, [.null, .ref q_1, .null, .null, .null, .int 0])), (q_1, .inl (k_2, 64, .inr (.inl (fun _ => 0))))] H := hP
  replace hD : va_D A [(h0, .inr (8, [.null, .ref q_1, .null, .null, .null, .int 0])), (q_1, .inl (k_2, 64, .inr (.inl (fun _ => 0))))] := hD
  refine lv_aload_n hx hb dX8_init_12 rfl (lv_at hl 0 rfl) ?_
  refine lv_bipush (v := 64) hx hb dX8_init_13 (by decide) ?_
  refine va_newa (atype := .long) (ty := .long) (N' := 64) (a0 := (64, .inr (.inl (fun _ => 0)))) hx hb (hts (.arrayClass .long) (List.mem_of_getElem? (i := 4) rfl)) rfl hK hP hD hS hA (fun _ => rfl) (by decide) (by decide) (Nat.le_of_ble_eq_true rfl) (Nat.le_of_ble_eq_true rfl) (Nat.le_of_ble_eq_true rfl) dX8_init_15 ?_
  clear hP hD hS hK; try clear H
  intro q_3 k_4 H hK hP hD hS
  replace hP : va_P (dC, dI) vwCl [(h0, .inr (8, [.null, .ref q_1, .null, .null, .null, .int 0])), (q_1, .inl (k_2, 64, .inr (.inl (fun _ => 0)))), (q_3, .inl (k_4, 64, .inr (.inl (fun _ => 0))))] H := hP
  replace hD : va_D A [(h0, .inr (8, [.null, .ref q_1, .null, .null, .null, .int 0])), (q_1, .inl (k_2, 64, .inr (.inl (fun _ => 0)))), (q_3, .inl (k_4, 64, .inr (.inl (fun _ => 0))))] := hD
  replace hK : va_K (dC, dI) vwCl [(k_2, .long), (k_4, .long)] s := hK
  refine va_put (D := (dC, dI)) (ci := 8) (v := .ref q_3) (ty := .array .long) (C := RX8) (T := TX8) (N := 6) hx hb hts (in_X8_init_X8) tyX8 tyX8_ok nmX8 hown hK hP hD hS 0 rfl rfl 2 (by decide) (hts (.fieldLink RX8 15 "MotionSigns$Tally" "val" "[J") (List.mem_of_getElem? (i := 6) rfl)) (fun _ h9 => h9) rfl (tyX8_ok 2 (by decide)) rfl rfl (Nat.le_of_ble_eq_true rfl) dX8_init_17 ?_
  clear hP hD hS; try clear H
  intro H locs hP hD hS
  replace hP : va_P (dC, dI) vwCl [(h0, .inr (8, [.null, .ref q_1, .ref q_3, .null, .null, .int 0])), (q_1, .inl (k_2, 64, .inr (.inl (fun _ => 0)))), (q_3, .inl (k_4, 64, .inr (.inl (fun _ => 0))))] H := hP
  replace hD : va_D A [(h0, .inr (8, [.null, .ref q_1, .ref q_3, .null, .null, .int 0])), (q_1, .inl (k_2, 64, .inr (.inl (fun _ => 0)))), (q_3, .inl (k_4, 64, .inr (.inl (fun _ => 0))))] := hD
  refine lv_aload_n hx hb dX8_init_20 rfl (lv_at hl 0 rfl) ?_
  refine lv_bipush (v := 64) hx hb dX8_init_21 (by decide) ?_
  refine va_newa (atype := .int) (ty := .int) (N' := 64) (a0 := (64, .inl (fun _ => 0))) hx hb (hts (.arrayClass .int) (List.mem_of_getElem? (i := 7) rfl)) rfl hK hP hD hS hA (fun _ => rfl) (by decide) (by decide) (Nat.le_of_ble_eq_true rfl) (Nat.le_of_ble_eq_true rfl) (Nat.le_of_ble_eq_true rfl) dX8_init_23 ?_
  clear hP hD hS hK; try clear H
  intro q_5 k_6 H hK hP hD hS
  replace hP : va_P (dC, dI) vwCl [(h0, .inr (8, [.null, .ref q_1, .ref q_3, .null, .null, .int 0])), (q_1, .inl (k_2, 64, .inr (.inl (fun _ => 0)))), (q_3, .inl (k_4, 64, .inr (.inl (fun _ => 0)))), (q_5, .inl (k_6, 64, .inl (fun _ => 0)))] H := hP
  replace hD : va_D A [(h0, .inr (8, [.null, .ref q_1, .ref q_3, .null, .null, .int 0])), (q_1, .inl (k_2, 64, .inr (.inl (fun _ => 0)))), (q_3, .inl (k_4, 64, .inr (.inl (fun _ => 0)))), (q_5, .inl (k_6, 64, .inl (fun _ => 0)))] := hD
  replace hK : va_K (dC, dI) vwCl [(k_2, .long), (k_4, .long), (k_6, .int)] s := hK
  refine va_put (D := (dC, dI)) (ci := 8) (v := .ref q_5) (ty := .array .int) (C := RX8) (T := TX8) (N := 6) hx hb hts (in_X8_init_X8) tyX8 tyX8_ok nmX8 hown hK hP hD hS 0 rfl rfl 3 (by decide) (hts (.fieldLink RX8 18 "MotionSigns$Tally" "who" "[I") (List.mem_of_getElem? (i := 8) rfl)) (fun _ h9 => h9) rfl (tyX8_ok 3 (by decide)) rfl rfl (Nat.le_of_ble_eq_true rfl) dX8_init_25 ?_
  clear hP hD hS; try clear H
  intro H locs hP hD hS
  replace hP : va_P (dC, dI) vwCl [(h0, .inr (8, [.null, .ref q_1, .ref q_3, .ref q_5, .null, .int 0])), (q_1, .inl (k_2, 64, .inr (.inl (fun _ => 0)))), (q_3, .inl (k_4, 64, .inr (.inl (fun _ => 0)))), (q_5, .inl (k_6, 64, .inl (fun _ => 0)))] H := hP
  replace hD : va_D A [(h0, .inr (8, [.null, .ref q_1, .ref q_3, .ref q_5, .null, .int 0])), (q_1, .inl (k_2, 64, .inr (.inl (fun _ => 0)))), (q_3, .inl (k_4, 64, .inr (.inl (fun _ => 0)))), (q_5, .inl (k_6, 64, .inl (fun _ => 0)))] := hD
  refine lv_aload_n hx hb dX8_init_28 rfl (lv_at hl 0 rfl) ?_
  refine lv_bipush (v := 64) hx hb dX8_init_29 (by decide) ?_
  refine va_newa (atype := .int) (ty := .int) (N' := 64) (a0 := (64, .inl (fun _ => 0))) hx hb (hts (.arrayClass .int) (List.mem_of_getElem? (i := 7) rfl)) rfl hK hP hD hS hA (fun _ => rfl) (by decide) (by decide) (Nat.le_of_ble_eq_true rfl) (Nat.le_of_ble_eq_true rfl) (Nat.le_of_ble_eq_true rfl) dX8_init_31 ?_
  clear hP hD hS hK; try clear H
  intro q_7 k_8 H hK hP hD hS
  replace hP : va_P (dC, dI) vwCl [(h0, .inr (8, [.null, .ref q_1, .ref q_3, .ref q_5, .null, .int 0])), (q_1, .inl (k_2, 64, .inr (.inl (fun _ => 0)))), (q_3, .inl (k_4, 64, .inr (.inl (fun _ => 0)))), (q_5, .inl (k_6, 64, .inl (fun _ => 0))), (q_7, .inl (k_8, 64, .inl (fun _ => 0)))] H := hP
  replace hD : va_D A [(h0, .inr (8, [.null, .ref q_1, .ref q_3, .ref q_5, .null, .int 0])), (q_1, .inl (k_2, 64, .inr (.inl (fun _ => 0)))), (q_3, .inl (k_4, 64, .inr (.inl (fun _ => 0)))), (q_5, .inl (k_6, 64, .inl (fun _ => 0))), (q_7, .inl (k_8, 64, .inl (fun _ => 0)))] := hD
  replace hK : va_K (dC, dI) vwCl [(k_2, .long), (k_4, .long), (k_6, .int), (k_8, .int)] s := hK
  refine va_put (D := (dC, dI)) (ci := 8) (v := .ref q_7) (ty := .array .int) (C := RX8) (T := TX8) (N := 6) hx hb hts (in_X8_init_X8) tyX8 tyX8_ok nmX8 hown hK hP hD hS 0 rfl rfl 4 (by decide) (hts (.fieldLink RX8 22 "MotionSigns$Tally" "next" "[I") (List.mem_of_getElem? (i := 9) rfl)) (fun _ h9 => h9) rfl (tyX8_ok 4 (by decide)) rfl rfl (Nat.le_of_ble_eq_true rfl) dX8_init_33 ?_
  clear hP hD hS; try clear H
  intro H locs hP hD hS
  replace hP : va_P (dC, dI) vwCl [(h0, .inr (8, [.null, .ref q_1, .ref q_3, .ref q_5, .ref q_7, .int 0])), (q_1, .inl (k_2, 64, .inr (.inl (fun _ => 0)))), (q_3, .inl (k_4, 64, .inr (.inl (fun _ => 0)))), (q_5, .inl (k_6, 64, .inl (fun _ => 0))), (q_7, .inl (k_8, 64, .inl (fun _ => 0)))] H := hP
  replace hD : va_D A [(h0, .inr (8, [.null, .ref q_1, .ref q_3, .ref q_5, .ref q_7, .int 0])), (q_1, .inl (k_2, 64, .inr (.inl (fun _ => 0)))), (q_3, .inl (k_4, 64, .inr (.inl (fun _ => 0)))), (q_5, .inl (k_6, 64, .inl (fun _ => 0))), (q_7, .inl (k_8, 64, .inl (fun _ => 0)))] := hD
  refine lv_aload_n hx hb dX8_init_36 rfl (lv_at hl 0 rfl) ?_
  refine lv_iload_n hx hb dX8_init_37 rfl (lv_at hl 1 rfl) ?_
  refine lv_if_eq (tgt := 47) hx hb dX8_init_38 (by decide) (fun _ => ?_) (fun hc => absurd (by decide) hc)
  refine lv_sipush (v := 4096) hx hb dX8_init_47 (by decide) ?_
  refine va_newa (atype := .int) (ty := .int) (N' := 4096) (a0 := (4096, .inl (fun _ => 0))) hx hb (hts (.arrayClass .int) (List.mem_of_getElem? (i := 7) rfl)) rfl hK hP hD hS hA (fun _ => rfl) (by decide) (by decide) (Nat.le_of_ble_eq_true rfl) (Nat.le_of_ble_eq_true rfl) (Nat.le_of_ble_eq_true rfl) dX8_init_50 ?_
  clear hP hD hS hK; try clear H
  intro q_9 k_10 H hK hP hD hS
  replace hP : va_P (dC, dI) vwCl [(h0, .inr (8, [.null, .ref q_1, .ref q_3, .ref q_5, .ref q_7, .int 0])), (q_1, .inl (k_2, 64, .inr (.inl (fun _ => 0)))), (q_3, .inl (k_4, 64, .inr (.inl (fun _ => 0)))), (q_5, .inl (k_6, 64, .inl (fun _ => 0))), (q_7, .inl (k_8, 64, .inl (fun _ => 0))), (q_9, .inl (k_10, 4096, .inl (fun _ => 0)))] H := hP
  replace hD : va_D A [(h0, .inr (8, [.null, .ref q_1, .ref q_3, .ref q_5, .ref q_7, .int 0])), (q_1, .inl (k_2, 64, .inr (.inl (fun _ => 0)))), (q_3, .inl (k_4, 64, .inr (.inl (fun _ => 0)))), (q_5, .inl (k_6, 64, .inl (fun _ => 0))), (q_7, .inl (k_8, 64, .inl (fun _ => 0))), (q_9, .inl (k_10, 4096, .inl (fun _ => 0)))] := hD
  replace hK : va_K (dC, dI) vwCl [(k_2, .long), (k_4, .long), (k_6, .int), (k_8, .int), (k_10, .int)] s := hK
  refine va_putF (D := (dC, dI)) (ci := 8) (v := .ref q_9) (ty := .array .int) (C := RX8) (T := TX8) (N := 6) hx hb hts (in_X8_init_X8) tyX8 tyX8_ok nmX8 hown hK hP hD hS 0 rfl rfl 0 (by decide) (hts (.fieldLink RX8 25 "MotionSigns$Tally" "head" "[I") (List.mem_of_getElem? (i := 10) rfl)) (fun _ h9 => h9) rfl hin rfl (tyX8_ok 0 (by decide)) rfl rfl (Nat.le_of_ble_eq_true rfl) dX8_init_52 ?_
  clear hP hD hS; try clear H
  intro H locs hP hD hS
  replace hP : va_P (dC, dI) vwCl [(h0, .inr (8, [.ref q_9, .ref q_1, .ref q_3, .ref q_5, .ref q_7, .int 0])), (q_1, .inl (k_2, 64, .inr (.inl (fun _ => 0)))), (q_3, .inl (k_4, 64, .inr (.inl (fun _ => 0)))), (q_5, .inl (k_6, 64, .inl (fun _ => 0))), (q_7, .inl (k_8, 64, .inl (fun _ => 0))), (q_9, .inl (k_10, 4096, .inl (fun _ => 0)))] H := hP
  replace hD : va_D A [(h0, .inr (8, [.ref q_9, .ref q_1, .ref q_3, .ref q_5, .ref q_7, .int 0])), (q_1, .inl (k_2, 64, .inr (.inl (fun _ => 0)))), (q_3, .inl (k_4, 64, .inr (.inl (fun _ => 0)))), (q_5, .inl (k_6, 64, .inl (fun _ => 0))), (q_7, .inl (k_8, 64, .inl (fun _ => 0))), (q_9, .inl (k_10, 4096, .inl (fun _ => 0)))] := hD
  have hP9 := hP.sub (ws' := []) [] rfl
  have hD9 := hD.sub (ws' := []) [] (by decide) rfl
  have hK9 := hK.sub (tys' := []) [] rfl
  rw [← hAe] at hD9
  refine W.widen (k := 5) (n := 4352) (Nat.le_of_ble_eq_true rfl) (Nat.le_of_ble_eq_true rfl) ?_
  subst hQ0
  subst hAe
  exact W.vret hx hb hr (fun t ht hW => ⟨⟨(), rfl, trivial, by rw [ht]; exact hP9, va_K.moved hW.alike hK9, hD9⟩, hS.F ht⟩) hS.2.2 dX8_init_55
set_option maxHeartbeats 4000000 in
set_option maxRecDepth 100000 in
/-- Tally(boolean) -/
theorem c_X8_init_1 (l : Launch) (dC : Nat → ClassId) (dI : Nat → Nat → Nat) (h0 : Nat) (sz : Nat) : Met l yX8_init wsX8_init ({ frames := 1, cells := 5, slots := 16640, locals := 12 }) (va_Pc [.ref h0, .int 1] (fun U => U.heap.size = sz ∧ va_P (dC, dI) vwCl [(h0, .inr (8, [.null, .null, .null, .null, .null, .int 0]))] U.heap ∧ va_K (dC, dI) vwCl [] U ∧ va_D (fun _ => True) [(h0, .inr (8, [.null, .null, .null, .null, .null, .int 0]))] ∧ w_N U)) (va_Qv (fun _ : Unit => True) (fun _ t => va_P (dC, dI) vwCl [] t.heap ∧ va_K (dC, dI) vwCl [] t ∧ va_D (va_A [(h0, .inr (8, [.null, .null, .null, .null, .null, .int 0]))] sz) []) (va_A [(h0, .inr (8, [.null, .null, .null, .null, .null, .int 0]))] sz)) 5 16640 (va_A [(h0, .inr (8, [.null, .null, .null, .null, .null, .int 0]))] sz) := by
  refine Met.ofW (cc := cX8_init) (maxL := 2) (ret := none) (by decide) rfl ?_
  intro p e s m args below meth c s₁ B hml hv
  obtain ⟨rfl, hsz, hP, hK, hD0, hN⟩ := hv
  have hx := B.exec
  have hb := B.bytes
  have hr := B.returns
  have hts := atoms_spec (ws := wsX8_init) B.pre
  have hown : s.vm.findClass RX8 = some m.cls := findClass_of_methodNamed B.named
  have hlocks := B.notSynchronized
  have hin : meth.name = "<init>" := (name_of_methodNamed B.named B.method).1
  subst hsz
  have hD := hD0.self (sz := s.heap.size)
  generalize hAe : va_A [(h0, .inr (8, [.null, .null, .null, .null, .null, .int 0]))] s.heap.size = A at hD ⊢
  have hA : ∀ q : Nat, s.heap.size ≤ q → A q := fun q h => by rw [← hAe]; exact Or.inr h
  have hS : va_S A s.heap s.heap [] := va_S.rf
  have hP : va_P (dC, dI) vwCl [(h0, .inr (8, [.null, .null, .null, .null, .null, .int 0]))] s.heap := hP
  have hl := lv_entry ([.ref h0, .int 1]) (n := 2) (Nat.le_of_ble_eq_true rfl)
  rw [lg_entry_eq]
  generalize (lg_sl ([.ref h0, .int 1]) ++ List.replicate (2 - (lg_sl ([.ref h0, .int 1])).length) Slot.unset).toArray = ls at hl ⊢
  have hl : lv_has ls 2 [(0, .ref h0), (1, .int 1)] := hl
  refine gen_W (fun Q0 hQ0 => ?_)
  refine lv_aload_n hx hb dX8_init_0 rfl (lv_at hl 0 rfl) ?_
  refine W.objInit hx hb hown (hts (.methodLink RX8 3 objectInit) (List.mem_of_getElem? (i := 1) rfl)) (hts (.instanceMethod objectInit) (List.mem_of_getElem? (i := 2) rfl)) (hts _ (List.mem_of_getElem? (i := 3) rfl)) rfl (by rw [hml]; exact hl.1) rfl dX8_init_1 (Nat.le_of_ble_eq_true rfl) (Nat.le_of_ble_eq_true rfl) ?_
  refine W.eq (g2 := F0 m 4 ls []) rfl ?_
  refine lv_aload_n hx hb dX8_init_4 rfl (lv_at hl 0 rfl) ?_
  refine lv_bipush (v := 64) hx hb dX8_init_5 (by decide) ?_
  refine va_newa (atype := .long) (ty := .long) (N' := 64) (a0 := (64, .inr (.inl (fun _ => 0)))) hx hb (hts (.arrayClass .long) (List.mem_of_getElem? (i := 4) rfl)) rfl hK hP hD hS hA (fun _ => rfl) (by decide) (by decide) (Nat.le_of_ble_eq_true rfl) (Nat.le_of_ble_eq_true rfl) (Nat.le_of_ble_eq_true rfl) dX8_init_7 ?_
  clear hP hD hS hK; try clear H
  intro q_1 k_2 H hK hP hD hS
  replace hP : va_P (dC, dI) vwCl [(h0, .inr (8, [.null, .null, .null, .null, .null, .int 0])), (q_1, .inl (k_2, 64, .inr (.inl (fun _ => 0))))] H := hP
  replace hD : va_D A [(h0, .inr (8, [.null, .null, .null, .null, .null, .int 0])), (q_1, .inl (k_2, 64, .inr (.inl (fun _ => 0))))] := hD
  replace hK : va_K (dC, dI) vwCl [(k_2, .long)] s := hK
  refine va_put (D := (dC, dI)) (ci := 8) (v := .ref q_1) (ty := .array .long) (C := RX8) (T := TX8) (N := 6) hx hb hts (in_X8_init_X8) tyX8 tyX8_ok nmX8 hown hK hP hD hS 0 rfl rfl 1 (by decide) (hts (.fieldLink RX8 9 "MotionSigns$Tally" "key" "[J") (List.mem_of_getElem? (i := 5) rfl)) (fun _ h9 => h9) rfl (tyX8_ok 1 (by decide)) rfl rfl (Nat.le_of_ble_eq_true rfl) dX8_init_9 ?_
  clear hP hD hS; try clear H
  intro H locs hP hD hS
  replace hP : va_P (dC, dI) vwCl [(h0, .inr (8, [.null, .ref q_1, .null, .null, .null, .int 0])), (q_1, .inl (k_2, 64, .inr (.inl (fun _ => 0))))] H := hP
  replace hD : va_D A [(h0, .inr (8, [.null, .ref q_1, .null, .null, .null, .int 0])), (q_1, .inl (k_2, 64, .inr (.inl (fun _ => 0))))] := hD
  refine lv_aload_n hx hb dX8_init_12 rfl (lv_at hl 0 rfl) ?_
  refine lv_bipush (v := 64) hx hb dX8_init_13 (by decide) ?_
  refine va_newa (atype := .long) (ty := .long) (N' := 64) (a0 := (64, .inr (.inl (fun _ => 0)))) hx hb (hts (.arrayClass .long) (List.mem_of_getElem? (i := 4) rfl)) rfl hK hP hD hS hA (fun _ => rfl) (by decide) (by decide) (Nat.le_of_ble_eq_true rfl) (Nat.le_of_ble_eq_true rfl) (Nat.le_of_ble_eq_true rfl) dX8_init_15 ?_
  clear hP hD hS hK; try clear H
  intro q_3 k_4 H hK hP hD hS
  replace hP : va_P (dC, dI) vwCl [(h0, .inr (8, [.null, .ref q_1, .null, .null, .null, .int 0])), (q_1, .inl (k_2, 64, .inr (.inl (fun _ => 0)))), (q_3, .inl (k_4, 64, .inr (.inl (fun _ => 0))))] H := hP
  replace hD : va_D A [(h0, .inr (8, [.null, .ref q_1, .null, .null, .null, .int 0])), (q_1, .inl (k_2, 64, .inr (.inl (fun _ => 0)))), (q_3, .inl (k_4, 64, .inr (.inl (fun _ => 0))))] := hD
  replace hK : va_K (dC, dI) vwCl [(k_2, .long), (k_4, .long)] s := hK
  refine va_put (D := (dC, dI)) (ci := 8) (v := .ref q_3) (ty := .array .long) (C := RX8) (T := TX8) (N := 6) hx hb hts (in_X8_init_X8) tyX8 tyX8_ok nmX8 hown hK hP hD hS 0 rfl rfl 2 (by decide) (hts (.fieldLink RX8 15 "MotionSigns$Tally" "val" "[J") (List.mem_of_getElem? (i := 6) rfl)) (fun _ h9 => h9) rfl (tyX8_ok 2 (by decide)) rfl rfl (Nat.le_of_ble_eq_true rfl) dX8_init_17 ?_
  clear hP hD hS; try clear H
  intro H locs hP hD hS
  replace hP : va_P (dC, dI) vwCl [(h0, .inr (8, [.null, .ref q_1, .ref q_3, .null, .null, .int 0])), (q_1, .inl (k_2, 64, .inr (.inl (fun _ => 0)))), (q_3, .inl (k_4, 64, .inr (.inl (fun _ => 0))))] H := hP
  replace hD : va_D A [(h0, .inr (8, [.null, .ref q_1, .ref q_3, .null, .null, .int 0])), (q_1, .inl (k_2, 64, .inr (.inl (fun _ => 0)))), (q_3, .inl (k_4, 64, .inr (.inl (fun _ => 0))))] := hD
  refine lv_aload_n hx hb dX8_init_20 rfl (lv_at hl 0 rfl) ?_
  refine lv_bipush (v := 64) hx hb dX8_init_21 (by decide) ?_
  refine va_newa (atype := .int) (ty := .int) (N' := 64) (a0 := (64, .inl (fun _ => 0))) hx hb (hts (.arrayClass .int) (List.mem_of_getElem? (i := 7) rfl)) rfl hK hP hD hS hA (fun _ => rfl) (by decide) (by decide) (Nat.le_of_ble_eq_true rfl) (Nat.le_of_ble_eq_true rfl) (Nat.le_of_ble_eq_true rfl) dX8_init_23 ?_
  clear hP hD hS hK; try clear H
  intro q_5 k_6 H hK hP hD hS
  replace hP : va_P (dC, dI) vwCl [(h0, .inr (8, [.null, .ref q_1, .ref q_3, .null, .null, .int 0])), (q_1, .inl (k_2, 64, .inr (.inl (fun _ => 0)))), (q_3, .inl (k_4, 64, .inr (.inl (fun _ => 0)))), (q_5, .inl (k_6, 64, .inl (fun _ => 0)))] H := hP
  replace hD : va_D A [(h0, .inr (8, [.null, .ref q_1, .ref q_3, .null, .null, .int 0])), (q_1, .inl (k_2, 64, .inr (.inl (fun _ => 0)))), (q_3, .inl (k_4, 64, .inr (.inl (fun _ => 0)))), (q_5, .inl (k_6, 64, .inl (fun _ => 0)))] := hD
  replace hK : va_K (dC, dI) vwCl [(k_2, .long), (k_4, .long), (k_6, .int)] s := hK
  refine va_put (D := (dC, dI)) (ci := 8) (v := .ref q_5) (ty := .array .int) (C := RX8) (T := TX8) (N := 6) hx hb hts (in_X8_init_X8) tyX8 tyX8_ok nmX8 hown hK hP hD hS 0 rfl rfl 3 (by decide) (hts (.fieldLink RX8 18 "MotionSigns$Tally" "who" "[I") (List.mem_of_getElem? (i := 8) rfl)) (fun _ h9 => h9) rfl (tyX8_ok 3 (by decide)) rfl rfl (Nat.le_of_ble_eq_true rfl) dX8_init_25 ?_
  clear hP hD hS; try clear H
  intro H locs hP hD hS
  replace hP : va_P (dC, dI) vwCl [(h0, .inr (8, [.null, .ref q_1, .ref q_3, .ref q_5, .null, .int 0])), (q_1, .inl (k_2, 64, .inr (.inl (fun _ => 0)))), (q_3, .inl (k_4, 64, .inr (.inl (fun _ => 0)))), (q_5, .inl (k_6, 64, .inl (fun _ => 0)))] H := hP
  replace hD : va_D A [(h0, .inr (8, [.null, .ref q_1, .ref q_3, .ref q_5, .null, .int 0])), (q_1, .inl (k_2, 64, .inr (.inl (fun _ => 0)))), (q_3, .inl (k_4, 64, .inr (.inl (fun _ => 0)))), (q_5, .inl (k_6, 64, .inl (fun _ => 0)))] := hD
  refine lv_aload_n hx hb dX8_init_28 rfl (lv_at hl 0 rfl) ?_
  refine lv_bipush (v := 64) hx hb dX8_init_29 (by decide) ?_
  refine va_newa (atype := .int) (ty := .int) (N' := 64) (a0 := (64, .inl (fun _ => 0))) hx hb (hts (.arrayClass .int) (List.mem_of_getElem? (i := 7) rfl)) rfl hK hP hD hS hA (fun _ => rfl) (by decide) (by decide) (Nat.le_of_ble_eq_true rfl) (Nat.le_of_ble_eq_true rfl) (Nat.le_of_ble_eq_true rfl) dX8_init_31 ?_
  clear hP hD hS hK; try clear H
  intro q_7 k_8 H hK hP hD hS
  replace hP : va_P (dC, dI) vwCl [(h0, .inr (8, [.null, .ref q_1, .ref q_3, .ref q_5, .null, .int 0])), (q_1, .inl (k_2, 64, .inr (.inl (fun _ => 0)))), (q_3, .inl (k_4, 64, .inr (.inl (fun _ => 0)))), (q_5, .inl (k_6, 64, .inl (fun _ => 0))), (q_7, .inl (k_8, 64, .inl (fun _ => 0)))] H := hP
  replace hD : va_D A [(h0, .inr (8, [.null, .ref q_1, .ref q_3, .ref q_5, .null, .int 0])), (q_1, .inl (k_2, 64, .inr (.inl (fun _ => 0)))), (q_3, .inl (k_4, 64, .inr (.inl (fun _ => 0)))), (q_5, .inl (k_6, 64, .inl (fun _ => 0))), (q_7, .inl (k_8, 64, .inl (fun _ => 0)))] := hD
  replace hK : va_K (dC, dI) vwCl [(k_2, .long), (k_4, .long), (k_6, .int), (k_8, .int)] s := hK
  refine va_put (D := (dC, dI)) (ci := 8) (v := .ref q_7) (ty := .array .int) (C := RX8) (T := TX8) (N := 6) hx hb hts (in_X8_init_X8) tyX8 tyX8_ok nmX8 hown hK hP hD hS 0 rfl rfl 4 (by decide) (hts (.fieldLink RX8 22 "MotionSigns$Tally" "next" "[I") (List.mem_of_getElem? (i := 9) rfl)) (fun _ h9 => h9) rfl (tyX8_ok 4 (by decide)) rfl rfl (Nat.le_of_ble_eq_true rfl) dX8_init_33 ?_
  clear hP hD hS; try clear H
  intro H locs hP hD hS
  replace hP : va_P (dC, dI) vwCl [(h0, .inr (8, [.null, .ref q_1, .ref q_3, .ref q_5, .ref q_7, .int 0])), (q_1, .inl (k_2, 64, .inr (.inl (fun _ => 0)))), (q_3, .inl (k_4, 64, .inr (.inl (fun _ => 0)))), (q_5, .inl (k_6, 64, .inl (fun _ => 0))), (q_7, .inl (k_8, 64, .inl (fun _ => 0)))] H := hP
  replace hD : va_D A [(h0, .inr (8, [.null, .ref q_1, .ref q_3, .ref q_5, .ref q_7, .int 0])), (q_1, .inl (k_2, 64, .inr (.inl (fun _ => 0)))), (q_3, .inl (k_4, 64, .inr (.inl (fun _ => 0)))), (q_5, .inl (k_6, 64, .inl (fun _ => 0))), (q_7, .inl (k_8, 64, .inl (fun _ => 0)))] := hD
  refine lv_aload_n hx hb dX8_init_36 rfl (lv_at hl 0 rfl) ?_
  refine lv_iload_n hx hb dX8_init_37 rfl (lv_at hl 1 rfl) ?_
  refine lv_if_eq (tgt := 47) hx hb dX8_init_38 (by decide) (fun hc => absurd hc (by decide)) (fun _ => ?_)
  refine lv_sipush (v := 16384) hx hb dX8_init_41 (by decide) ?_
  refine lv_goto (tgt := 50) hx hb dX8_init_44 (by decide) ?_
  refine va_newa (atype := .int) (ty := .int) (N' := 16384) (a0 := (16384, .inl (fun _ => 0))) hx hb (hts (.arrayClass .int) (List.mem_of_getElem? (i := 7) rfl)) rfl hK hP hD hS hA (fun _ => rfl) (by decide) (by decide) (Nat.le_of_ble_eq_true rfl) (Nat.le_of_ble_eq_true rfl) (Nat.le_of_ble_eq_true rfl) dX8_init_50 ?_
  clear hP hD hS hK; try clear H
  intro q_9 k_10 H hK hP hD hS
  replace hP : va_P (dC, dI) vwCl [(h0, .inr (8, [.null, .ref q_1, .ref q_3, .ref q_5, .ref q_7, .int 0])), (q_1, .inl (k_2, 64, .inr (.inl (fun _ => 0)))), (q_3, .inl (k_4, 64, .inr (.inl (fun _ => 0)))), (q_5, .inl (k_6, 64, .inl (fun _ => 0))), (q_7, .inl (k_8, 64, .inl (fun _ => 0))), (q_9, .inl (k_10, 16384, .inl (fun _ => 0)))] H := hP
  replace hD : va_D A [(h0, .inr (8, [.null, .ref q_1, .ref q_3, .ref q_5, .ref q_7, .int 0])), (q_1, .inl (k_2, 64, .inr (.inl (fun _ => 0)))), (q_3, .inl (k_4, 64, .inr (.inl (fun _ => 0)))), (q_5, .inl (k_6, 64, .inl (fun _ => 0))), (q_7, .inl (k_8, 64, .inl (fun _ => 0))), (q_9, .inl (k_10, 16384, .inl (fun _ => 0)))] := hD
  replace hK : va_K (dC, dI) vwCl [(k_2, .long), (k_4, .long), (k_6, .int), (k_8, .int), (k_10, .int)] s := hK
  refine va_putF (D := (dC, dI)) (ci := 8) (v := .ref q_9) (ty := .array .int) (C := RX8) (T := TX8) (N := 6) hx hb hts (in_X8_init_X8) tyX8 tyX8_ok nmX8 hown hK hP hD hS 0 rfl rfl 0 (by decide) (hts (.fieldLink RX8 25 "MotionSigns$Tally" "head" "[I") (List.mem_of_getElem? (i := 10) rfl)) (fun _ h9 => h9) rfl hin rfl (tyX8_ok 0 (by decide)) rfl rfl (Nat.le_of_ble_eq_true rfl) dX8_init_52 ?_
  clear hP hD hS; try clear H
  intro H locs hP hD hS
  replace hP : va_P (dC, dI) vwCl [(h0, .inr (8, [.ref q_9, .ref q_1, .ref q_3, .ref q_5, .ref q_7, .int 0])), (q_1, .inl (k_2, 64, .inr (.inl (fun _ => 0)))), (q_3, .inl (k_4, 64, .inr (.inl (fun _ => 0)))), (q_5, .inl (k_6, 64, .inl (fun _ => 0))), (q_7, .inl (k_8, 64, .inl (fun _ => 0))), (q_9, .inl (k_10, 16384, .inl (fun _ => 0)))] H := hP
  replace hD : va_D A [(h0, .inr (8, [.ref q_9, .ref q_1, .ref q_3, .ref q_5, .ref q_7, .int 0])), (q_1, .inl (k_2, 64, .inr (.inl (fun _ => 0)))), (q_3, .inl (k_4, 64, .inr (.inl (fun _ => 0)))), (q_5, .inl (k_6, 64, .inl (fun _ => 0))), (q_7, .inl (k_8, 64, .inl (fun _ => 0))), (q_9, .inl (k_10, 16384, .inl (fun _ => 0)))] := hD
  have hP9 := hP.sub (ws' := []) [] rfl
  have hD9 := hD.sub (ws' := []) [] (by decide) rfl
  have hK9 := hK.sub (tys' := []) [] rfl
  rw [← hAe] at hD9
  refine W.widen (k := 5) (n := 16640) (Nat.le_of_ble_eq_true rfl) (Nat.le_of_ble_eq_true rfl) ?_
  subst hQ0
  subst hAe
  exact W.vret hx hb hr (fun t ht hW => ⟨⟨(), rfl, trivial, by rw [ht]; exact hP9, va_K.moved hW.alike hK9, hD9⟩, hS.F ht⟩) hS.2.2 dX8_init_55
set_option maxHeartbeats 4000000 in
set_option maxRecDepth 100000 in
/-- Works() -/
theorem c_X10_init (l : Launch) (dC : Nat → ClassId) (dI : Nat → Nat → Nat) (h0 : Nat) (sz : Nat) : Met l yX10_init wsX10_init ({ frames := 2, cells := 10, slots := 40, locals := 32 }) (va_Pc [.ref h0] (fun U => U.heap.size = sz ∧ va_P (dC, dI) vwCl [(h0, .inr (10, [.null, .null, .null, .null, .null, .null]))] U.heap ∧ va_K (dC, dI) vwCl [] U ∧ va_D (fun _ => True) [(h0, .inr (10, [.null, .null, .null, .null, .null, .null]))] ∧ w_N U)) (va_Qv (fun _ : Unit => True) (fun _ t => va_P (dC, dI) vwCl [] t.heap ∧ va_K (dC, dI) vwCl [] t ∧ va_D (va_A [(h0, .inr (10, [.null, .null, .null, .null, .null, .null]))] sz) []) (va_A [(h0, .inr (10, [.null, .null, .null, .null, .null, .null]))] sz)) 10 40 (va_A [(h0, .inr (10, [.null, .null, .null, .null, .null, .null]))] sz) := by
  refine Met.ofW (cc := cX10_init) (maxL := 1) (ret := none) (by decide) rfl ?_
  intro p e s m args below meth c s₁ B hml hv
  obtain ⟨rfl, hsz, hP, hK, hD0, hN⟩ := hv
  have hx := B.exec
  have hb := B.bytes
  have hr := B.returns
  have hts := atoms_spec (ws := wsX10_init) B.pre
  have hown : s.vm.findClass RX10 = some m.cls := findClass_of_methodNamed B.named
  have hlocks := B.notSynchronized
  have hin : meth.name = "<init>" := (name_of_methodNamed B.named B.method).1
  subst hsz
  have hD := hD0.self (sz := s.heap.size)
  generalize hAe : va_A [(h0, .inr (10, [.null, .null, .null, .null, .null, .null]))] s.heap.size = A at hD ⊢
  have hA : ∀ q : Nat, s.heap.size ≤ q → A q := fun q h => by rw [← hAe]; exact Or.inr h
  have hS : va_S A s.heap s.heap [] := va_S.rf
  have hP : va_P (dC, dI) vwCl [(h0, .inr (10, [.null, .null, .null, .null, .null, .null]))] s.heap := hP
  have hl := lv_entry ([.ref h0]) (n := 1) (Nat.le_of_ble_eq_true rfl)
  rw [lg_entry_eq]
  generalize (lg_sl ([.ref h0]) ++ List.replicate (1 - (lg_sl ([.ref h0])).length) Slot.unset).toArray = ls at hl ⊢
  have hl : lv_has ls 1 [(0, .ref h0)] := hl
  refine gen_W (fun Q0 hQ0 => ?_)
  refine lv_aload_n hx hb dX10_init_0 rfl (lv_at hl 0 rfl) ?_
  refine W.objInit hx hb hown (hts (.methodLink RX10 1 objectInit) (List.mem_of_getElem? (i := 1) rfl)) (hts (.instanceMethod objectInit) (List.mem_of_getElem? (i := 2) rfl)) (hts _ (List.mem_of_getElem? (i := 3) rfl)) rfl (by rw [hml]; exact hl.1) rfl dX10_init_1 (Nat.le_of_ble_eq_true rfl) (Nat.le_of_ble_eq_true rfl) ?_
  refine W.eq (g2 := F0 m 4 ls []) rfl ?_
  refine lv_aload_n hx hb dX10_init_4 rfl (lv_at hl 0 rfl) ?_
  refine va_new (ci := 1) (fs := [.int 0, .int 0, .null]) (C := RX1) (T := TX1) (N := 3) hx hb hts (in_X10_init_X1) tyX1 tyX1_ok hown (hts (.classLink RX10 7 RX1) (List.mem_of_getElem? (i := 4) rfl)) (hts (.instantiable RX1 3) (List.mem_of_getElem? (i := 5) rfl)) (hts (.initialized RX1) (List.mem_of_getElem? (i := 6) rfl)) hK hP hD hS hA rfl (fun j hj => by rcases (show j = 0 ∨ j = 1 ∨ j = 2 by omega) with rfl | rfl | rfl <;> rfl) (Nat.le_of_ble_eq_true rfl) (Nat.le_of_ble_eq_true rfl) dX10_init_5 ?_
  clear hP hD hS; try clear H
  intro q_1 H hP hD hS
  replace hP : va_P (dC, dI) vwCl [(h0, .inr (10, [.null, .null, .null, .null, .null, .null])), (q_1, .inr (1, [.int 0, .int 0, .null]))] H := hP
  replace hD : va_D A [(h0, .inr (10, [.null, .null, .null, .null, .null, .null])), (q_1, .inr (1, [.int 0, .int 0, .null]))] := hD
  refine lv_dup hx hb dX10_init_8 rfl ?_
  have hPc := hP.sub (ws' := [(q_1, .inr (1, [.int 0, .int 0, .null]))]) [1] rfl
  have hDc := hD.sub (ws' := [(q_1, .inr (1, [.int 0, .int 0, .null]))]) [1] (by decide) rfl
  have hKc := hK.sub (tys' := []) [] rfl
  have hFc := va_free (wc := [(q_1, .inr (1, [.int 0, .int 0, .null]))]) hD hS hA [1] rfl
  refine va_callv (va_runIN (As := []) (rest := [.ref q_1, .ref h0]) ⟨hx, hb, hml, hown, hts⟩ (c_X1_init l dC dI q_1 H.size) ⟨va_cnB 0 hts gX10_init_X1_init_n9 rfl rfl rfl (hN.1 (RX10, 9, yX1_init, RX11) (List.mem_of_getElem? (i := 1) rfl)) (hts (.initialized RX1) (List.mem_of_getElem? (i := 6) rfl)) hd_X1_init ⟨Nat.le_of_ble_eq_true rfl, Nat.le_of_ble_eq_true rfl⟩, rfl, (hts (.instanceMethod yX1_init) (List.mem_of_getElem? (i := 14) rfl))⟩ ⟨fun a U g mk q => by obtain ⟨q0, q1, qP, qK, qD, qE0⟩ := q; exact ⟨q0, q1, qP, va_K.moved (u := U) (U := U.calling g mk a) (Vm.Alike.refl U.vm) qK, qD, w_N.same rfl qE0⟩, fun U hU hW => ⟨rfl, by rw [hU], by rw [hU]; exact hPc, va_K.moved hW.alike hKc, hDc.weaken (fun _ _ _ _ => trivial), w_N.warm hW hN⟩⟩ rfl rfl hl.1 rfl (lv_room (Nat.le_of_ble_eq_true rfl)) dX10_init_9 ⟨(Nat.le_of_ble_eq_true rfl), (Nat.le_of_ble_eq_true rfl)⟩) hS (fun q _ h => hFc q h) hFc (fun u t H1 locs1 ht hvm hw hB hz1 hk1 hS1 => ?_)
  obtain ⟨f_2, hP1, hK1, hD1⟩ := hB
  rw [ht] at hP1
  have hK1 := va_K.moved hvm.symm hK1
  have hJ := va_join (wr := [(h0, .inr (10, [.null, .null, .null, .null, .null, .null]))]) (w1 := [(q_1, .inr (1, f_2))]) hP hD [1] [0] rfl rfl (by decide) (by decide) hk1 hFc hP1 hD1
  clear hP hD hPc hDc hKc hFc hz1 hw; try clear hk1
  obtain ⟨hP, hD⟩ := hJ
  replace hK := (hK.sub (tys' := []) [] rfl).app (hK1.sub (tys' := []) [] rfl)
  clear hP1 hK1 hD1 hvm ht hS; try clear t
  try clear H
  revert hS1
  intro hS
  generalize H1 = H at hP hS ⊢; try clear H1
  replace hP : va_P (dC, dI) vwCl [(h0, .inr (10, [.null, .null, .null, .null, .null, .null])), (q_1, .inr (1, f_2))] H := hP
  replace hD : va_D A [(h0, .inr (10, [.null, .null, .null, .null, .null, .null])), (q_1, .inr (1, f_2))] := hD
  replace hK : va_K (dC, dI) vwCl [] s := hK
  refine va_putF (D := (dC, dI)) (ci := 10) (v := .ref q_1) (ty := .object "MotionSigns$Big") (C := RX10) (T := TX10) (N := 6) hx hb hts (in_X10_init_X10) tyX10 tyX10_ok nmX10 hown hK hP hD hS 0 rfl rfl 0 (by decide) (hts (.fieldLink RX10 10 "MotionSigns$Works" "upper" "LMotionSigns$Big;") (List.mem_of_getElem? (i := 7) rfl)) (fun _ h9 => h9) rfl hin rfl (tyX10_ok 0 (by decide)) rfl rfl (Nat.le_of_ble_eq_true rfl) dX10_init_12 ?_
  clear hP hD hS; try clear H
  intro H locs hP hD hS
  replace hP : va_P (dC, dI) vwCl [(h0, .inr (10, [.ref q_1, .null, .null, .null, .null, .null])), (q_1, .inr (1, f_2))] H := hP
  replace hD : va_D A [(h0, .inr (10, [.ref q_1, .null, .null, .null, .null, .null])), (q_1, .inr (1, f_2))] := hD
  replace hP := hP.sub (ws' := [(h0, .inr (10, [.ref q_1, .null, .null, .null, .null, .null]))]) [0] rfl
  replace hD := hD.sub (ws' := [(h0, .inr (10, [.ref q_1, .null, .null, .null, .null, .null]))]) [0] (by decide) rfl
  refine lv_aload_n hx hb dX10_init_15 rfl (lv_at hl 0 rfl) ?_
  refine va_new (ci := 1) (fs := [.int 0, .int 0, .null]) (C := RX1) (T := TX1) (N := 3) hx hb hts (in_X10_init_X1) tyX1 tyX1_ok hown (hts (.classLink RX10 7 RX1) (List.mem_of_getElem? (i := 4) rfl)) (hts (.instantiable RX1 3) (List.mem_of_getElem? (i := 5) rfl)) (hts (.initialized RX1) (List.mem_of_getElem? (i := 6) rfl)) hK hP hD hS hA rfl (fun j hj => by rcases (show j = 0 ∨ j = 1 ∨ j = 2 by omega) with rfl | rfl | rfl <;> rfl) (Nat.le_of_ble_eq_true rfl) (Nat.le_of_ble_eq_true rfl) dX10_init_16 ?_
  clear hP hD hS; try clear H
  intro q_3 H hP hD hS
  replace hP : va_P (dC, dI) vwCl [(h0, .inr (10, [.ref q_1, .null, .null, .null, .null, .null])), (q_3, .inr (1, [.int 0, .int 0, .null]))] H := hP
  replace hD : va_D A [(h0, .inr (10, [.ref q_1, .null, .null, .null, .null, .null])), (q_3, .inr (1, [.int 0, .int 0, .null]))] := hD
  refine lv_dup hx hb dX10_init_19 rfl ?_
  have hPc := hP.sub (ws' := [(q_3, .inr (1, [.int 0, .int 0, .null]))]) [1] rfl
  have hDc := hD.sub (ws' := [(q_3, .inr (1, [.int 0, .int 0, .null]))]) [1] (by decide) rfl
  have hKc := hK.sub (tys' := []) [] rfl
  have hFc := va_free (wc := [(q_3, .inr (1, [.int 0, .int 0, .null]))]) hD hS hA [1] rfl
  refine va_callv (va_runIN (As := []) (rest := [.ref q_3, .ref h0]) ⟨hx, hb, hml, hown, hts⟩ (c_X1_init l dC dI q_3 H.size) ⟨va_cnB 0 hts gX10_init_X1_init_n9 rfl rfl rfl (hN.1 (RX10, 9, yX1_init, RX11) (List.mem_of_getElem? (i := 1) rfl)) (hts (.initialized RX1) (List.mem_of_getElem? (i := 6) rfl)) hd_X1_init ⟨Nat.le_of_ble_eq_true rfl, Nat.le_of_ble_eq_true rfl⟩, rfl, (hts (.instanceMethod yX1_init) (List.mem_of_getElem? (i := 14) rfl))⟩ ⟨fun a U g mk q => by obtain ⟨q0, q1, qP, qK, qD, qE0⟩ := q; exact ⟨q0, q1, qP, va_K.moved (u := U) (U := U.calling g mk a) (Vm.Alike.refl U.vm) qK, qD, w_N.same rfl qE0⟩, fun U hU hW => ⟨rfl, by rw [hU], by rw [hU]; exact hPc, va_K.moved hW.alike hKc, hDc.weaken (fun _ _ _ _ => trivial), w_N.warm hW hN⟩⟩ rfl rfl hl.1 rfl (lv_room (Nat.le_of_ble_eq_true rfl)) dX10_init_20 ⟨(Nat.le_of_ble_eq_true rfl), (Nat.le_of_ble_eq_true rfl)⟩) hS (fun q _ h => hFc q h) hFc (fun u t H1 locs1 ht hvm hw hB hz1 hk1 hS1 => ?_)
  obtain ⟨f_4, hP1, hK1, hD1⟩ := hB
  rw [ht] at hP1
  have hK1 := va_K.moved hvm.symm hK1
  have hJ := va_join (wr := [(h0, .inr (10, [.ref q_1, .null, .null, .null, .null, .null]))]) (w1 := [(q_3, .inr (1, f_4))]) hP hD [1] [0] rfl rfl (by decide) (by decide) hk1 hFc hP1 hD1
  clear hP hD hPc hDc hKc hFc hz1 hw; try clear hk1
  obtain ⟨hP, hD⟩ := hJ
  replace hK := (hK.sub (tys' := []) [] rfl).app (hK1.sub (tys' := []) [] rfl)
  clear hP1 hK1 hD1 hvm ht hS; try clear t
  try clear H
  revert hS1
  intro hS
  generalize H1 = H at hP hS ⊢; try clear H1
  replace hP : va_P (dC, dI) vwCl [(h0, .inr (10, [.ref q_1, .null, .null, .null, .null, .null])), (q_3, .inr (1, f_4))] H := hP
  replace hD : va_D A [(h0, .inr (10, [.ref q_1, .null, .null, .null, .null, .null])), (q_3, .inr (1, f_4))] := hD
  replace hK : va_K (dC, dI) vwCl [] s := hK
  refine va_putF (D := (dC, dI)) (ci := 10) (v := .ref q_3) (ty := .object "MotionSigns$Big") (C := RX10) (T := TX10) (N := 6) hx hb hts (in_X10_init_X10) tyX10 tyX10_ok nmX10 hown hK hP hD hS 0 rfl rfl 1 (by decide) (hts (.fieldLink RX10 16 "MotionSigns$Works" "lower" "LMotionSigns$Big;") (List.mem_of_getElem? (i := 8) rfl)) (fun _ h9 => h9) rfl hin rfl (tyX10_ok 1 (by decide)) rfl rfl (Nat.le_of_ble_eq_true rfl) dX10_init_23 ?_
  clear hP hD hS; try clear H
  intro H locs hP hD hS
  replace hP : va_P (dC, dI) vwCl [(h0, .inr (10, [.ref q_1, .ref q_3, .null, .null, .null, .null])), (q_3, .inr (1, f_4))] H := hP
  replace hD : va_D A [(h0, .inr (10, [.ref q_1, .ref q_3, .null, .null, .null, .null])), (q_3, .inr (1, f_4))] := hD
  replace hP := hP.sub (ws' := [(h0, .inr (10, [.ref q_1, .ref q_3, .null, .null, .null, .null]))]) [0] rfl
  replace hD := hD.sub (ws' := [(h0, .inr (10, [.ref q_1, .ref q_3, .null, .null, .null, .null]))]) [0] (by decide) rfl
  refine lv_aload_n hx hb dX10_init_26 rfl (lv_at hl 0 rfl) ?_
  refine va_new (ci := 1) (fs := [.int 0, .int 0, .null]) (C := RX1) (T := TX1) (N := 3) hx hb hts (in_X10_init_X1) tyX1 tyX1_ok hown (hts (.classLink RX10 7 RX1) (List.mem_of_getElem? (i := 4) rfl)) (hts (.instantiable RX1 3) (List.mem_of_getElem? (i := 5) rfl)) (hts (.initialized RX1) (List.mem_of_getElem? (i := 6) rfl)) hK hP hD hS hA rfl (fun j hj => by rcases (show j = 0 ∨ j = 1 ∨ j = 2 by omega) with rfl | rfl | rfl <;> rfl) (Nat.le_of_ble_eq_true rfl) (Nat.le_of_ble_eq_true rfl) dX10_init_27 ?_
  clear hP hD hS; try clear H
  intro q_5 H hP hD hS
  replace hP : va_P (dC, dI) vwCl [(h0, .inr (10, [.ref q_1, .ref q_3, .null, .null, .null, .null])), (q_5, .inr (1, [.int 0, .int 0, .null]))] H := hP
  replace hD : va_D A [(h0, .inr (10, [.ref q_1, .ref q_3, .null, .null, .null, .null])), (q_5, .inr (1, [.int 0, .int 0, .null]))] := hD
  refine lv_dup hx hb dX10_init_30 rfl ?_
  have hPc := hP.sub (ws' := [(q_5, .inr (1, [.int 0, .int 0, .null]))]) [1] rfl
  have hDc := hD.sub (ws' := [(q_5, .inr (1, [.int 0, .int 0, .null]))]) [1] (by decide) rfl
  have hKc := hK.sub (tys' := []) [] rfl
  have hFc := va_free (wc := [(q_5, .inr (1, [.int 0, .int 0, .null]))]) hD hS hA [1] rfl
  refine va_callv (va_runIN (As := []) (rest := [.ref q_5, .ref h0]) ⟨hx, hb, hml, hown, hts⟩ (c_X1_init l dC dI q_5 H.size) ⟨va_cnB 0 hts gX10_init_X1_init_n9 rfl rfl rfl (hN.1 (RX10, 9, yX1_init, RX11) (List.mem_of_getElem? (i := 1) rfl)) (hts (.initialized RX1) (List.mem_of_getElem? (i := 6) rfl)) hd_X1_init ⟨Nat.le_of_ble_eq_true rfl, Nat.le_of_ble_eq_true rfl⟩, rfl, (hts (.instanceMethod yX1_init) (List.mem_of_getElem? (i := 14) rfl))⟩ ⟨fun a U g mk q => by obtain ⟨q0, q1, qP, qK, qD, qE0⟩ := q; exact ⟨q0, q1, qP, va_K.moved (u := U) (U := U.calling g mk a) (Vm.Alike.refl U.vm) qK, qD, w_N.same rfl qE0⟩, fun U hU hW => ⟨rfl, by rw [hU], by rw [hU]; exact hPc, va_K.moved hW.alike hKc, hDc.weaken (fun _ _ _ _ => trivial), w_N.warm hW hN⟩⟩ rfl rfl hl.1 rfl (lv_room (Nat.le_of_ble_eq_true rfl)) dX10_init_31 ⟨(Nat.le_of_ble_eq_true rfl), (Nat.le_of_ble_eq_true rfl)⟩) hS (fun q _ h => hFc q h) hFc (fun u t H1 locs1 ht hvm hw hB hz1 hk1 hS1 => ?_)
  obtain ⟨f_6, hP1, hK1, hD1⟩ := hB
  rw [ht] at hP1
  have hK1 := va_K.moved hvm.symm hK1
  have hJ := va_join (wr := [(h0, .inr (10, [.ref q_1, .ref q_3, .null, .null, .null, .null]))]) (w1 := [(q_5, .inr (1, f_6))]) hP hD [1] [0] rfl rfl (by decide) (by decide) hk1 hFc hP1 hD1
  clear hP hD hPc hDc hKc hFc hz1 hw; try clear hk1
  obtain ⟨hP, hD⟩ := hJ
  replace hK := (hK.sub (tys' := []) [] rfl).app (hK1.sub (tys' := []) [] rfl)
  clear hP1 hK1 hD1 hvm ht hS; try clear t
  try clear H
  revert hS1
  intro hS
  generalize H1 = H at hP hS ⊢; try clear H1
  replace hP : va_P (dC, dI) vwCl [(h0, .inr (10, [.ref q_1, .ref q_3, .null, .null, .null, .null])), (q_5, .inr (1, f_6))] H := hP
  replace hD : va_D A [(h0, .inr (10, [.ref q_1, .ref q_3, .null, .null, .null, .null])), (q_5, .inr (1, f_6))] := hD
  replace hK : va_K (dC, dI) vwCl [] s := hK
  refine va_putF (D := (dC, dI)) (ci := 10) (v := .ref q_5) (ty := .object "MotionSigns$Big") (C := RX10) (T := TX10) (N := 6) hx hb hts (in_X10_init_X10) tyX10 tyX10_ok nmX10 hown hK hP hD hS 0 rfl rfl 2 (by decide) (hts (.fieldLink RX10 19 "MotionSigns$Works" "quotient" "LMotionSigns$Big;") (List.mem_of_getElem? (i := 9) rfl)) (fun _ h9 => h9) rfl hin rfl (tyX10_ok 2 (by decide)) rfl rfl (Nat.le_of_ble_eq_true rfl) dX10_init_34 ?_
  clear hP hD hS; try clear H
  intro H locs hP hD hS
  replace hP : va_P (dC, dI) vwCl [(h0, .inr (10, [.ref q_1, .ref q_3, .ref q_5, .null, .null, .null])), (q_5, .inr (1, f_6))] H := hP
  replace hD : va_D A [(h0, .inr (10, [.ref q_1, .ref q_3, .ref q_5, .null, .null, .null])), (q_5, .inr (1, f_6))] := hD
  replace hP := hP.sub (ws' := [(h0, .inr (10, [.ref q_1, .ref q_3, .ref q_5, .null, .null, .null]))]) [0] rfl
  replace hD := hD.sub (ws' := [(h0, .inr (10, [.ref q_1, .ref q_3, .ref q_5, .null, .null, .null]))]) [0] (by decide) rfl
  refine lv_aload_n hx hb dX10_init_37 rfl (lv_at hl 0 rfl) ?_
  refine va_new (ci := 1) (fs := [.int 0, .int 0, .null]) (C := RX1) (T := TX1) (N := 3) hx hb hts (in_X10_init_X1) tyX1 tyX1_ok hown (hts (.classLink RX10 7 RX1) (List.mem_of_getElem? (i := 4) rfl)) (hts (.instantiable RX1 3) (List.mem_of_getElem? (i := 5) rfl)) (hts (.initialized RX1) (List.mem_of_getElem? (i := 6) rfl)) hK hP hD hS hA rfl (fun j hj => by rcases (show j = 0 ∨ j = 1 ∨ j = 2 by omega) with rfl | rfl | rfl <;> rfl) (Nat.le_of_ble_eq_true rfl) (Nat.le_of_ble_eq_true rfl) dX10_init_38 ?_
  clear hP hD hS; try clear H
  intro q_7 H hP hD hS
  replace hP : va_P (dC, dI) vwCl [(h0, .inr (10, [.ref q_1, .ref q_3, .ref q_5, .null, .null, .null])), (q_7, .inr (1, [.int 0, .int 0, .null]))] H := hP
  replace hD : va_D A [(h0, .inr (10, [.ref q_1, .ref q_3, .ref q_5, .null, .null, .null])), (q_7, .inr (1, [.int 0, .int 0, .null]))] := hD
  refine lv_dup hx hb dX10_init_41 rfl ?_
  have hPc := hP.sub (ws' := [(q_7, .inr (1, [.int 0, .int 0, .null]))]) [1] rfl
  have hDc := hD.sub (ws' := [(q_7, .inr (1, [.int 0, .int 0, .null]))]) [1] (by decide) rfl
  have hKc := hK.sub (tys' := []) [] rfl
  have hFc := va_free (wc := [(q_7, .inr (1, [.int 0, .int 0, .null]))]) hD hS hA [1] rfl
  refine va_callv (va_runIN (As := []) (rest := [.ref q_7, .ref h0]) ⟨hx, hb, hml, hown, hts⟩ (c_X1_init l dC dI q_7 H.size) ⟨va_cnB 0 hts gX10_init_X1_init_n9 rfl rfl rfl (hN.1 (RX10, 9, yX1_init, RX11) (List.mem_of_getElem? (i := 1) rfl)) (hts (.initialized RX1) (List.mem_of_getElem? (i := 6) rfl)) hd_X1_init ⟨Nat.le_of_ble_eq_true rfl, Nat.le_of_ble_eq_true rfl⟩, rfl, (hts (.instanceMethod yX1_init) (List.mem_of_getElem? (i := 14) rfl))⟩ ⟨fun a U g mk q => by obtain ⟨q0, q1, qP, qK, qD, qE0⟩ := q; exact ⟨q0, q1, qP, va_K.moved (u := U) (U := U.calling g mk a) (Vm.Alike.refl U.vm) qK, qD, w_N.same rfl qE0⟩, fun U hU hW => ⟨rfl, by rw [hU], by rw [hU]; exact hPc, va_K.moved hW.alike hKc, hDc.weaken (fun _ _ _ _ => trivial), w_N.warm hW hN⟩⟩ rfl rfl hl.1 rfl (lv_room (Nat.le_of_ble_eq_true rfl)) dX10_init_42 ⟨(Nat.le_of_ble_eq_true rfl), (Nat.le_of_ble_eq_true rfl)⟩) hS (fun q _ h => hFc q h) hFc (fun u t H1 locs1 ht hvm hw hB hz1 hk1 hS1 => ?_)
  obtain ⟨f_8, hP1, hK1, hD1⟩ := hB
  rw [ht] at hP1
  have hK1 := va_K.moved hvm.symm hK1
  have hJ := va_join (wr := [(h0, .inr (10, [.ref q_1, .ref q_3, .ref q_5, .null, .null, .null]))]) (w1 := [(q_7, .inr (1, f_8))]) hP hD [1] [0] rfl rfl (by decide) (by decide) hk1 hFc hP1 hD1
  clear hP hD hPc hDc hKc hFc hz1 hw; try clear hk1
  obtain ⟨hP, hD⟩ := hJ
  replace hK := (hK.sub (tys' := []) [] rfl).app (hK1.sub (tys' := []) [] rfl)
  clear hP1 hK1 hD1 hvm ht hS; try clear t
  try clear H
  revert hS1
  intro hS
  generalize H1 = H at hP hS ⊢; try clear H1
  replace hP : va_P (dC, dI) vwCl [(h0, .inr (10, [.ref q_1, .ref q_3, .ref q_5, .null, .null, .null])), (q_7, .inr (1, f_8))] H := hP
  replace hD : va_D A [(h0, .inr (10, [.ref q_1, .ref q_3, .ref q_5, .null, .null, .null])), (q_7, .inr (1, f_8))] := hD
  replace hK : va_K (dC, dI) vwCl [] s := hK
  refine va_putF (D := (dC, dI)) (ci := 10) (v := .ref q_7) (ty := .object "MotionSigns$Big") (C := RX10) (T := TX10) (N := 6) hx hb hts (in_X10_init_X10) tyX10 tyX10_ok nmX10 hown hK hP hD hS 0 rfl rfl 3 (by decide) (hts (.fieldLink RX10 22 "MotionSigns$Works" "remainder" "LMotionSigns$Big;") (List.mem_of_getElem? (i := 10) rfl)) (fun _ h9 => h9) rfl hin rfl (tyX10_ok 3 (by decide)) rfl rfl (Nat.le_of_ble_eq_true rfl) dX10_init_45 ?_
  clear hP hD hS; try clear H
  intro H locs hP hD hS
  replace hP : va_P (dC, dI) vwCl [(h0, .inr (10, [.ref q_1, .ref q_3, .ref q_5, .ref q_7, .null, .null])), (q_7, .inr (1, f_8))] H := hP
  replace hD : va_D A [(h0, .inr (10, [.ref q_1, .ref q_3, .ref q_5, .ref q_7, .null, .null])), (q_7, .inr (1, f_8))] := hD
  replace hP := hP.sub (ws' := [(h0, .inr (10, [.ref q_1, .ref q_3, .ref q_5, .ref q_7, .null, .null]))]) [0] rfl
  replace hD := hD.sub (ws' := [(h0, .inr (10, [.ref q_1, .ref q_3, .ref q_5, .ref q_7, .null, .null]))]) [0] (by decide) rfl
  refine lv_aload_n hx hb dX10_init_48 rfl (lv_at hl 0 rfl) ?_
  refine lv_bipush (v := 8) hx hb dX10_init_49 (by decide) ?_
  refine va_newa (atype := .int) (ty := .int) (N' := 8) (a0 := (8, .inl (fun _ => 0))) hx hb (hts (.arrayClass .int) (List.mem_of_getElem? (i := 11) rfl)) rfl hK hP hD hS hA (fun _ => rfl) (by decide) (by decide) (Nat.le_of_ble_eq_true rfl) (Nat.le_of_ble_eq_true rfl) (Nat.le_of_ble_eq_true rfl) dX10_init_51 ?_
  clear hP hD hS hK; try clear H
  intro q_9 k_10 H hK hP hD hS
  replace hP : va_P (dC, dI) vwCl [(h0, .inr (10, [.ref q_1, .ref q_3, .ref q_5, .ref q_7, .null, .null])), (q_9, .inl (k_10, 8, .inl (fun _ => 0)))] H := hP
  replace hD : va_D A [(h0, .inr (10, [.ref q_1, .ref q_3, .ref q_5, .ref q_7, .null, .null])), (q_9, .inl (k_10, 8, .inl (fun _ => 0)))] := hD
  replace hK : va_K (dC, dI) vwCl [(k_10, .int)] s := hK
  refine va_put (D := (dC, dI)) (ci := 10) (v := .ref q_9) (ty := .array .int) (C := RX10) (T := TX10) (N := 6) hx hb hts (in_X10_init_X10) tyX10 tyX10_ok nmX10 hown hK hP hD hS 0 rfl rfl 4 (by decide) (hts (.fieldLink RX10 25 "MotionSigns$Works" "top" "[I") (List.mem_of_getElem? (i := 12) rfl)) (fun _ h9 => h9) rfl (tyX10_ok 4 (by decide)) rfl rfl (Nat.le_of_ble_eq_true rfl) dX10_init_53 ?_
  clear hP hD hS; try clear H
  intro H locs hP hD hS
  replace hP : va_P (dC, dI) vwCl [(h0, .inr (10, [.ref q_1, .ref q_3, .ref q_5, .ref q_7, .ref q_9, .null])), (q_9, .inl (k_10, 8, .inl (fun _ => 0)))] H := hP
  replace hD : va_D A [(h0, .inr (10, [.ref q_1, .ref q_3, .ref q_5, .ref q_7, .ref q_9, .null])), (q_9, .inl (k_10, 8, .inl (fun _ => 0)))] := hD
  replace hP := hP.sub (ws' := [(h0, .inr (10, [.ref q_1, .ref q_3, .ref q_5, .ref q_7, .ref q_9, .null]))]) [0] rfl
  replace hD := hD.sub (ws' := [(h0, .inr (10, [.ref q_1, .ref q_3, .ref q_5, .ref q_7, .ref q_9, .null]))]) [0] (by decide) rfl
  refine lv_aload_n hx hb dX10_init_56 rfl (lv_at hl 0 rfl) ?_
  refine lv_bipush (v := 8) hx hb dX10_init_57 (by decide) ?_
  refine va_newa (atype := .int) (ty := .int) (N' := 8) (a0 := (8, .inl (fun _ => 0))) hx hb (hts (.arrayClass .int) (List.mem_of_getElem? (i := 11) rfl)) rfl hK hP hD hS hA (fun _ => rfl) (by decide) (by decide) (Nat.le_of_ble_eq_true rfl) (Nat.le_of_ble_eq_true rfl) (Nat.le_of_ble_eq_true rfl) dX10_init_59 ?_
  clear hP hD hS hK; try clear H
  intro q_11 k_12 H hK hP hD hS
  replace hP : va_P (dC, dI) vwCl [(h0, .inr (10, [.ref q_1, .ref q_3, .ref q_5, .ref q_7, .ref q_9, .null])), (q_11, .inl (k_12, 8, .inl (fun _ => 0)))] H := hP
  replace hD : va_D A [(h0, .inr (10, [.ref q_1, .ref q_3, .ref q_5, .ref q_7, .ref q_9, .null])), (q_11, .inl (k_12, 8, .inl (fun _ => 0)))] := hD
  replace hK : va_K (dC, dI) vwCl [(k_10, .int), (k_12, .int)] s := hK
  refine va_put (D := (dC, dI)) (ci := 10) (v := .ref q_11) (ty := .array .int) (C := RX10) (T := TX10) (N := 6) hx hb hts (in_X10_init_X10) tyX10 tyX10_ok nmX10 hown hK hP hD hS 0 rfl rfl 5 (by decide) (hts (.fieldLink RX10 29 "MotionSigns$Works" "foot" "[I") (List.mem_of_getElem? (i := 13) rfl)) (fun _ h9 => h9) rfl (tyX10_ok 5 (by decide)) rfl rfl (Nat.le_of_ble_eq_true rfl) dX10_init_61 ?_
  clear hP hD hS; try clear H
  intro H locs hP hD hS
  replace hP : va_P (dC, dI) vwCl [(h0, .inr (10, [.ref q_1, .ref q_3, .ref q_5, .ref q_7, .ref q_9, .ref q_11])), (q_11, .inl (k_12, 8, .inl (fun _ => 0)))] H := hP
  replace hD : va_D A [(h0, .inr (10, [.ref q_1, .ref q_3, .ref q_5, .ref q_7, .ref q_9, .ref q_11])), (q_11, .inl (k_12, 8, .inl (fun _ => 0)))] := hD
  have hP9 := hP.sub (ws' := []) [] rfl
  have hD9 := hD.sub (ws' := []) [] (by decide) rfl
  have hK9 := hK.sub (tys' := []) [] rfl
  rw [← hAe] at hD9
  refine W.widen (k := 10) (n := 40) (Nat.le_of_ble_eq_true rfl) (Nat.le_of_ble_eq_true rfl) ?_
  subst hQ0
  subst hAe
  exact W.vret hx hb hr (fun t ht hW => ⟨⟨(), rfl, trivial, by rw [ht]; exact hP9, va_K.moved hW.alike hK9, hD9⟩, hS.F ht⟩) hS.2.2 dX10_init_64
