def wsT14 : List Cond := wsX14_init ++ [.classLink RX14 15 "[[LMotionSignsModel$Big;"]
def wsM15 : List Cond := wsX15_init ++ [.classLink RX15 113 "[[LMotionSignsModel$Big;", .classLink RX15 147 "[[LMotionSignsModel$Poly;", .classLink RX15 235 "[[[J", .classLink RX14 15 "[[LMotionSignsModel$Big;"]
theorem goodIn_big {a b ws : List Cond} (h : GoodIn a ws) : GoodIn (a ++ b) ws := fun w hw => ⟨List.mem_append_left _ (h w hw).1, (h w hw).2⟩
theorem gT14_X12 : GoodIn wsT14 wsX12_init := goodIn_big gX14_init_X12_init_n26
theorem gM15_X12 : GoodIn wsM15 wsX12_init := goodIn_big gX15_init_X12_init_n95
theorem gM15_X13 : GoodIn wsM15 wsX13_init := goodIn_big gX15_init_X13_init_n129
theorem gM15_T14 : GoodIn wsM15 wsT14 := goodIn_app (goodIn_big gX15_init_X14_init_n107) (goodIn_of _ (by decide +kernel))
theorem in_X12_init_X12 : ∀ w ∈ wsX120, w ∈ wsX12_init := by decide +kernel
theorem in_X13_init_X13 : ∀ w ∈ wsX130, w ∈ wsX13_init := by decide +kernel
theorem in_X14_init_X12 : ∀ w ∈ wsX120, w ∈ wsT14 := by decide +kernel
theorem in_X14_init_X14 : ∀ w ∈ wsX140, w ∈ wsT14 := by decide +kernel
theorem hd_X12_init : yX12_init.cls ≠ "java/lang/invoke/MethodHandle" ∧ yX12_init.cls ≠ "java/lang/invoke/VarHandle" ∧ (parseMethodDescriptor yX12_init.desc).map (fun d => d.parameters.length) = some 1 := by decide +kernel
set_option maxHeartbeats 4000000 in
set_option maxRecDepth 100000 in
/-- the reference: Big(270) -/
theorem c_X12_init (l : Launch) (dC : Nat → ClassId) (dI : Nat → Nat → Nat) (h0 : Nat) (sz : Nat) : Met l yX12_init wsX12_init ({ frames := 1, cells := 1, slots := 270, locals := 12 }) (va_Pc [.ref h0, .int 270] (fun U => U.heap.size = sz ∧ va_P (dC, dI) vwCl [(h0, .inr (12, [.null, .int 0, .int 0]))] U.heap ∧ va_K (dC, dI) vwCl [] U ∧ va_D (fun _ => True) [(h0, .inr (12, [.null, .int 0, .int 0]))] ∧ w_N U)) (va_Qv (fun _ : Unit => True) (fun _ t => ∃ (fs : List Value), va_P (dC, dI) vwCl [(h0, .inr (12, fs))] t.heap ∧ va_K (dC, dI) vwCl [] t ∧ va_D (va_A [(h0, .inr (12, [.null, .int 0, .int 0]))] sz) [(h0, .inr (12, fs))]) (va_A [(h0, .inr (12, [.null, .int 0, .int 0]))] sz)) 1 270 (va_A [(h0, .inr (12, [.null, .int 0, .int 0]))] sz) := by
  refine Met.ofW (cc := cX12_init) (maxL := 2) (ret := none) (by decide) rfl ?_
  intro p e s m args below meth c s₁ B hml hv
  obtain ⟨rfl, hsz, hP, hK, hD0, hN⟩ := hv
  have hx := B.exec
  have hb := B.bytes
  have hr := B.returns
  have hts := atoms_spec (ws := wsX12_init) B.pre
  have hown : s.vm.findClass RX12 = some m.cls := findClass_of_methodNamed B.named
  have hlocks := B.notSynchronized
  have hin : meth.name = "<init>" := (name_of_methodNamed B.named B.method).1
  subst hsz
  have hD := hD0.self (sz := s.heap.size)
  generalize hAe : va_A [(h0, .inr (12, [.null, .int 0, .int 0]))] s.heap.size = A at hD ⊢
  have hA : ∀ q : Nat, s.heap.size ≤ q → A q := fun q h => by rw [← hAe]; exact Or.inr h
  have hS : va_S A s.heap s.heap [] := va_S.rf
  have hP : va_P (dC, dI) vwCl [(h0, .inr (12, [.null, .int 0, .int 0]))] s.heap := hP
  have hl := lv_entry ([.ref h0, .int 270]) (n := 2) (Nat.le_of_ble_eq_true rfl)
  rw [lg_entry_eq]
  generalize (lg_sl ([.ref h0, .int 270]) ++ List.replicate (2 - (lg_sl ([.ref h0, .int 270])).length) Slot.unset).toArray = ls at hl ⊢
  have hl : lv_has ls 2 [(0, .ref h0), (1, .int 270)] := hl
  refine gen_W (fun Q0 hQ0 => ?_)
  refine lv_aload_n hx hb dX12_init_0 rfl (lv_at hl 0 rfl) ?_
  refine W.objInit hx hb hown (hts (.methodLink RX12 1 objectInit) (List.mem_of_getElem? (i := 1) rfl)) (hts (.instanceMethod objectInit) (List.mem_of_getElem? (i := 2) rfl)) (hts _ (List.mem_of_getElem? (i := 3) rfl)) rfl (by rw [hml]; exact hl.1) rfl dX12_init_1 (Nat.le_of_ble_eq_true rfl) (Nat.le_of_ble_eq_true rfl) ?_
  refine W.eq (g2 := F0 m 4 ls []) rfl ?_
  refine lv_aload_n hx hb dX12_init_4 rfl (lv_at hl 0 rfl) ?_
  refine lv_iload_n hx hb dX12_init_5 rfl (lv_at hl 1 rfl) ?_
  refine va_newa (atype := .int) (ty := .int) (N' := 270) (a0 := (270, .inl (fun _ => 0))) hx hb (hts (.arrayClass .int) (List.mem_of_getElem? (i := 4) rfl)) rfl hK hP hD hS hA (fun _ => rfl) (by decide) (by decide) (Nat.le_of_ble_eq_true rfl) (Nat.le_of_ble_eq_true rfl) (Nat.le_of_ble_eq_true rfl) dX12_init_6 ?_
  clear hP hD hS hK; try clear H
  intro q_1 k_2 H hK hP hD hS
  replace hP : va_P (dC, dI) vwCl [(h0, .inr (12, [.null, .int 0, .int 0])), (q_1, .inl (k_2, 270, .inl (fun _ => 0)))] H := hP
  replace hD : va_D A [(h0, .inr (12, [.null, .int 0, .int 0])), (q_1, .inl (k_2, 270, .inl (fun _ => 0)))] := hD
  replace hK : va_K (dC, dI) vwCl [(k_2, .int)] s := hK
  refine va_putF (D := (dC, dI)) (ci := 12) (v := .ref q_1) (ty := .array .int) (C := RX12) (T := TX12) (N := 3) hx hb hts (in_X12_init_X12) tyX12 tyX12_ok nmX12 hown hK hP hD hS 0 rfl rfl 0 (by decide) (hts (.fieldLink RX12 7 "MotionSignsModel$Big" "of" "[I") (List.mem_of_getElem? (i := 5) rfl)) (fun _ h9 => h9) rfl hin rfl (tyX12_ok 0 (by decide)) rfl rfl (Nat.le_of_ble_eq_true rfl) dX12_init_8 ?_
  clear hP hD hS; try clear H
  intro H locs hP hD hS
  replace hP : va_P (dC, dI) vwCl [(h0, .inr (12, [.ref q_1, .int 0, .int 0])), (q_1, .inl (k_2, 270, .inl (fun _ => 0)))] H := hP
  replace hD : va_D A [(h0, .inr (12, [.ref q_1, .int 0, .int 0])), (q_1, .inl (k_2, 270, .inl (fun _ => 0)))] := hD
  have hP9 := hP.sub (ws' := [(h0, .inr (12, [.ref q_1, .int 0, .int 0]))]) [0] rfl
  have hD9 := hD.sub (ws' := [(h0, .inr (12, [.ref q_1, .int 0, .int 0]))]) [0] (by decide) rfl
  have hK9 := hK.sub (tys' := []) [] rfl
  rw [← hAe] at hD9
  refine W.widen (k := 1) (n := 270) (Nat.le_of_ble_eq_true rfl) (Nat.le_of_ble_eq_true rfl) ?_
  subst hQ0
  subst hAe
  exact W.vret hx hb hr (fun t ht hW => ⟨⟨(), rfl, trivial, [.ref q_1, .int 0, .int 0], by rw [ht]; exact hP9, va_K.moved hW.alike hK9, hD9⟩, hS.F ht⟩) hS.2.2 dX12_init_11
set_option maxHeartbeats 4000000 in
set_option maxRecDepth 100000 in
/-- the reference: Poly(64) -/
theorem c_X13_init_64 (l : Launch) (dC : Nat → ClassId) (dI : Nat → Nat → Nat) (h0 : Nat) (sz : Nat) : Met l yX13_init wsX13_init ({ frames := 1, cells := 4, slots := 320, locals := 12 }) (va_Pc [.ref h0, .int 64] (fun U => U.heap.size = sz ∧ va_P (dC, dI) vwCl [(h0, .inr (13, [.null, .null, .null, .null, .int 0]))] U.heap ∧ va_K (dC, dI) vwCl [] U ∧ va_D (fun _ => True) [(h0, .inr (13, [.null, .null, .null, .null, .int 0]))] ∧ w_N U)) (va_Qv (fun _ : Unit => True) (fun _ t => ∃ (q1 : Nat) (q2 : Nat) (q3 : Nat) (q4 : Nat) (k3 : Nat), va_P (dC, dI) vwCl [(h0, .inr (13, [.ref q1, .ref q2, .ref q3, .ref q4, .int 0])), (q3, .inl (k3, 128, .inl (fun _ => 0)))] t.heap ∧ va_K (dC, dI) vwCl [(k3, .int)] t ∧ va_D (va_A [(h0, .inr (13, [.null, .null, .null, .null, .int 0]))] sz) [(h0, .inr (13, [.ref q1, .ref q2, .ref q3, .ref q4, .int 0])), (q3, .inl (k3, 128, .inl (fun _ => 0)))]) (va_A [(h0, .inr (13, [.null, .null, .null, .null, .int 0]))] sz)) 4 320 (va_A [(h0, .inr (13, [.null, .null, .null, .null, .int 0]))] sz) := by
  refine Met.ofW (cc := cX13_init) (maxL := 2) (ret := none) (by decide) rfl ?_
  intro p e s m args below meth c s₁ B hml hv
  obtain ⟨rfl, hsz, hP, hK, hD0, hN⟩ := hv
  have hx := B.exec
  have hb := B.bytes
  have hr := B.returns
  have hts := atoms_spec (ws := wsX13_init) B.pre
  have hown : s.vm.findClass RX13 = some m.cls := findClass_of_methodNamed B.named
  have hlocks := B.notSynchronized
  have hin : meth.name = "<init>" := (name_of_methodNamed B.named B.method).1
  subst hsz
  have hD := hD0.self (sz := s.heap.size)
  generalize hAe : va_A [(h0, .inr (13, [.null, .null, .null, .null, .int 0]))] s.heap.size = A at hD ⊢
  have hA : ∀ q : Nat, s.heap.size ≤ q → A q := fun q h => by rw [← hAe]; exact Or.inr h
  have hS : va_S A s.heap s.heap [] := va_S.rf
  have hP : va_P (dC, dI) vwCl [(h0, .inr (13, [.null, .null, .null, .null, .int 0]))] s.heap := hP
  have hl := lv_entry ([.ref h0, .int 64]) (n := 2) (Nat.le_of_ble_eq_true rfl)
  rw [lg_entry_eq]
  generalize (lg_sl ([.ref h0, .int 64]) ++ List.replicate (2 - (lg_sl ([.ref h0, .int 64])).length) Slot.unset).toArray = ls at hl ⊢
  have hl : lv_has ls 2 [(0, .ref h0), (1, .int 64)] := hl
  refine gen_W (fun Q0 hQ0 => ?_)
  refine lv_aload_n hx hb dX13_init_0 rfl (lv_at hl 0 rfl) ?_
  refine W.objInit hx hb hown (hts (.methodLink RX13 3 objectInit) (List.mem_of_getElem? (i := 1) rfl)) (hts (.instanceMethod objectInit) (List.mem_of_getElem? (i := 2) rfl)) (hts _ (List.mem_of_getElem? (i := 3) rfl)) rfl (by rw [hml]; exact hl.1) rfl dX13_init_1 (Nat.le_of_ble_eq_true rfl) (Nat.le_of_ble_eq_true rfl) ?_
  refine W.eq (g2 := F0 m 4 ls []) rfl ?_
  refine lv_aload_n hx hb dX13_init_4 rfl (lv_at hl 0 rfl) ?_
  refine lv_iload_n hx hb dX13_init_5 rfl (lv_at hl 1 rfl) ?_
  refine va_newa (atype := .long) (ty := .long) (N' := 64) (a0 := (64, .inr (.inl (fun _ => 0)))) hx hb (hts (.arrayClass .long) (List.mem_of_getElem? (i := 4) rfl)) rfl hK hP hD hS hA (fun _ => rfl) (by decide) (by decide) (Nat.le_of_ble_eq_true rfl) (Nat.le_of_ble_eq_true rfl) (Nat.le_of_ble_eq_true rfl) dX13_init_6 ?_
  clear hP hD hS hK; try clear H
  intro q_1 k_2 H hK hP hD hS
  replace hP : va_P (dC, dI) vwCl [(h0, .inr (13, [.null, .null, .null, .null, .int 0])), (q_1, .inl (k_2, 64, .inr (.inl (fun _ => 0))))] H := hP
  replace hD : va_D A [(h0, .inr (13, [.null, .null, .null, .null, .int 0])), (q_1, .inl (k_2, 64, .inr (.inl (fun _ => 0))))] := hD
  replace hK : va_K (dC, dI) vwCl [(k_2, .long)] s := hK
  refine va_putF (D := (dC, dI)) (ci := 13) (v := .ref q_1) (ty := .array .long) (C := RX13) (T := TX13) (N := 5) hx hb hts (in_X13_init_X13) tyX13 tyX13_ok nmX13 hown hK hP hD hS 0 rfl rfl 0 (by decide) (hts (.fieldLink RX13 9 "MotionSignsModel$Poly" "key" "[J") (List.mem_of_getElem? (i := 5) rfl)) (fun _ h9 => h9) rfl hin rfl (tyX13_ok 0 (by decide)) rfl rfl (Nat.le_of_ble_eq_true rfl) dX13_init_8 ?_
  clear hP hD hS; try clear H
  intro H locs hP hD hS
  replace hP : va_P (dC, dI) vwCl [(h0, .inr (13, [.ref q_1, .null, .null, .null, .int 0])), (q_1, .inl (k_2, 64, .inr (.inl (fun _ => 0))))] H := hP
  replace hD : va_D A [(h0, .inr (13, [.ref q_1, .null, .null, .null, .int 0])), (q_1, .inl (k_2, 64, .inr (.inl (fun _ => 0))))] := hD
  refine lv_aload_n hx hb dX13_init_11 rfl (lv_at hl 0 rfl) ?_
  refine lv_iload_n hx hb dX13_init_12 rfl (lv_at hl 1 rfl) ?_
  refine va_newa (atype := .long) (ty := .long) (N' := 64) (a0 := (64, .inr (.inl (fun _ => 0)))) hx hb (hts (.arrayClass .long) (List.mem_of_getElem? (i := 4) rfl)) rfl hK hP hD hS hA (fun _ => rfl) (by decide) (by decide) (Nat.le_of_ble_eq_true rfl) (Nat.le_of_ble_eq_true rfl) (Nat.le_of_ble_eq_true rfl) dX13_init_13 ?_
  clear hP hD hS hK; try clear H
  intro q_3 k_4 H hK hP hD hS
  replace hP : va_P (dC, dI) vwCl [(h0, .inr (13, [.ref q_1, .null, .null, .null, .int 0])), (q_1, .inl (k_2, 64, .inr (.inl (fun _ => 0)))), (q_3, .inl (k_4, 64, .inr (.inl (fun _ => 0))))] H := hP
  replace hD : va_D A [(h0, .inr (13, [.ref q_1, .null, .null, .null, .int 0])), (q_1, .inl (k_2, 64, .inr (.inl (fun _ => 0)))), (q_3, .inl (k_4, 64, .inr (.inl (fun _ => 0))))] := hD
  replace hK : va_K (dC, dI) vwCl [(k_2, .long), (k_4, .long)] s := hK
  refine va_putF (D := (dC, dI)) (ci := 13) (v := .ref q_3) (ty := .array .long) (C := RX13) (T := TX13) (N := 5) hx hb hts (in_X13_init_X13) tyX13 tyX13_ok nmX13 hown hK hP hD hS 0 rfl rfl 1 (by decide) (hts (.fieldLink RX13 15 "MotionSignsModel$Poly" "num" "[J") (List.mem_of_getElem? (i := 6) rfl)) (fun _ h9 => h9) rfl hin rfl (tyX13_ok 1 (by decide)) rfl rfl (Nat.le_of_ble_eq_true rfl) dX13_init_15 ?_
  clear hP hD hS; try clear H
  intro H locs hP hD hS
  replace hP : va_P (dC, dI) vwCl [(h0, .inr (13, [.ref q_1, .ref q_3, .null, .null, .int 0])), (q_1, .inl (k_2, 64, .inr (.inl (fun _ => 0)))), (q_3, .inl (k_4, 64, .inr (.inl (fun _ => 0))))] H := hP
  replace hD : va_D A [(h0, .inr (13, [.ref q_1, .ref q_3, .null, .null, .int 0])), (q_1, .inl (k_2, 64, .inr (.inl (fun _ => 0)))), (q_3, .inl (k_4, 64, .inr (.inl (fun _ => 0))))] := hD
  refine lv_aload_n hx hb dX13_init_18 rfl (lv_at hl 0 rfl) ?_
  refine lv_iconst (v := 2) hx hb dX13_init_19 (by decide) ?_
  refine lv_iload_n hx hb dX13_init_20 rfl (lv_at hl 1 rfl) ?_
  refine lv_imul hx hb dX13_init_21 ?_
  refine lv_topi (fun v_5 ev_5 => ?_)
  have ev_5 : v_5 = 128 := ev_5.trans (by decide)
  subst ev_5
  refine va_newa (atype := .int) (ty := .int) (N' := 128) (a0 := (128, .inl (fun _ => 0))) hx hb (hts (.arrayClass .int) (List.mem_of_getElem? (i := 7) rfl)) rfl hK hP hD hS hA (fun _ => rfl) (by decide) (by decide) (Nat.le_of_ble_eq_true rfl) (Nat.le_of_ble_eq_true rfl) (Nat.le_of_ble_eq_true rfl) dX13_init_22 ?_
  clear hP hD hS hK; try clear H
  intro q_6 k_7 H hK hP hD hS
  replace hP : va_P (dC, dI) vwCl [(h0, .inr (13, [.ref q_1, .ref q_3, .null, .null, .int 0])), (q_1, .inl (k_2, 64, .inr (.inl (fun _ => 0)))), (q_3, .inl (k_4, 64, .inr (.inl (fun _ => 0)))), (q_6, .inl (k_7, 128, .inl (fun _ => 0)))] H := hP
  replace hD : va_D A [(h0, .inr (13, [.ref q_1, .ref q_3, .null, .null, .int 0])), (q_1, .inl (k_2, 64, .inr (.inl (fun _ => 0)))), (q_3, .inl (k_4, 64, .inr (.inl (fun _ => 0)))), (q_6, .inl (k_7, 128, .inl (fun _ => 0)))] := hD
  replace hK : va_K (dC, dI) vwCl [(k_2, .long), (k_4, .long), (k_7, .int)] s := hK
  refine va_putF (D := (dC, dI)) (ci := 13) (v := .ref q_6) (ty := .array .int) (C := RX13) (T := TX13) (N := 5) hx hb hts (in_X13_init_X13) tyX13 tyX13_ok nmX13 hown hK hP hD hS 0 rfl rfl 2 (by decide) (hts (.fieldLink RX13 18 "MotionSignsModel$Poly" "slot" "[I") (List.mem_of_getElem? (i := 8) rfl)) (fun _ h9 => h9) rfl hin rfl (tyX13_ok 2 (by decide)) rfl rfl (Nat.le_of_ble_eq_true rfl) dX13_init_24 ?_
  clear hP hD hS; try clear H
  intro H locs hP hD hS
  replace hP : va_P (dC, dI) vwCl [(h0, .inr (13, [.ref q_1, .ref q_3, .ref q_6, .null, .int 0])), (q_1, .inl (k_2, 64, .inr (.inl (fun _ => 0)))), (q_3, .inl (k_4, 64, .inr (.inl (fun _ => 0)))), (q_6, .inl (k_7, 128, .inl (fun _ => 0)))] H := hP
  replace hD : va_D A [(h0, .inr (13, [.ref q_1, .ref q_3, .ref q_6, .null, .int 0])), (q_1, .inl (k_2, 64, .inr (.inl (fun _ => 0)))), (q_3, .inl (k_4, 64, .inr (.inl (fun _ => 0)))), (q_6, .inl (k_7, 128, .inl (fun _ => 0)))] := hD
  refine lv_aload_n hx hb dX13_init_27 rfl (lv_at hl 0 rfl) ?_
  refine lv_iload_n hx hb dX13_init_28 rfl (lv_at hl 1 rfl) ?_
  refine va_newa (atype := .int) (ty := .int) (N' := 64) (a0 := (64, .inl (fun _ => 0))) hx hb (hts (.arrayClass .int) (List.mem_of_getElem? (i := 7) rfl)) rfl hK hP hD hS hA (fun _ => rfl) (by decide) (by decide) (Nat.le_of_ble_eq_true rfl) (Nat.le_of_ble_eq_true rfl) (Nat.le_of_ble_eq_true rfl) dX13_init_29 ?_
  clear hP hD hS hK; try clear H
  intro q_8 k_9 H hK hP hD hS
  replace hP : va_P (dC, dI) vwCl [(h0, .inr (13, [.ref q_1, .ref q_3, .ref q_6, .null, .int 0])), (q_1, .inl (k_2, 64, .inr (.inl (fun _ => 0)))), (q_3, .inl (k_4, 64, .inr (.inl (fun _ => 0)))), (q_6, .inl (k_7, 128, .inl (fun _ => 0))), (q_8, .inl (k_9, 64, .inl (fun _ => 0)))] H := hP
  replace hD : va_D A [(h0, .inr (13, [.ref q_1, .ref q_3, .ref q_6, .null, .int 0])), (q_1, .inl (k_2, 64, .inr (.inl (fun _ => 0)))), (q_3, .inl (k_4, 64, .inr (.inl (fun _ => 0)))), (q_6, .inl (k_7, 128, .inl (fun _ => 0))), (q_8, .inl (k_9, 64, .inl (fun _ => 0)))] := hD
  replace hK : va_K (dC, dI) vwCl [(k_2, .long), (k_4, .long), (k_7, .int), (k_9, .int)] s := hK
  refine va_putF (D := (dC, dI)) (ci := 13) (v := .ref q_8) (ty := .array .int) (C := RX13) (T := TX13) (N := 5) hx hb hts (in_X13_init_X13) tyX13 tyX13_ok nmX13 hown hK hP hD hS 0 rfl rfl 3 (by decide) (hts (.fieldLink RX13 22 "MotionSignsModel$Poly" "where" "[I") (List.mem_of_getElem? (i := 9) rfl)) (fun _ h9 => h9) rfl hin rfl (tyX13_ok 3 (by decide)) rfl rfl (Nat.le_of_ble_eq_true rfl) dX13_init_31 ?_
  clear hP hD hS; try clear H
  intro H locs hP hD hS
  replace hP : va_P (dC, dI) vwCl [(h0, .inr (13, [.ref q_1, .ref q_3, .ref q_6, .ref q_8, .int 0])), (q_1, .inl (k_2, 64, .inr (.inl (fun _ => 0)))), (q_3, .inl (k_4, 64, .inr (.inl (fun _ => 0)))), (q_6, .inl (k_7, 128, .inl (fun _ => 0))), (q_8, .inl (k_9, 64, .inl (fun _ => 0)))] H := hP
  replace hD : va_D A [(h0, .inr (13, [.ref q_1, .ref q_3, .ref q_6, .ref q_8, .int 0])), (q_1, .inl (k_2, 64, .inr (.inl (fun _ => 0)))), (q_3, .inl (k_4, 64, .inr (.inl (fun _ => 0)))), (q_6, .inl (k_7, 128, .inl (fun _ => 0))), (q_8, .inl (k_9, 64, .inl (fun _ => 0)))] := hD
  have hP9 := hP.sub (ws' := [(h0, .inr (13, [.ref q_1, .ref q_3, .ref q_6, .ref q_8, .int 0])), (q_6, .inl (k_7, 128, .inl (fun _ => 0)))]) [0, 3] rfl
  have hD9 := hD.sub (ws' := [(h0, .inr (13, [.ref q_1, .ref q_3, .ref q_6, .ref q_8, .int 0])), (q_6, .inl (k_7, 128, .inl (fun _ => 0)))]) [0, 3] (by decide) rfl
  have hK9 := hK.sub (tys' := [(k_7, .int)]) [2] rfl
  rw [← hAe] at hD9
  refine W.widen (k := 4) (n := 320) (Nat.le_of_ble_eq_true rfl) (Nat.le_of_ble_eq_true rfl) ?_
  subst hQ0
  subst hAe
  exact W.vret hx hb hr (fun t ht hW => ⟨⟨(), rfl, trivial, q_1, q_3, q_6, q_8, k_7, by rw [ht]; exact hP9, va_K.moved hW.alike hK9, hD9⟩, hS.F ht⟩) hS.2.2 dX13_init_34
set_option maxHeartbeats 4000000 in
set_option maxRecDepth 100000 in
/-- the reference: Poly(256) -/
theorem c_X13_init_256 (l : Launch) (dC : Nat → ClassId) (dI : Nat → Nat → Nat) (h0 : Nat) (sz : Nat) : Met l yX13_init wsX13_init ({ frames := 1, cells := 4, slots := 1280, locals := 12 }) (va_Pc [.ref h0, .int 256] (fun U => U.heap.size = sz ∧ va_P (dC, dI) vwCl [(h0, .inr (13, [.null, .null, .null, .null, .int 0]))] U.heap ∧ va_K (dC, dI) vwCl [] U ∧ va_D (fun _ => True) [(h0, .inr (13, [.null, .null, .null, .null, .int 0]))] ∧ w_N U)) (va_Qv (fun _ : Unit => True) (fun _ t => ∃ (q1 : Nat) (q2 : Nat) (q3 : Nat) (q4 : Nat) (k3 : Nat), va_P (dC, dI) vwCl [(h0, .inr (13, [.ref q1, .ref q2, .ref q3, .ref q4, .int 0])), (q3, .inl (k3, 512, .inl (fun _ => 0)))] t.heap ∧ va_K (dC, dI) vwCl [(k3, .int)] t ∧ va_D (va_A [(h0, .inr (13, [.null, .null, .null, .null, .int 0]))] sz) [(h0, .inr (13, [.ref q1, .ref q2, .ref q3, .ref q4, .int 0])), (q3, .inl (k3, 512, .inl (fun _ => 0)))]) (va_A [(h0, .inr (13, [.null, .null, .null, .null, .int 0]))] sz)) 4 1280 (va_A [(h0, .inr (13, [.null, .null, .null, .null, .int 0]))] sz) := by
  refine Met.ofW (cc := cX13_init) (maxL := 2) (ret := none) (by decide) rfl ?_
  intro p e s m args below meth c s₁ B hml hv
  obtain ⟨rfl, hsz, hP, hK, hD0, hN⟩ := hv
  have hx := B.exec
  have hb := B.bytes
  have hr := B.returns
  have hts := atoms_spec (ws := wsX13_init) B.pre
  have hown : s.vm.findClass RX13 = some m.cls := findClass_of_methodNamed B.named
  have hlocks := B.notSynchronized
  have hin : meth.name = "<init>" := (name_of_methodNamed B.named B.method).1
  subst hsz
  have hD := hD0.self (sz := s.heap.size)
  generalize hAe : va_A [(h0, .inr (13, [.null, .null, .null, .null, .int 0]))] s.heap.size = A at hD ⊢
  have hA : ∀ q : Nat, s.heap.size ≤ q → A q := fun q h => by rw [← hAe]; exact Or.inr h
  have hS : va_S A s.heap s.heap [] := va_S.rf
  have hP : va_P (dC, dI) vwCl [(h0, .inr (13, [.null, .null, .null, .null, .int 0]))] s.heap := hP
  have hl := lv_entry ([.ref h0, .int 256]) (n := 2) (Nat.le_of_ble_eq_true rfl)
  rw [lg_entry_eq]
  generalize (lg_sl ([.ref h0, .int 256]) ++ List.replicate (2 - (lg_sl ([.ref h0, .int 256])).length) Slot.unset).toArray = ls at hl ⊢
  have hl : lv_has ls 2 [(0, .ref h0), (1, .int 256)] := hl
  refine gen_W (fun Q0 hQ0 => ?_)
  refine lv_aload_n hx hb dX13_init_0 rfl (lv_at hl 0 rfl) ?_
  refine W.objInit hx hb hown (hts (.methodLink RX13 3 objectInit) (List.mem_of_getElem? (i := 1) rfl)) (hts (.instanceMethod objectInit) (List.mem_of_getElem? (i := 2) rfl)) (hts _ (List.mem_of_getElem? (i := 3) rfl)) rfl (by rw [hml]; exact hl.1) rfl dX13_init_1 (Nat.le_of_ble_eq_true rfl) (Nat.le_of_ble_eq_true rfl) ?_
  refine W.eq (g2 := F0 m 4 ls []) rfl ?_
  refine lv_aload_n hx hb dX13_init_4 rfl (lv_at hl 0 rfl) ?_
  refine lv_iload_n hx hb dX13_init_5 rfl (lv_at hl 1 rfl) ?_
  refine va_newa (atype := .long) (ty := .long) (N' := 256) (a0 := (256, .inr (.inl (fun _ => 0)))) hx hb (hts (.arrayClass .long) (List.mem_of_getElem? (i := 4) rfl)) rfl hK hP hD hS hA (fun _ => rfl) (by decide) (by decide) (Nat.le_of_ble_eq_true rfl) (Nat.le_of_ble_eq_true rfl) (Nat.le_of_ble_eq_true rfl) dX13_init_6 ?_
  clear hP hD hS hK; try clear H
  intro q_1 k_2 H hK hP hD hS
  replace hP : va_P (dC, dI) vwCl [(h0, .inr (13, [.null, .null, .null, .null, .int 0])), (q_1, .inl (k_2, 256, .inr (.inl (fun _ => 0))))] H := hP
  replace hD : va_D A [(h0, .inr (13, [.null, .null, .null, .null, .int 0])), (q_1, .inl (k_2, 256, .inr (.inl (fun _ => 0))))] := hD
  replace hK : va_K (dC, dI) vwCl [(k_2, .long)] s := hK
  refine va_putF (D := (dC, dI)) (ci := 13) (v := .ref q_1) (ty := .array .long) (C := RX13) (T := TX13) (N := 5) hx hb hts (in_X13_init_X13) tyX13 tyX13_ok nmX13 hown hK hP hD hS 0 rfl rfl 0 (by decide) (hts (.fieldLink RX13 9 "MotionSignsModel$Poly" "key" "[J") (List.mem_of_getElem? (i := 5) rfl)) (fun _ h9 => h9) rfl hin rfl (tyX13_ok 0 (by decide)) rfl rfl (Nat.le_of_ble_eq_true rfl) dX13_init_8 ?_
  clear hP hD hS; try clear H
  intro H locs hP hD hS
  replace hP : va_P (dC, dI) vwCl [(h0, .inr (13, [.ref q_1, .null, .null, .null, .int 0])), (q_1, .inl (k_2, 256, .inr (.inl (fun _ => 0))))] H := hP
  replace hD : va_D A [(h0, .inr (13, [.ref q_1, .null, .null, .null, .int 0])), (q_1, .inl (k_2, 256, .inr (.inl (fun _ => 0))))] := hD
  refine lv_aload_n hx hb dX13_init_11 rfl (lv_at hl 0 rfl) ?_
  refine lv_iload_n hx hb dX13_init_12 rfl (lv_at hl 1 rfl) ?_
  refine va_newa (atype := .long) (ty := .long) (N' := 256) (a0 := (256, .inr (.inl (fun _ => 0)))) hx hb (hts (.arrayClass .long) (List.mem_of_getElem? (i := 4) rfl)) rfl hK hP hD hS hA (fun _ => rfl) (by decide) (by decide) (Nat.le_of_ble_eq_true rfl) (Nat.le_of_ble_eq_true rfl) (Nat.le_of_ble_eq_true rfl) dX13_init_13 ?_
  clear hP hD hS hK; try clear H
  intro q_3 k_4 H hK hP hD hS
  replace hP : va_P (dC, dI) vwCl [(h0, .inr (13, [.ref q_1, .null, .null, .null, .int 0])), (q_1, .inl (k_2, 256, .inr (.inl (fun _ => 0)))), (q_3, .inl (k_4, 256, .inr (.inl (fun _ => 0))))] H := hP
  replace hD : va_D A [(h0, .inr (13, [.ref q_1, .null, .null, .null, .int 0])), (q_1, .inl (k_2, 256, .inr (.inl (fun _ => 0)))), (q_3, .inl (k_4, 256, .inr (.inl (fun _ => 0))))] := hD
  replace hK : va_K (dC, dI) vwCl [(k_2, .long), (k_4, .long)] s := hK
  refine va_putF (D := (dC, dI)) (ci := 13) (v := .ref q_3) (ty := .array .long) (C := RX13) (T := TX13) (N := 5) hx hb hts (in_X13_init_X13) tyX13 tyX13_ok nmX13 hown hK hP hD hS 0 rfl rfl 1 (by decide) (hts (.fieldLink RX13 15 "MotionSignsModel$Poly" "num" "[J") (List.mem_of_getElem? (i := 6) rfl)) (fun _ h9 => h9) rfl hin rfl (tyX13_ok 1 (by decide)) rfl rfl (Nat.le_of_ble_eq_true rfl) dX13_init_15 ?_
  clear hP hD hS; try clear H
  intro H locs hP hD hS
  replace hP : va_P (dC, dI) vwCl [(h0, .inr (13, [.ref q_1, .ref q_3, .null, .null, .int 0])), (q_1, .inl (k_2, 256, .inr (.inl (fun _ => 0)))), (q_3, .inl (k_4, 256, .inr (.inl (fun _ => 0))))] H := hP
  replace hD : va_D A [(h0, .inr (13, [.ref q_1, .ref q_3, .null, .null, .int 0])), (q_1, .inl (k_2, 256, .inr (.inl (fun _ => 0)))), (q_3, .inl (k_4, 256, .inr (.inl (fun _ => 0))))] := hD
  refine lv_aload_n hx hb dX13_init_18 rfl (lv_at hl 0 rfl) ?_
  refine lv_iconst (v := 2) hx hb dX13_init_19 (by decide) ?_
  refine lv_iload_n hx hb dX13_init_20 rfl (lv_at hl 1 rfl) ?_
  refine lv_imul hx hb dX13_init_21 ?_
  refine lv_topi (fun v_5 ev_5 => ?_)
  have ev_5 : v_5 = 512 := ev_5.trans (by decide)
  subst ev_5
  refine va_newa (atype := .int) (ty := .int) (N' := 512) (a0 := (512, .inl (fun _ => 0))) hx hb (hts (.arrayClass .int) (List.mem_of_getElem? (i := 7) rfl)) rfl hK hP hD hS hA (fun _ => rfl) (by decide) (by decide) (Nat.le_of_ble_eq_true rfl) (Nat.le_of_ble_eq_true rfl) (Nat.le_of_ble_eq_true rfl) dX13_init_22 ?_
  clear hP hD hS hK; try clear H
  intro q_6 k_7 H hK hP hD hS
  replace hP : va_P (dC, dI) vwCl [(h0, .inr (13, [.ref q_1, .ref q_3, .null, .null, .int 0])), (q_1, .inl (k_2, 256, .inr (.inl (fun _ => 0)))), (q_3, .inl (k_4, 256, .inr (.inl (fun _ => 0)))), (q_6, .inl (k_7, 512, .inl (fun _ => 0)))] H := hP
  replace hD : va_D A [(h0, .inr (13, [.ref q_1, .ref q_3, .null, .null, .int 0])), (q_1, .inl (k_2, 256, .inr (.inl (fun _ => 0)))), (q_3, .inl (k_4, 256, .inr (.inl (fun _ => 0)))), (q_6, .inl (k_7, 512, .inl (fun _ => 0)))] := hD
  replace hK : va_K (dC, dI) vwCl [(k_2, .long), (k_4, .long), (k_7, .int)] s := hK
  refine va_putF (D := (dC, dI)) (ci := 13) (v := .ref q_6) (ty := .array .int) (C := RX13) (T := TX13) (N := 5) hx hb hts (in_X13_init_X13) tyX13 tyX13_ok nmX13 hown hK hP hD hS 0 rfl rfl 2 (by decide) (hts (.fieldLink RX13 18 "MotionSignsModel$Poly" "slot" "[I") (List.mem_of_getElem? (i := 8) rfl)) (fun _ h9 => h9) rfl hin rfl (tyX13_ok 2 (by decide)) rfl rfl (Nat.le_of_ble_eq_true rfl) dX13_init_24 ?_
  clear hP hD hS; try clear H
  intro H locs hP hD hS
  replace hP : va_P (dC, dI) vwCl [(h0, .inr (13, [.ref q_1, .ref q_3, .ref q_6, .null, .int 0])), (q_1, .inl (k_2, 256, .inr (.inl (fun _ => 0)))), (q_3, .inl (k_4, 256, .inr (.inl (fun _ => 0)))), (q_6, .inl (k_7, 512, .inl (fun _ => 0)))] H := hP
  replace hD : va_D A [(h0, .inr (13, [.ref q_1, .ref q_3, .ref q_6, .null, .int 0])), (q_1, .inl (k_2, 256, .inr (.inl (fun _ => 0)))), (q_3, .inl (k_4, 256, .inr (.inl (fun _ => 0)))), (q_6, .inl (k_7, 512, .inl (fun _ => 0)))] := hD
  refine lv_aload_n hx hb dX13_init_27 rfl (lv_at hl 0 rfl) ?_
  refine lv_iload_n hx hb dX13_init_28 rfl (lv_at hl 1 rfl) ?_
  refine va_newa (atype := .int) (ty := .int) (N' := 256) (a0 := (256, .inl (fun _ => 0))) hx hb (hts (.arrayClass .int) (List.mem_of_getElem? (i := 7) rfl)) rfl hK hP hD hS hA (fun _ => rfl) (by decide) (by decide) (Nat.le_of_ble_eq_true rfl) (Nat.le_of_ble_eq_true rfl) (Nat.le_of_ble_eq_true rfl) dX13_init_29 ?_
  clear hP hD hS hK; try clear H
  intro q_8 k_9 H hK hP hD hS
  replace hP : va_P (dC, dI) vwCl [(h0, .inr (13, [.ref q_1, .ref q_3, .ref q_6, .null, .int 0])), (q_1, .inl (k_2, 256, .inr (.inl (fun _ => 0)))), (q_3, .inl (k_4, 256, .inr (.inl (fun _ => 0)))), (q_6, .inl (k_7, 512, .inl (fun _ => 0))), (q_8, .inl (k_9, 256, .inl (fun _ => 0)))] H := hP
  replace hD : va_D A [(h0, .inr (13, [.ref q_1, .ref q_3, .ref q_6, .null, .int 0])), (q_1, .inl (k_2, 256, .inr (.inl (fun _ => 0)))), (q_3, .inl (k_4, 256, .inr (.inl (fun _ => 0)))), (q_6, .inl (k_7, 512, .inl (fun _ => 0))), (q_8, .inl (k_9, 256, .inl (fun _ => 0)))] := hD
  replace hK : va_K (dC, dI) vwCl [(k_2, .long), (k_4, .long), (k_7, .int), (k_9, .int)] s := hK
  refine va_putF (D := (dC, dI)) (ci := 13) (v := .ref q_8) (ty := .array .int) (C := RX13) (T := TX13) (N := 5) hx hb hts (in_X13_init_X13) tyX13 tyX13_ok nmX13 hown hK hP hD hS 0 rfl rfl 3 (by decide) (hts (.fieldLink RX13 22 "MotionSignsModel$Poly" "where" "[I") (List.mem_of_getElem? (i := 9) rfl)) (fun _ h9 => h9) rfl hin rfl (tyX13_ok 3 (by decide)) rfl rfl (Nat.le_of_ble_eq_true rfl) dX13_init_31 ?_
  clear hP hD hS; try clear H
  intro H locs hP hD hS
  replace hP : va_P (dC, dI) vwCl [(h0, .inr (13, [.ref q_1, .ref q_3, .ref q_6, .ref q_8, .int 0])), (q_1, .inl (k_2, 256, .inr (.inl (fun _ => 0)))), (q_3, .inl (k_4, 256, .inr (.inl (fun _ => 0)))), (q_6, .inl (k_7, 512, .inl (fun _ => 0))), (q_8, .inl (k_9, 256, .inl (fun _ => 0)))] H := hP
  replace hD : va_D A [(h0, .inr (13, [.ref q_1, .ref q_3, .ref q_6, .ref q_8, .int 0])), (q_1, .inl (k_2, 256, .inr (.inl (fun _ => 0)))), (q_3, .inl (k_4, 256, .inr (.inl (fun _ => 0)))), (q_6, .inl (k_7, 512, .inl (fun _ => 0))), (q_8, .inl (k_9, 256, .inl (fun _ => 0)))] := hD
  have hP9 := hP.sub (ws' := [(h0, .inr (13, [.ref q_1, .ref q_3, .ref q_6, .ref q_8, .int 0])), (q_6, .inl (k_7, 512, .inl (fun _ => 0)))]) [0, 3] rfl
  have hD9 := hD.sub (ws' := [(h0, .inr (13, [.ref q_1, .ref q_3, .ref q_6, .ref q_8, .int 0])), (q_6, .inl (k_7, 512, .inl (fun _ => 0)))]) [0, 3] (by decide) rfl
  have hK9 := hK.sub (tys' := [(k_7, .int)]) [2] rfl
  rw [← hAe] at hD9
  refine W.widen (k := 4) (n := 1280) (Nat.le_of_ble_eq_true rfl) (Nat.le_of_ble_eq_true rfl) ?_
  subst hQ0
  subst hAe
  exact W.vret hx hb hr (fun t ht hW => ⟨⟨(), rfl, trivial, q_1, q_3, q_6, q_8, k_7, by rw [ht]; exact hP9, va_K.moved hW.alike hK9, hD9⟩, hS.F ht⟩) hS.2.2 dX13_init_34
set_option maxHeartbeats 4000000 in
set_option maxRecDepth 100000 in
/-- the reference: Poly(1024) -/
theorem c_X13_init_1024 (l : Launch) (dC : Nat → ClassId) (dI : Nat → Nat → Nat) (h0 : Nat) (sz : Nat) : Met l yX13_init wsX13_init ({ frames := 1, cells := 4, slots := 5120, locals := 12 }) (va_Pc [.ref h0, .int 1024] (fun U => U.heap.size = sz ∧ va_P (dC, dI) vwCl [(h0, .inr (13, [.null, .null, .null, .null, .int 0]))] U.heap ∧ va_K (dC, dI) vwCl [] U ∧ va_D (fun _ => True) [(h0, .inr (13, [.null, .null, .null, .null, .int 0]))] ∧ w_N U)) (va_Qv (fun _ : Unit => True) (fun _ t => ∃ (q1 : Nat) (q2 : Nat) (q3 : Nat) (q4 : Nat) (k3 : Nat), va_P (dC, dI) vwCl [(h0, .inr (13, [.ref q1, .ref q2, .ref q3, .ref q4, .int 0])), (q3, .inl (k3, 2048, .inl (fun _ => 0)))] t.heap ∧ va_K (dC, dI) vwCl [(k3, .int)] t ∧ va_D (va_A [(h0, .inr (13, [.null, .null, .null, .null, .int 0]))] sz) [(h0, .inr (13, [.ref q1, .ref q2, .ref q3, .ref q4, .int 0])), (q3, .inl (k3, 2048, .inl (fun _ => 0)))]) (va_A [(h0, .inr (13, [.null, .null, .null, .null, .int 0]))] sz)) 4 5120 (va_A [(h0, .inr (13, [.null, .null, .null, .null, .int 0]))] sz) := by
  refine Met.ofW (cc := cX13_init) (maxL := 2) (ret := none) (by decide) rfl ?_
  intro p e s m args below meth c s₁ B hml hv
  obtain ⟨rfl, hsz, hP, hK, hD0, hN⟩ := hv
  have hx := B.exec
  have hb := B.bytes
  have hr := B.returns
  have hts := atoms_spec (ws := wsX13_init) B.pre
  have hown : s.vm.findClass RX13 = some m.cls := findClass_of_methodNamed B.named
  have hlocks := B.notSynchronized
  have hin : meth.name = "<init>" := (name_of_methodNamed B.named B.method).1
  subst hsz
  have hD := hD0.self (sz := s.heap.size)
  generalize hAe : va_A [(h0, .inr (13, [.null, .null, .null, .null, .int 0]))] s.heap.size = A at hD ⊢
  have hA : ∀ q : Nat, s.heap.size ≤ q → A q := fun q h => by rw [← hAe]; exact Or.inr h
  have hS : va_S A s.heap s.heap [] := va_S.rf
  have hP : va_P (dC, dI) vwCl [(h0, .inr (13, [.null, .null, .null, .null, .int 0]))] s.heap := hP
  have hl := lv_entry ([.ref h0, .int 1024]) (n := 2) (Nat.le_of_ble_eq_true rfl)
  rw [lg_entry_eq]
  generalize (lg_sl ([.ref h0, .int 1024]) ++ List.replicate (2 - (lg_sl ([.ref h0, .int 1024])).length) Slot.unset).toArray = ls at hl ⊢
  have hl : lv_has ls 2 [(0, .ref h0), (1, .int 1024)] := hl
  refine gen_W (fun Q0 hQ0 => ?_)
  refine lv_aload_n hx hb dX13_init_0 rfl (lv_at hl 0 rfl) ?_
  refine W.objInit hx hb hown (hts (.methodLink RX13 3 objectInit) (List.mem_of_getElem? (i := 1) rfl)) (hts (.instanceMethod objectInit) (List.mem_of_getElem? (i := 2) rfl)) (hts _ (List.mem_of_getElem? (i := 3) rfl)) rfl (by rw [hml]; exact hl.1) rfl dX13_init_1 (Nat.le_of_ble_eq_true rfl) (Nat.le_of_ble_eq_true rfl) ?_
  refine W.eq (g2 := F0 m 4 ls []) rfl ?_
  refine lv_aload_n hx hb dX13_init_4 rfl (lv_at hl 0 rfl) ?_
  refine lv_iload_n hx hb dX13_init_5 rfl (lv_at hl 1 rfl) ?_
  refine va_newa (atype := .long) (ty := .long) (N' := 1024) (a0 := (1024, .inr (.inl (fun _ => 0)))) hx hb (hts (.arrayClass .long) (List.mem_of_getElem? (i := 4) rfl)) rfl hK hP hD hS hA (fun _ => rfl) (by decide) (by decide) (Nat.le_of_ble_eq_true rfl) (Nat.le_of_ble_eq_true rfl) (Nat.le_of_ble_eq_true rfl) dX13_init_6 ?_
  clear hP hD hS hK; try clear H
  intro q_1 k_2 H hK hP hD hS
  replace hP : va_P (dC, dI) vwCl [(h0, .inr (13, [.null, .null, .null, .null, .int 0])), (q_1, .inl (k_2, 1024, .inr (.inl (fun _ => 0))))] H := hP
  replace hD : va_D A [(h0, .inr (13, [.null, .null, .null, .null, .int 0])), (q_1, .inl (k_2, 1024, .inr (.inl (fun _ => 0))))] := hD
  replace hK : va_K (dC, dI) vwCl [(k_2, .long)] s := hK
  refine va_putF (D := (dC, dI)) (ci := 13) (v := .ref q_1) (ty := .array .long) (C := RX13) (T := TX13) (N := 5) hx hb hts (in_X13_init_X13) tyX13 tyX13_ok nmX13 hown hK hP hD hS 0 rfl rfl 0 (by decide) (hts (.fieldLink RX13 9 "MotionSignsModel$Poly" "key" "[J") (List.mem_of_getElem? (i := 5) rfl)) (fun _ h9 => h9) rfl hin rfl (tyX13_ok 0 (by decide)) rfl rfl (Nat.le_of_ble_eq_true rfl) dX13_init_8 ?_
  clear hP hD hS; try clear H
  intro H locs hP hD hS
  replace hP : va_P (dC, dI) vwCl [(h0, .inr (13, [.ref q_1, .null, .null, .null, .int 0])), (q_1, .inl (k_2, 1024, .inr (.inl (fun _ => 0))))] H := hP
  replace hD : va_D A [(h0, .inr (13, [.ref q_1, .null, .null, .null, .int 0])), (q_1, .inl (k_2, 1024, .inr (.inl (fun _ => 0))))] := hD
  refine lv_aload_n hx hb dX13_init_11 rfl (lv_at hl 0 rfl) ?_
  refine lv_iload_n hx hb dX13_init_12 rfl (lv_at hl 1 rfl) ?_
  refine va_newa (atype := .long) (ty := .long) (N' := 1024) (a0 := (1024, .inr (.inl (fun _ => 0)))) hx hb (hts (.arrayClass .long) (List.mem_of_getElem? (i := 4) rfl)) rfl hK hP hD hS hA (fun _ => rfl) (by decide) (by decide) (Nat.le_of_ble_eq_true rfl) (Nat.le_of_ble_eq_true rfl) (Nat.le_of_ble_eq_true rfl) dX13_init_13 ?_
  clear hP hD hS hK; try clear H
  intro q_3 k_4 H hK hP hD hS
  replace hP : va_P (dC, dI) vwCl [(h0, .inr (13, [.ref q_1, .null, .null, .null, .int 0])), (q_1, .inl (k_2, 1024, .inr (.inl (fun _ => 0)))), (q_3, .inl (k_4, 1024, .inr (.inl (fun _ => 0))))] H := hP
  replace hD : va_D A [(h0, .inr (13, [.ref q_1, .null, .null, .null, .int 0])), (q_1, .inl (k_2, 1024, .inr (.inl (fun _ => 0)))), (q_3, .inl (k_4, 1024, .inr (.inl (fun _ => 0))))] := hD
  replace hK : va_K (dC, dI) vwCl [(k_2, .long), (k_4, .long)] s := hK
  refine va_putF (D := (dC, dI)) (ci := 13) (v := .ref q_3) (ty := .array .long) (C := RX13) (T := TX13) (N := 5) hx hb hts (in_X13_init_X13) tyX13 tyX13_ok nmX13 hown hK hP hD hS 0 rfl rfl 1 (by decide) (hts (.fieldLink RX13 15 "MotionSignsModel$Poly" "num" "[J") (List.mem_of_getElem? (i := 6) rfl)) (fun _ h9 => h9) rfl hin rfl (tyX13_ok 1 (by decide)) rfl rfl (Nat.le_of_ble_eq_true rfl) dX13_init_15 ?_
  clear hP hD hS; try clear H
  intro H locs hP hD hS
  replace hP : va_P (dC, dI) vwCl [(h0, .inr (13, [.ref q_1, .ref q_3, .null, .null, .int 0])), (q_1, .inl (k_2, 1024, .inr (.inl (fun _ => 0)))), (q_3, .inl (k_4, 1024, .inr (.inl (fun _ => 0))))] H := hP
  replace hD : va_D A [(h0, .inr (13, [.ref q_1, .ref q_3, .null, .null, .int 0])), (q_1, .inl (k_2, 1024, .inr (.inl (fun _ => 0)))), (q_3, .inl (k_4, 1024, .inr (.inl (fun _ => 0))))] := hD
  refine lv_aload_n hx hb dX13_init_18 rfl (lv_at hl 0 rfl) ?_
  refine lv_iconst (v := 2) hx hb dX13_init_19 (by decide) ?_
  refine lv_iload_n hx hb dX13_init_20 rfl (lv_at hl 1 rfl) ?_
  refine lv_imul hx hb dX13_init_21 ?_
  refine lv_topi (fun v_5 ev_5 => ?_)
  have ev_5 : v_5 = 2048 := ev_5.trans (by decide)
  subst ev_5
  refine va_newa (atype := .int) (ty := .int) (N' := 2048) (a0 := (2048, .inl (fun _ => 0))) hx hb (hts (.arrayClass .int) (List.mem_of_getElem? (i := 7) rfl)) rfl hK hP hD hS hA (fun _ => rfl) (by decide) (by decide) (Nat.le_of_ble_eq_true rfl) (Nat.le_of_ble_eq_true rfl) (Nat.le_of_ble_eq_true rfl) dX13_init_22 ?_
  clear hP hD hS hK; try clear H
  intro q_6 k_7 H hK hP hD hS
  replace hP : va_P (dC, dI) vwCl [(h0, .inr (13, [.ref q_1, .ref q_3, .null, .null, .int 0])), (q_1, .inl (k_2, 1024, .inr (.inl (fun _ => 0)))), (q_3, .inl (k_4, 1024, .inr (.inl (fun _ => 0)))), (q_6, .inl (k_7, 2048, .inl (fun _ => 0)))] H := hP
  replace hD : va_D A [(h0, .inr (13, [.ref q_1, .ref q_3, .null, .null, .int 0])), (q_1, .inl (k_2, 1024, .inr (.inl (fun _ => 0)))), (q_3, .inl (k_4, 1024, .inr (.inl (fun _ => 0)))), (q_6, .inl (k_7, 2048, .inl (fun _ => 0)))] := hD
  replace hK : va_K (dC, dI) vwCl [(k_2, .long), (k_4, .long), (k_7, .int)] s := hK
  refine va_putF (D := (dC, dI)) (ci := 13) (v := .ref q_6) (ty := .array .int) (C := RX13) (T := TX13) (N := 5) hx hb hts (in_X13_init_X13) tyX13 tyX13_ok nmX13 hown hK hP hD hS 0 rfl rfl 2 (by decide) (hts (.fieldLink RX13 18 "MotionSignsModel$Poly" "slot" "[I") (List.mem_of_getElem? (i := 8) rfl)) (fun _ h9 => h9) rfl hin rfl (tyX13_ok 2 (by decide)) rfl rfl (Nat.le_of_ble_eq_true rfl) dX13_init_24 ?_
  clear hP hD hS; try clear H
  intro H locs hP hD hS
  replace hP : va_P (dC, dI) vwCl [(h0, .inr (13, [.ref q_1, .ref q_3, .ref q_6, .null, .int 0])), (q_1, .inl (k_2, 1024, .inr (.inl (fun _ => 0)))), (q_3, .inl (k_4, 1024, .inr (.inl (fun _ => 0)))), (q_6, .inl (k_7, 2048, .inl (fun _ => 0)))] H := hP
  replace hD : va_D A [(h0, .inr (13, [.ref q_1, .ref q_3, .ref q_6, .null, .int 0])), (q_1, .inl (k_2, 1024, .inr (.inl (fun _ => 0)))), (q_3, .inl (k_4, 1024, .inr (.inl (fun _ => 0)))), (q_6, .inl (k_7, 2048, .inl (fun _ => 0)))] := hD
  refine lv_aload_n hx hb dX13_init_27 rfl (lv_at hl 0 rfl) ?_
  refine lv_iload_n hx hb dX13_init_28 rfl (lv_at hl 1 rfl) ?_
  refine va_newa (atype := .int) (ty := .int) (N' := 1024) (a0 := (1024, .inl (fun _ => 0))) hx hb (hts (.arrayClass .int) (List.mem_of_getElem? (i := 7) rfl)) rfl hK hP hD hS hA (fun _ => rfl) (by decide) (by decide) (Nat.le_of_ble_eq_true rfl) (Nat.le_of_ble_eq_true rfl) (Nat.le_of_ble_eq_true rfl) dX13_init_29 ?_
  clear hP hD hS hK; try clear H
  intro q_8 k_9 H hK hP hD hS
  replace hP : va_P (dC, dI) vwCl [(h0, .inr (13, [.ref q_1, .ref q_3, .ref q_6, .null, .int 0])), (q_1, .inl (k_2, 1024, .inr (.inl (fun _ => 0)))), (q_3, .inl (k_4, 1024, .inr (.inl (fun _ => 0)))), (q_6, .inl (k_7, 2048, .inl (fun _ => 0))), (q_8, .inl (k_9, 1024, .inl (fun _ => 0)))] H := hP
  replace hD : va_D A [(h0, .inr (13, [.ref q_1, .ref q_3, .ref q_6, .null, .int 0])), (q_1, .inl (k_2, 1024, .inr (.inl (fun _ => 0)))), (q_3, .inl (k_4, 1024, .inr (.inl (fun _ => 0)))), (q_6, .inl (k_7, 2048, .inl (fun _ => 0))), (q_8, .inl (k_9, 1024, .inl (fun _ => 0)))] := hD
  replace hK : va_K (dC, dI) vwCl [(k_2, .long), (k_4, .long), (k_7, .int), (k_9, .int)] s := hK
  refine va_putF (D := (dC, dI)) (ci := 13) (v := .ref q_8) (ty := .array .int) (C := RX13) (T := TX13) (N := 5) hx hb hts (in_X13_init_X13) tyX13 tyX13_ok nmX13 hown hK hP hD hS 0 rfl rfl 3 (by decide) (hts (.fieldLink RX13 22 "MotionSignsModel$Poly" "where" "[I") (List.mem_of_getElem? (i := 9) rfl)) (fun _ h9 => h9) rfl hin rfl (tyX13_ok 3 (by decide)) rfl rfl (Nat.le_of_ble_eq_true rfl) dX13_init_31 ?_
  clear hP hD hS; try clear H
  intro H locs hP hD hS
  replace hP : va_P (dC, dI) vwCl [(h0, .inr (13, [.ref q_1, .ref q_3, .ref q_6, .ref q_8, .int 0])), (q_1, .inl (k_2, 1024, .inr (.inl (fun _ => 0)))), (q_3, .inl (k_4, 1024, .inr (.inl (fun _ => 0)))), (q_6, .inl (k_7, 2048, .inl (fun _ => 0))), (q_8, .inl (k_9, 1024, .inl (fun _ => 0)))] H := hP
  replace hD : va_D A [(h0, .inr (13, [.ref q_1, .ref q_3, .ref q_6, .ref q_8, .int 0])), (q_1, .inl (k_2, 1024, .inr (.inl (fun _ => 0)))), (q_3, .inl (k_4, 1024, .inr (.inl (fun _ => 0)))), (q_6, .inl (k_7, 2048, .inl (fun _ => 0))), (q_8, .inl (k_9, 1024, .inl (fun _ => 0)))] := hD
  have hP9 := hP.sub (ws' := [(h0, .inr (13, [.ref q_1, .ref q_3, .ref q_6, .ref q_8, .int 0])), (q_6, .inl (k_7, 2048, .inl (fun _ => 0)))]) [0, 3] rfl
  have hD9 := hD.sub (ws' := [(h0, .inr (13, [.ref q_1, .ref q_3, .ref q_6, .ref q_8, .int 0])), (q_6, .inl (k_7, 2048, .inl (fun _ => 0)))]) [0, 3] (by decide) rfl
  have hK9 := hK.sub (tys' := [(k_7, .int)]) [2] rfl
  rw [← hAe] at hD9
  refine W.widen (k := 4) (n := 5120) (Nat.le_of_ble_eq_true rfl) (Nat.le_of_ble_eq_true rfl) ?_
  subst hQ0
  subst hAe
  exact W.vret hx hb hr (fun t ht hW => ⟨⟨(), rfl, trivial, q_1, q_3, q_6, q_8, k_7, by rw [ht]; exact hP9, va_K.moved hW.alike hK9, hD9⟩, hS.F ht⟩) hS.2.2 dX13_init_34
set_option maxHeartbeats 4000000 in
set_option maxRecDepth 100000 in
/-- the reference: Poly(2048) -/
theorem c_X13_init_2048 (l : Launch) (dC : Nat → ClassId) (dI : Nat → Nat → Nat) (h0 : Nat) (sz : Nat) : Met l yX13_init wsX13_init ({ frames := 1, cells := 4, slots := 10240, locals := 12 }) (va_Pc [.ref h0, .int 2048] (fun U => U.heap.size = sz ∧ va_P (dC, dI) vwCl [(h0, .inr (13, [.null, .null, .null, .null, .int 0]))] U.heap ∧ va_K (dC, dI) vwCl [] U ∧ va_D (fun _ => True) [(h0, .inr (13, [.null, .null, .null, .null, .int 0]))] ∧ w_N U)) (va_Qv (fun _ : Unit => True) (fun _ t => ∃ (q1 : Nat) (q2 : Nat) (q3 : Nat) (q4 : Nat) (k3 : Nat), va_P (dC, dI) vwCl [(h0, .inr (13, [.ref q1, .ref q2, .ref q3, .ref q4, .int 0])), (q3, .inl (k3, 4096, .inl (fun _ => 0)))] t.heap ∧ va_K (dC, dI) vwCl [(k3, .int)] t ∧ va_D (va_A [(h0, .inr (13, [.null, .null, .null, .null, .int 0]))] sz) [(h0, .inr (13, [.ref q1, .ref q2, .ref q3, .ref q4, .int 0])), (q3, .inl (k3, 4096, .inl (fun _ => 0)))]) (va_A [(h0, .inr (13, [.null, .null, .null, .null, .int 0]))] sz)) 4 10240 (va_A [(h0, .inr (13, [.null, .null, .null, .null, .int 0]))] sz) := by
  refine Met.ofW (cc := cX13_init) (maxL := 2) (ret := none) (by decide) rfl ?_
  intro p e s m args below meth c s₁ B hml hv
  obtain ⟨rfl, hsz, hP, hK, hD0, hN⟩ := hv
  have hx := B.exec
  have hb := B.bytes
  have hr := B.returns
  have hts := atoms_spec (ws := wsX13_init) B.pre
  have hown : s.vm.findClass RX13 = some m.cls := findClass_of_methodNamed B.named
  have hlocks := B.notSynchronized
  have hin : meth.name = "<init>" := (name_of_methodNamed B.named B.method).1
  subst hsz
  have hD := hD0.self (sz := s.heap.size)
  generalize hAe : va_A [(h0, .inr (13, [.null, .null, .null, .null, .int 0]))] s.heap.size = A at hD ⊢
  have hA : ∀ q : Nat, s.heap.size ≤ q → A q := fun q h => by rw [← hAe]; exact Or.inr h
  have hS : va_S A s.heap s.heap [] := va_S.rf
  have hP : va_P (dC, dI) vwCl [(h0, .inr (13, [.null, .null, .null, .null, .int 0]))] s.heap := hP
  have hl := lv_entry ([.ref h0, .int 2048]) (n := 2) (Nat.le_of_ble_eq_true rfl)
  rw [lg_entry_eq]
  generalize (lg_sl ([.ref h0, .int 2048]) ++ List.replicate (2 - (lg_sl ([.ref h0, .int 2048])).length) Slot.unset).toArray = ls at hl ⊢
  have hl : lv_has ls 2 [(0, .ref h0), (1, .int 2048)] := hl
  refine gen_W (fun Q0 hQ0 => ?_)
  refine lv_aload_n hx hb dX13_init_0 rfl (lv_at hl 0 rfl) ?_
  refine W.objInit hx hb hown (hts (.methodLink RX13 3 objectInit) (List.mem_of_getElem? (i := 1) rfl)) (hts (.instanceMethod objectInit) (List.mem_of_getElem? (i := 2) rfl)) (hts _ (List.mem_of_getElem? (i := 3) rfl)) rfl (by rw [hml]; exact hl.1) rfl dX13_init_1 (Nat.le_of_ble_eq_true rfl) (Nat.le_of_ble_eq_true rfl) ?_
  refine W.eq (g2 := F0 m 4 ls []) rfl ?_
  refine lv_aload_n hx hb dX13_init_4 rfl (lv_at hl 0 rfl) ?_
  refine lv_iload_n hx hb dX13_init_5 rfl (lv_at hl 1 rfl) ?_
  refine va_newa (atype := .long) (ty := .long) (N' := 2048) (a0 := (2048, .inr (.inl (fun _ => 0)))) hx hb (hts (.arrayClass .long) (List.mem_of_getElem? (i := 4) rfl)) rfl hK hP hD hS hA (fun _ => rfl) (by decide) (by decide) (Nat.le_of_ble_eq_true rfl) (Nat.le_of_ble_eq_true rfl) (Nat.le_of_ble_eq_true rfl) dX13_init_6 ?_
  clear hP hD hS hK; try clear H
  intro q_1 k_2 H hK hP hD hS
  replace hP : va_P (dC, dI) vwCl [(h0, .inr (13, [.null, .null, .null, .null, .int 0])), (q_1, .inl (k_2, 2048, .inr (.inl (fun _ => 0))))] H := hP
  replace hD : va_D A [(h0, .inr (13, [.null, .null, .null, .null, .int 0])), (q_1, .inl (k_2, 2048, .inr (.inl (fun _ => 0))))] := hD
  replace hK : va_K (dC, dI) vwCl [(k_2, .long)] s := hK
  refine va_putF (D := (dC, dI)) (ci := 13) (v := .ref q_1) (ty := .array .long) (C := RX13) (T := TX13) (N := 5) hx hb hts (in_X13_init_X13) tyX13 tyX13_ok nmX13 hown hK hP hD hS 0 rfl rfl 0 (by decide) (hts (.fieldLink RX13 9 "MotionSignsModel$Poly" "key" "[J") (List.mem_of_getElem? (i := 5) rfl)) (fun _ h9 => h9) rfl hin rfl (tyX13_ok 0 (by decide)) rfl rfl (Nat.le_of_ble_eq_true rfl) dX13_init_8 ?_
  clear hP hD hS; try clear H
  intro H locs hP hD hS
  replace hP : va_P (dC, dI) vwCl [(h0, .inr (13, [.ref q_1, .null, .null, .null, .int 0])), (q_1, .inl (k_2, 2048, .inr (.inl (fun _ => 0))))] H := hP
  replace hD : va_D A [(h0, .inr (13, [.ref q_1, .null, .null, .null, .int 0])), (q_1, .inl (k_2, 2048, .inr (.inl (fun _ => 0))))] := hD
  refine lv_aload_n hx hb dX13_init_11 rfl (lv_at hl 0 rfl) ?_
  refine lv_iload_n hx hb dX13_init_12 rfl (lv_at hl 1 rfl) ?_
  refine va_newa (atype := .long) (ty := .long) (N' := 2048) (a0 := (2048, .inr (.inl (fun _ => 0)))) hx hb (hts (.arrayClass .long) (List.mem_of_getElem? (i := 4) rfl)) rfl hK hP hD hS hA (fun _ => rfl) (by decide) (by decide) (Nat.le_of_ble_eq_true rfl) (Nat.le_of_ble_eq_true rfl) (Nat.le_of_ble_eq_true rfl) dX13_init_13 ?_
  clear hP hD hS hK; try clear H
  intro q_3 k_4 H hK hP hD hS
  replace hP : va_P (dC, dI) vwCl [(h0, .inr (13, [.ref q_1, .null, .null, .null, .int 0])), (q_1, .inl (k_2, 2048, .inr (.inl (fun _ => 0)))), (q_3, .inl (k_4, 2048, .inr (.inl (fun _ => 0))))] H := hP
  replace hD : va_D A [(h0, .inr (13, [.ref q_1, .null, .null, .null, .int 0])), (q_1, .inl (k_2, 2048, .inr (.inl (fun _ => 0)))), (q_3, .inl (k_4, 2048, .inr (.inl (fun _ => 0))))] := hD
  replace hK : va_K (dC, dI) vwCl [(k_2, .long), (k_4, .long)] s := hK
  refine va_putF (D := (dC, dI)) (ci := 13) (v := .ref q_3) (ty := .array .long) (C := RX13) (T := TX13) (N := 5) hx hb hts (in_X13_init_X13) tyX13 tyX13_ok nmX13 hown hK hP hD hS 0 rfl rfl 1 (by decide) (hts (.fieldLink RX13 15 "MotionSignsModel$Poly" "num" "[J") (List.mem_of_getElem? (i := 6) rfl)) (fun _ h9 => h9) rfl hin rfl (tyX13_ok 1 (by decide)) rfl rfl (Nat.le_of_ble_eq_true rfl) dX13_init_15 ?_
  clear hP hD hS; try clear H
  intro H locs hP hD hS
  replace hP : va_P (dC, dI) vwCl [(h0, .inr (13, [.ref q_1, .ref q_3, .null, .null, .int 0])), (q_1, .inl (k_2, 2048, .inr (.inl (fun _ => 0)))), (q_3, .inl (k_4, 2048, .inr (.inl (fun _ => 0))))] H := hP
  replace hD : va_D A [(h0, .inr (13, [.ref q_1, .ref q_3, .null, .null, .int 0])), (q_1, .inl (k_2, 2048, .inr (.inl (fun _ => 0)))), (q_3, .inl (k_4, 2048, .inr (.inl (fun _ => 0))))] := hD
  refine lv_aload_n hx hb dX13_init_18 rfl (lv_at hl 0 rfl) ?_
  refine lv_iconst (v := 2) hx hb dX13_init_19 (by decide) ?_
  refine lv_iload_n hx hb dX13_init_20 rfl (lv_at hl 1 rfl) ?_
  refine lv_imul hx hb dX13_init_21 ?_
  refine lv_topi (fun v_5 ev_5 => ?_)
  have ev_5 : v_5 = 4096 := ev_5.trans (by decide)
  subst ev_5
  refine va_newa (atype := .int) (ty := .int) (N' := 4096) (a0 := (4096, .inl (fun _ => 0))) hx hb (hts (.arrayClass .int) (List.mem_of_getElem? (i := 7) rfl)) rfl hK hP hD hS hA (fun _ => rfl) (by decide) (by decide) (Nat.le_of_ble_eq_true rfl) (Nat.le_of_ble_eq_true rfl) (Nat.le_of_ble_eq_true rfl) dX13_init_22 ?_
  clear hP hD hS hK; try clear H
  intro q_6 k_7 H hK hP hD hS
  replace hP : va_P (dC, dI) vwCl [(h0, .inr (13, [.ref q_1, .ref q_3, .null, .null, .int 0])), (q_1, .inl (k_2, 2048, .inr (.inl (fun _ => 0)))), (q_3, .inl (k_4, 2048, .inr (.inl (fun _ => 0)))), (q_6, .inl (k_7, 4096, .inl (fun _ => 0)))] H := hP
  replace hD : va_D A [(h0, .inr (13, [.ref q_1, .ref q_3, .null, .null, .int 0])), (q_1, .inl (k_2, 2048, .inr (.inl (fun _ => 0)))), (q_3, .inl (k_4, 2048, .inr (.inl (fun _ => 0)))), (q_6, .inl (k_7, 4096, .inl (fun _ => 0)))] := hD
  replace hK : va_K (dC, dI) vwCl [(k_2, .long), (k_4, .long), (k_7, .int)] s := hK
  refine va_putF (D := (dC, dI)) (ci := 13) (v := .ref q_6) (ty := .array .int) (C := RX13) (T := TX13) (N := 5) hx hb hts (in_X13_init_X13) tyX13 tyX13_ok nmX13 hown hK hP hD hS 0 rfl rfl 2 (by decide) (hts (.fieldLink RX13 18 "MotionSignsModel$Poly" "slot" "[I") (List.mem_of_getElem? (i := 8) rfl)) (fun _ h9 => h9) rfl hin rfl (tyX13_ok 2 (by decide)) rfl rfl (Nat.le_of_ble_eq_true rfl) dX13_init_24 ?_
  clear hP hD hS; try clear H
  intro H locs hP hD hS
  replace hP : va_P (dC, dI) vwCl [(h0, .inr (13, [.ref q_1, .ref q_3, .ref q_6, .null, .int 0])), (q_1, .inl (k_2, 2048, .inr (.inl (fun _ => 0)))), (q_3, .inl (k_4, 2048, .inr (.inl (fun _ => 0)))), (q_6, .inl (k_7, 4096, .inl (fun _ => 0)))] H := hP
  replace hD : va_D A [(h0, .inr (13, [.ref q_1, .ref q_3, .ref q_6, .null, .int 0])), (q_1, .inl (k_2, 2048, .inr (.inl (fun _ => 0)))), (q_3, .inl (k_4, 2048, .inr (.inl (fun _ => 0)))), (q_6, .inl (k_7, 4096, .inl (fun _ => 0)))] := hD
  refine lv_aload_n hx hb dX13_init_27 rfl (lv_at hl 0 rfl) ?_
  refine lv_iload_n hx hb dX13_init_28 rfl (lv_at hl 1 rfl) ?_
  refine va_newa (atype := .int) (ty := .int) (N' := 2048) (a0 := (2048, .inl (fun _ => 0))) hx hb (hts (.arrayClass .int) (List.mem_of_getElem? (i := 7) rfl)) rfl hK hP hD hS hA (fun _ => rfl) (by decide) (by decide) (Nat.le_of_ble_eq_true rfl) (Nat.le_of_ble_eq_true rfl) (Nat.le_of_ble_eq_true rfl) dX13_init_29 ?_
  clear hP hD hS hK; try clear H
  intro q_8 k_9 H hK hP hD hS
  replace hP : va_P (dC, dI) vwCl [(h0, .inr (13, [.ref q_1, .ref q_3, .ref q_6, .null, .int 0])), (q_1, .inl (k_2, 2048, .inr (.inl (fun _ => 0)))), (q_3, .inl (k_4, 2048, .inr (.inl (fun _ => 0)))), (q_6, .inl (k_7, 4096, .inl (fun _ => 0))), (q_8, .inl (k_9, 2048, .inl (fun _ => 0)))] H := hP
  replace hD : va_D A [(h0, .inr (13, [.ref q_1, .ref q_3, .ref q_6, .null, .int 0])), (q_1, .inl (k_2, 2048, .inr (.inl (fun _ => 0)))), (q_3, .inl (k_4, 2048, .inr (.inl (fun _ => 0)))), (q_6, .inl (k_7, 4096, .inl (fun _ => 0))), (q_8, .inl (k_9, 2048, .inl (fun _ => 0)))] := hD
  replace hK : va_K (dC, dI) vwCl [(k_2, .long), (k_4, .long), (k_7, .int), (k_9, .int)] s := hK
  refine va_putF (D := (dC, dI)) (ci := 13) (v := .ref q_8) (ty := .array .int) (C := RX13) (T := TX13) (N := 5) hx hb hts (in_X13_init_X13) tyX13 tyX13_ok nmX13 hown hK hP hD hS 0 rfl rfl 3 (by decide) (hts (.fieldLink RX13 22 "MotionSignsModel$Poly" "where" "[I") (List.mem_of_getElem? (i := 9) rfl)) (fun _ h9 => h9) rfl hin rfl (tyX13_ok 3 (by decide)) rfl rfl (Nat.le_of_ble_eq_true rfl) dX13_init_31 ?_
  clear hP hD hS; try clear H
  intro H locs hP hD hS
  replace hP : va_P (dC, dI) vwCl [(h0, .inr (13, [.ref q_1, .ref q_3, .ref q_6, .ref q_8, .int 0])), (q_1, .inl (k_2, 2048, .inr (.inl (fun _ => 0)))), (q_3, .inl (k_4, 2048, .inr (.inl (fun _ => 0)))), (q_6, .inl (k_7, 4096, .inl (fun _ => 0))), (q_8, .inl (k_9, 2048, .inl (fun _ => 0)))] H := hP
  replace hD : va_D A [(h0, .inr (13, [.ref q_1, .ref q_3, .ref q_6, .ref q_8, .int 0])), (q_1, .inl (k_2, 2048, .inr (.inl (fun _ => 0)))), (q_3, .inl (k_4, 2048, .inr (.inl (fun _ => 0)))), (q_6, .inl (k_7, 4096, .inl (fun _ => 0))), (q_8, .inl (k_9, 2048, .inl (fun _ => 0)))] := hD
  have hP9 := hP.sub (ws' := [(h0, .inr (13, [.ref q_1, .ref q_3, .ref q_6, .ref q_8, .int 0])), (q_6, .inl (k_7, 4096, .inl (fun _ => 0)))]) [0, 3] rfl
  have hD9 := hD.sub (ws' := [(h0, .inr (13, [.ref q_1, .ref q_3, .ref q_6, .ref q_8, .int 0])), (q_6, .inl (k_7, 4096, .inl (fun _ => 0)))]) [0, 3] (by decide) rfl
  have hK9 := hK.sub (tys' := [(k_7, .int)]) [2] rfl
  rw [← hAe] at hD9
  refine W.widen (k := 4) (n := 10240) (Nat.le_of_ble_eq_true rfl) (Nat.le_of_ble_eq_true rfl) ?_
  subst hQ0
  subst hAe
  exact W.vret hx hb hr (fun t ht hW => ⟨⟨(), rfl, trivial, q_1, q_3, q_6, q_8, k_7, by rw [ht]; exact hP9, va_K.moved hW.alike hK9, hD9⟩, hS.F ht⟩) hS.2.2 dX13_init_34
set_option maxHeartbeats 4000000 in
set_option maxRecDepth 100000 in
/-- the reference: Poly(4096) -/
theorem c_X13_init_4096 (l : Launch) (dC : Nat → ClassId) (dI : Nat → Nat → Nat) (h0 : Nat) (sz : Nat) : Met l yX13_init wsX13_init ({ frames := 1, cells := 4, slots := 20480, locals := 12 }) (va_Pc [.ref h0, .int 4096] (fun U => U.heap.size = sz ∧ va_P (dC, dI) vwCl [(h0, .inr (13, [.null, .null, .null, .null, .int 0]))] U.heap ∧ va_K (dC, dI) vwCl [] U ∧ va_D (fun _ => True) [(h0, .inr (13, [.null, .null, .null, .null, .int 0]))] ∧ w_N U)) (va_Qv (fun _ : Unit => True) (fun _ t => ∃ (q1 : Nat) (q2 : Nat) (q3 : Nat) (q4 : Nat) (k3 : Nat), va_P (dC, dI) vwCl [(h0, .inr (13, [.ref q1, .ref q2, .ref q3, .ref q4, .int 0])), (q3, .inl (k3, 8192, .inl (fun _ => 0)))] t.heap ∧ va_K (dC, dI) vwCl [(k3, .int)] t ∧ va_D (va_A [(h0, .inr (13, [.null, .null, .null, .null, .int 0]))] sz) [(h0, .inr (13, [.ref q1, .ref q2, .ref q3, .ref q4, .int 0])), (q3, .inl (k3, 8192, .inl (fun _ => 0)))]) (va_A [(h0, .inr (13, [.null, .null, .null, .null, .int 0]))] sz)) 4 20480 (va_A [(h0, .inr (13, [.null, .null, .null, .null, .int 0]))] sz) := by
  refine Met.ofW (cc := cX13_init) (maxL := 2) (ret := none) (by decide) rfl ?_
  intro p e s m args below meth c s₁ B hml hv
  obtain ⟨rfl, hsz, hP, hK, hD0, hN⟩ := hv
  have hx := B.exec
  have hb := B.bytes
  have hr := B.returns
  have hts := atoms_spec (ws := wsX13_init) B.pre
  have hown : s.vm.findClass RX13 = some m.cls := findClass_of_methodNamed B.named
  have hlocks := B.notSynchronized
  have hin : meth.name = "<init>" := (name_of_methodNamed B.named B.method).1
  subst hsz
  have hD := hD0.self (sz := s.heap.size)
  generalize hAe : va_A [(h0, .inr (13, [.null, .null, .null, .null, .int 0]))] s.heap.size = A at hD ⊢
  have hA : ∀ q : Nat, s.heap.size ≤ q → A q := fun q h => by rw [← hAe]; exact Or.inr h
  have hS : va_S A s.heap s.heap [] := va_S.rf
  have hP : va_P (dC, dI) vwCl [(h0, .inr (13, [.null, .null, .null, .null, .int 0]))] s.heap := hP
  have hl := lv_entry ([.ref h0, .int 4096]) (n := 2) (Nat.le_of_ble_eq_true rfl)
  rw [lg_entry_eq]
  generalize (lg_sl ([.ref h0, .int 4096]) ++ List.replicate (2 - (lg_sl ([.ref h0, .int 4096])).length) Slot.unset).toArray = ls at hl ⊢
  have hl : lv_has ls 2 [(0, .ref h0), (1, .int 4096)] := hl
  refine gen_W (fun Q0 hQ0 => ?_)
  refine lv_aload_n hx hb dX13_init_0 rfl (lv_at hl 0 rfl) ?_
  refine W.objInit hx hb hown (hts (.methodLink RX13 3 objectInit) (List.mem_of_getElem? (i := 1) rfl)) (hts (.instanceMethod objectInit) (List.mem_of_getElem? (i := 2) rfl)) (hts _ (List.mem_of_getElem? (i := 3) rfl)) rfl (by rw [hml]; exact hl.1) rfl dX13_init_1 (Nat.le_of_ble_eq_true rfl) (Nat.le_of_ble_eq_true rfl) ?_
  refine W.eq (g2 := F0 m 4 ls []) rfl ?_
  refine lv_aload_n hx hb dX13_init_4 rfl (lv_at hl 0 rfl) ?_
  refine lv_iload_n hx hb dX13_init_5 rfl (lv_at hl 1 rfl) ?_
  refine va_newa (atype := .long) (ty := .long) (N' := 4096) (a0 := (4096, .inr (.inl (fun _ => 0)))) hx hb (hts (.arrayClass .long) (List.mem_of_getElem? (i := 4) rfl)) rfl hK hP hD hS hA (fun _ => rfl) (by decide) (by decide) (Nat.le_of_ble_eq_true rfl) (Nat.le_of_ble_eq_true rfl) (Nat.le_of_ble_eq_true rfl) dX13_init_6 ?_
  clear hP hD hS hK; try clear H
  intro q_1 k_2 H hK hP hD hS
  replace hP : va_P (dC, dI) vwCl [(h0, .inr (13, [.null, .null, .null, .null, .int 0])), (q_1, .inl (k_2, 4096, .inr (.inl (fun _ => 0))))] H := hP
  replace hD : va_D A [(h0, .inr (13, [.null, .null, .null, .null, .int 0])), (q_1, .inl (k_2, 4096, .inr (.inl (fun _ => 0))))] := hD
  replace hK : va_K (dC, dI) vwCl [(k_2, .long)] s := hK
  refine va_putF (D := (dC, dI)) (ci := 13) (v := .ref q_1) (ty := .array .long) (C := RX13) (T := TX13) (N := 5) hx hb hts (in_X13_init_X13) tyX13 tyX13_ok nmX13 hown hK hP hD hS 0 rfl rfl 0 (by decide) (hts (.fieldLink RX13 9 "MotionSignsModel$Poly" "key" "[J") (List.mem_of_getElem? (i := 5) rfl)) (fun _ h9 => h9) rfl hin rfl (tyX13_ok 0 (by decide)) rfl rfl (Nat.le_of_ble_eq_true rfl) dX13_init_8 ?_
  clear hP hD hS; try clear H
  intro H locs hP hD hS
  replace hP : va_P (dC, dI) vwCl [(h0, .inr (13, [.ref q_1, .null, .null, .null, .int 0])), (q_1, .inl (k_2, 4096, .inr (.inl (fun _ => 0))))] H := hP
  replace hD : va_D A [(h0, .inr (13, [.ref q_1, .null, .null, .null, .int 0])), (q_1, .inl (k_2, 4096, .inr (.inl (fun _ => 0))))] := hD
  refine lv_aload_n hx hb dX13_init_11 rfl (lv_at hl 0 rfl) ?_
  refine lv_iload_n hx hb dX13_init_12 rfl (lv_at hl 1 rfl) ?_
  refine va_newa (atype := .long) (ty := .long) (N' := 4096) (a0 := (4096, .inr (.inl (fun _ => 0)))) hx hb (hts (.arrayClass .long) (List.mem_of_getElem? (i := 4) rfl)) rfl hK hP hD hS hA (fun _ => rfl) (by decide) (by decide) (Nat.le_of_ble_eq_true rfl) (Nat.le_of_ble_eq_true rfl) (Nat.le_of_ble_eq_true rfl) dX13_init_13 ?_
  clear hP hD hS hK; try clear H
  intro q_3 k_4 H hK hP hD hS
  replace hP : va_P (dC, dI) vwCl [(h0, .inr (13, [.ref q_1, .null, .null, .null, .int 0])), (q_1, .inl (k_2, 4096, .inr (.inl (fun _ => 0)))), (q_3, .inl (k_4, 4096, .inr (.inl (fun _ => 0))))] H := hP
  replace hD : va_D A [(h0, .inr (13, [.ref q_1, .null, .null, .null, .int 0])), (q_1, .inl (k_2, 4096, .inr (.inl (fun _ => 0)))), (q_3, .inl (k_4, 4096, .inr (.inl (fun _ => 0))))] := hD
  replace hK : va_K (dC, dI) vwCl [(k_2, .long), (k_4, .long)] s := hK
  refine va_putF (D := (dC, dI)) (ci := 13) (v := .ref q_3) (ty := .array .long) (C := RX13) (T := TX13) (N := 5) hx hb hts (in_X13_init_X13) tyX13 tyX13_ok nmX13 hown hK hP hD hS 0 rfl rfl 1 (by decide) (hts (.fieldLink RX13 15 "MotionSignsModel$Poly" "num" "[J") (List.mem_of_getElem? (i := 6) rfl)) (fun _ h9 => h9) rfl hin rfl (tyX13_ok 1 (by decide)) rfl rfl (Nat.le_of_ble_eq_true rfl) dX13_init_15 ?_
  clear hP hD hS; try clear H
  intro H locs hP hD hS
  replace hP : va_P (dC, dI) vwCl [(h0, .inr (13, [.ref q_1, .ref q_3, .null, .null, .int 0])), (q_1, .inl (k_2, 4096, .inr (.inl (fun _ => 0)))), (q_3, .inl (k_4, 4096, .inr (.inl (fun _ => 0))))] H := hP
  replace hD : va_D A [(h0, .inr (13, [.ref q_1, .ref q_3, .null, .null, .int 0])), (q_1, .inl (k_2, 4096, .inr (.inl (fun _ => 0)))), (q_3, .inl (k_4, 4096, .inr (.inl (fun _ => 0))))] := hD
  refine lv_aload_n hx hb dX13_init_18 rfl (lv_at hl 0 rfl) ?_
  refine lv_iconst (v := 2) hx hb dX13_init_19 (by decide) ?_
  refine lv_iload_n hx hb dX13_init_20 rfl (lv_at hl 1 rfl) ?_
  refine lv_imul hx hb dX13_init_21 ?_
  refine lv_topi (fun v_5 ev_5 => ?_)
  have ev_5 : v_5 = 8192 := ev_5.trans (by decide)
  subst ev_5
  refine va_newa (atype := .int) (ty := .int) (N' := 8192) (a0 := (8192, .inl (fun _ => 0))) hx hb (hts (.arrayClass .int) (List.mem_of_getElem? (i := 7) rfl)) rfl hK hP hD hS hA (fun _ => rfl) (by decide) (by decide) (Nat.le_of_ble_eq_true rfl) (Nat.le_of_ble_eq_true rfl) (Nat.le_of_ble_eq_true rfl) dX13_init_22 ?_
  clear hP hD hS hK; try clear H
  intro q_6 k_7 H hK hP hD hS
  replace hP : va_P (dC, dI) vwCl [(h0, .inr (13, [.ref q_1, .ref q_3, .null, .null, .int 0])), (q_1, .inl (k_2, 4096, .inr (.inl (fun _ => 0)))), (q_3, .inl (k_4, 4096, .inr (.inl (fun _ => 0)))), (q_6, .inl (k_7, 8192, .inl (fun _ => 0)))] H := hP
  replace hD : va_D A [(h0, .inr (13, [.ref q_1, .ref q_3, .null, .null, .int 0])), (q_1, .inl (k_2, 4096, .inr (.inl (fun _ => 0)))), (q_3, .inl (k_4, 4096, .inr (.inl (fun _ => 0)))), (q_6, .inl (k_7, 8192, .inl (fun _ => 0)))] := hD
  replace hK : va_K (dC, dI) vwCl [(k_2, .long), (k_4, .long), (k_7, .int)] s := hK
  refine va_putF (D := (dC, dI)) (ci := 13) (v := .ref q_6) (ty := .array .int) (C := RX13) (T := TX13) (N := 5) hx hb hts (in_X13_init_X13) tyX13 tyX13_ok nmX13 hown hK hP hD hS 0 rfl rfl 2 (by decide) (hts (.fieldLink RX13 18 "MotionSignsModel$Poly" "slot" "[I") (List.mem_of_getElem? (i := 8) rfl)) (fun _ h9 => h9) rfl hin rfl (tyX13_ok 2 (by decide)) rfl rfl (Nat.le_of_ble_eq_true rfl) dX13_init_24 ?_
  clear hP hD hS; try clear H
  intro H locs hP hD hS
  replace hP : va_P (dC, dI) vwCl [(h0, .inr (13, [.ref q_1, .ref q_3, .ref q_6, .null, .int 0])), (q_1, .inl (k_2, 4096, .inr (.inl (fun _ => 0)))), (q_3, .inl (k_4, 4096, .inr (.inl (fun _ => 0)))), (q_6, .inl (k_7, 8192, .inl (fun _ => 0)))] H := hP
  replace hD : va_D A [(h0, .inr (13, [.ref q_1, .ref q_3, .ref q_6, .null, .int 0])), (q_1, .inl (k_2, 4096, .inr (.inl (fun _ => 0)))), (q_3, .inl (k_4, 4096, .inr (.inl (fun _ => 0)))), (q_6, .inl (k_7, 8192, .inl (fun _ => 0)))] := hD
  refine lv_aload_n hx hb dX13_init_27 rfl (lv_at hl 0 rfl) ?_
  refine lv_iload_n hx hb dX13_init_28 rfl (lv_at hl 1 rfl) ?_
  refine va_newa (atype := .int) (ty := .int) (N' := 4096) (a0 := (4096, .inl (fun _ => 0))) hx hb (hts (.arrayClass .int) (List.mem_of_getElem? (i := 7) rfl)) rfl hK hP hD hS hA (fun _ => rfl) (by decide) (by decide) (Nat.le_of_ble_eq_true rfl) (Nat.le_of_ble_eq_true rfl) (Nat.le_of_ble_eq_true rfl) dX13_init_29 ?_
  clear hP hD hS hK; try clear H
  intro q_8 k_9 H hK hP hD hS
  replace hP : va_P (dC, dI) vwCl [(h0, .inr (13, [.ref q_1, .ref q_3, .ref q_6, .null, .int 0])), (q_1, .inl (k_2, 4096, .inr (.inl (fun _ => 0)))), (q_3, .inl (k_4, 4096, .inr (.inl (fun _ => 0)))), (q_6, .inl (k_7, 8192, .inl (fun _ => 0))), (q_8, .inl (k_9, 4096, .inl (fun _ => 0)))] H := hP
  replace hD : va_D A [(h0, .inr (13, [.ref q_1, .ref q_3, .ref q_6, .null, .int 0])), (q_1, .inl (k_2, 4096, .inr (.inl (fun _ => 0)))), (q_3, .inl (k_4, 4096, .inr (.inl (fun _ => 0)))), (q_6, .inl (k_7, 8192, .inl (fun _ => 0))), (q_8, .inl (k_9, 4096, .inl (fun _ => 0)))] := hD
  replace hK : va_K (dC, dI) vwCl [(k_2, .long), (k_4, .long), (k_7, .int), (k_9, .int)] s := hK
  refine va_putF (D := (dC, dI)) (ci := 13) (v := .ref q_8) (ty := .array .int) (C := RX13) (T := TX13) (N := 5) hx hb hts (in_X13_init_X13) tyX13 tyX13_ok nmX13 hown hK hP hD hS 0 rfl rfl 3 (by decide) (hts (.fieldLink RX13 22 "MotionSignsModel$Poly" "where" "[I") (List.mem_of_getElem? (i := 9) rfl)) (fun _ h9 => h9) rfl hin rfl (tyX13_ok 3 (by decide)) rfl rfl (Nat.le_of_ble_eq_true rfl) dX13_init_31 ?_
  clear hP hD hS; try clear H
  intro H locs hP hD hS
  replace hP : va_P (dC, dI) vwCl [(h0, .inr (13, [.ref q_1, .ref q_3, .ref q_6, .ref q_8, .int 0])), (q_1, .inl (k_2, 4096, .inr (.inl (fun _ => 0)))), (q_3, .inl (k_4, 4096, .inr (.inl (fun _ => 0)))), (q_6, .inl (k_7, 8192, .inl (fun _ => 0))), (q_8, .inl (k_9, 4096, .inl (fun _ => 0)))] H := hP
  replace hD : va_D A [(h0, .inr (13, [.ref q_1, .ref q_3, .ref q_6, .ref q_8, .int 0])), (q_1, .inl (k_2, 4096, .inr (.inl (fun _ => 0)))), (q_3, .inl (k_4, 4096, .inr (.inl (fun _ => 0)))), (q_6, .inl (k_7, 8192, .inl (fun _ => 0))), (q_8, .inl (k_9, 4096, .inl (fun _ => 0)))] := hD
  have hP9 := hP.sub (ws' := [(h0, .inr (13, [.ref q_1, .ref q_3, .ref q_6, .ref q_8, .int 0])), (q_6, .inl (k_7, 8192, .inl (fun _ => 0)))]) [0, 3] rfl
  have hD9 := hD.sub (ws' := [(h0, .inr (13, [.ref q_1, .ref q_3, .ref q_6, .ref q_8, .int 0])), (q_6, .inl (k_7, 8192, .inl (fun _ => 0)))]) [0, 3] (by decide) rfl
  have hK9 := hK.sub (tys' := [(k_7, .int)]) [2] rfl
  rw [← hAe] at hD9
  refine W.widen (k := 4) (n := 20480) (Nat.le_of_ble_eq_true rfl) (Nat.le_of_ble_eq_true rfl) ?_
  subst hQ0
  subst hAe
  exact W.vret hx hb hr (fun t ht hW => ⟨⟨(), rfl, trivial, q_1, q_3, q_6, q_8, k_7, by rw [ht]; exact hP9, va_K.moved hW.alike hK9, hD9⟩, hS.F ht⟩) hS.2.2 dX13_init_34
set_option maxHeartbeats 4000000 in
set_option maxRecDepth 100000 in
/-- the reference: Poly(8192) -/
theorem c_X13_init_8192 (l : Launch) (dC : Nat → ClassId) (dI : Nat → Nat → Nat) (h0 : Nat) (sz : Nat) : Met l yX13_init wsX13_init ({ frames := 1, cells := 4, slots := 40960, locals := 12 }) (va_Pc [.ref h0, .int 8192] (fun U => U.heap.size = sz ∧ va_P (dC, dI) vwCl [(h0, .inr (13, [.null, .null, .null, .null, .int 0]))] U.heap ∧ va_K (dC, dI) vwCl [] U ∧ va_D (fun _ => True) [(h0, .inr (13, [.null, .null, .null, .null, .int 0]))] ∧ w_N U)) (va_Qv (fun _ : Unit => True) (fun _ t => ∃ (q1 : Nat) (q2 : Nat) (q3 : Nat) (q4 : Nat) (k3 : Nat), va_P (dC, dI) vwCl [(h0, .inr (13, [.ref q1, .ref q2, .ref q3, .ref q4, .int 0])), (q3, .inl (k3, 16384, .inl (fun _ => 0)))] t.heap ∧ va_K (dC, dI) vwCl [(k3, .int)] t ∧ va_D (va_A [(h0, .inr (13, [.null, .null, .null, .null, .int 0]))] sz) [(h0, .inr (13, [.ref q1, .ref q2, .ref q3, .ref q4, .int 0])), (q3, .inl (k3, 16384, .inl (fun _ => 0)))]) (va_A [(h0, .inr (13, [.null, .null, .null, .null, .int 0]))] sz)) 4 40960 (va_A [(h0, .inr (13, [.null, .null, .null, .null, .int 0]))] sz) := by
  refine Met.ofW (cc := cX13_init) (maxL := 2) (ret := none) (by decide) rfl ?_
  intro p e s m args below meth c s₁ B hml hv
  obtain ⟨rfl, hsz, hP, hK, hD0, hN⟩ := hv
  have hx := B.exec
  have hb := B.bytes
  have hr := B.returns
  have hts := atoms_spec (ws := wsX13_init) B.pre
  have hown : s.vm.findClass RX13 = some m.cls := findClass_of_methodNamed B.named
  have hlocks := B.notSynchronized
  have hin : meth.name = "<init>" := (name_of_methodNamed B.named B.method).1
  subst hsz
  have hD := hD0.self (sz := s.heap.size)
  generalize hAe : va_A [(h0, .inr (13, [.null, .null, .null, .null, .int 0]))] s.heap.size = A at hD ⊢
  have hA : ∀ q : Nat, s.heap.size ≤ q → A q := fun q h => by rw [← hAe]; exact Or.inr h
  have hS : va_S A s.heap s.heap [] := va_S.rf
  have hP : va_P (dC, dI) vwCl [(h0, .inr (13, [.null, .null, .null, .null, .int 0]))] s.heap := hP
  have hl := lv_entry ([.ref h0, .int 8192]) (n := 2) (Nat.le_of_ble_eq_true rfl)
  rw [lg_entry_eq]
  generalize (lg_sl ([.ref h0, .int 8192]) ++ List.replicate (2 - (lg_sl ([.ref h0, .int 8192])).length) Slot.unset).toArray = ls at hl ⊢
  have hl : lv_has ls 2 [(0, .ref h0), (1, .int 8192)] := hl
  refine gen_W (fun Q0 hQ0 => ?_)
  refine lv_aload_n hx hb dX13_init_0 rfl (lv_at hl 0 rfl) ?_
  refine W.objInit hx hb hown (hts (.methodLink RX13 3 objectInit) (List.mem_of_getElem? (i := 1) rfl)) (hts (.instanceMethod objectInit) (List.mem_of_getElem? (i := 2) rfl)) (hts _ (List.mem_of_getElem? (i := 3) rfl)) rfl (by rw [hml]; exact hl.1) rfl dX13_init_1 (Nat.le_of_ble_eq_true rfl) (Nat.le_of_ble_eq_true rfl) ?_
  refine W.eq (g2 := F0 m 4 ls []) rfl ?_
  refine lv_aload_n hx hb dX13_init_4 rfl (lv_at hl 0 rfl) ?_
  refine lv_iload_n hx hb dX13_init_5 rfl (lv_at hl 1 rfl) ?_
  refine va_newa (atype := .long) (ty := .long) (N' := 8192) (a0 := (8192, .inr (.inl (fun _ => 0)))) hx hb (hts (.arrayClass .long) (List.mem_of_getElem? (i := 4) rfl)) rfl hK hP hD hS hA (fun _ => rfl) (by decide) (by decide) (Nat.le_of_ble_eq_true rfl) (Nat.le_of_ble_eq_true rfl) (Nat.le_of_ble_eq_true rfl) dX13_init_6 ?_
  clear hP hD hS hK; try clear H
  intro q_1 k_2 H hK hP hD hS
  replace hP : va_P (dC, dI) vwCl [(h0, .inr (13, [.null, .null, .null, .null, .int 0])), (q_1, .inl (k_2, 8192, .inr (.inl (fun _ => 0))))] H := hP
  replace hD : va_D A [(h0, .inr (13, [.null, .null, .null, .null, .int 0])), (q_1, .inl (k_2, 8192, .inr (.inl (fun _ => 0))))] := hD
  replace hK : va_K (dC, dI) vwCl [(k_2, .long)] s := hK
  refine va_putF (D := (dC, dI)) (ci := 13) (v := .ref q_1) (ty := .array .long) (C := RX13) (T := TX13) (N := 5) hx hb hts (in_X13_init_X13) tyX13 tyX13_ok nmX13 hown hK hP hD hS 0 rfl rfl 0 (by decide) (hts (.fieldLink RX13 9 "MotionSignsModel$Poly" "key" "[J") (List.mem_of_getElem? (i := 5) rfl)) (fun _ h9 => h9) rfl hin rfl (tyX13_ok 0 (by decide)) rfl rfl (Nat.le_of_ble_eq_true rfl) dX13_init_8 ?_
  clear hP hD hS; try clear H
  intro H locs hP hD hS
  replace hP : va_P (dC, dI) vwCl [(h0, .inr (13, [.ref q_1, .null, .null, .null, .int 0])), (q_1, .inl (k_2, 8192, .inr (.inl (fun _ => 0))))] H := hP
  replace hD : va_D A [(h0, .inr (13, [.ref q_1, .null, .null, .null, .int 0])), (q_1, .inl (k_2, 8192, .inr (.inl (fun _ => 0))))] := hD
  refine lv_aload_n hx hb dX13_init_11 rfl (lv_at hl 0 rfl) ?_
  refine lv_iload_n hx hb dX13_init_12 rfl (lv_at hl 1 rfl) ?_
  refine va_newa (atype := .long) (ty := .long) (N' := 8192) (a0 := (8192, .inr (.inl (fun _ => 0)))) hx hb (hts (.arrayClass .long) (List.mem_of_getElem? (i := 4) rfl)) rfl hK hP hD hS hA (fun _ => rfl) (by decide) (by decide) (Nat.le_of_ble_eq_true rfl) (Nat.le_of_ble_eq_true rfl) (Nat.le_of_ble_eq_true rfl) dX13_init_13 ?_
  clear hP hD hS hK; try clear H
  intro q_3 k_4 H hK hP hD hS
  replace hP : va_P (dC, dI) vwCl [(h0, .inr (13, [.ref q_1, .null, .null, .null, .int 0])), (q_1, .inl (k_2, 8192, .inr (.inl (fun _ => 0)))), (q_3, .inl (k_4, 8192, .inr (.inl (fun _ => 0))))] H := hP
  replace hD : va_D A [(h0, .inr (13, [.ref q_1, .null, .null, .null, .int 0])), (q_1, .inl (k_2, 8192, .inr (.inl (fun _ => 0)))), (q_3, .inl (k_4, 8192, .inr (.inl (fun _ => 0))))] := hD
  replace hK : va_K (dC, dI) vwCl [(k_2, .long), (k_4, .long)] s := hK
  refine va_putF (D := (dC, dI)) (ci := 13) (v := .ref q_3) (ty := .array .long) (C := RX13) (T := TX13) (N := 5) hx hb hts (in_X13_init_X13) tyX13 tyX13_ok nmX13 hown hK hP hD hS 0 rfl rfl 1 (by decide) (hts (.fieldLink RX13 15 "MotionSignsModel$Poly" "num" "[J") (List.mem_of_getElem? (i := 6) rfl)) (fun _ h9 => h9) rfl hin rfl (tyX13_ok 1 (by decide)) rfl rfl (Nat.le_of_ble_eq_true rfl) dX13_init_15 ?_
  clear hP hD hS; try clear H
  intro H locs hP hD hS
  replace hP : va_P (dC, dI) vwCl [(h0, .inr (13, [.ref q_1, .ref q_3, .null, .null, .int 0])), (q_1, .inl (k_2, 8192, .inr (.inl (fun _ => 0)))), (q_3, .inl (k_4, 8192, .inr (.inl (fun _ => 0))))] H := hP
  replace hD : va_D A [(h0, .inr (13, [.ref q_1, .ref q_3, .null, .null, .int 0])), (q_1, .inl (k_2, 8192, .inr (.inl (fun _ => 0)))), (q_3, .inl (k_4, 8192, .inr (.inl (fun _ => 0))))] := hD
  refine lv_aload_n hx hb dX13_init_18 rfl (lv_at hl 0 rfl) ?_
  refine lv_iconst (v := 2) hx hb dX13_init_19 (by decide) ?_
  refine lv_iload_n hx hb dX13_init_20 rfl (lv_at hl 1 rfl) ?_
  refine lv_imul hx hb dX13_init_21 ?_
  refine lv_topi (fun v_5 ev_5 => ?_)
  have ev_5 : v_5 = 16384 := ev_5.trans (by decide)
  subst ev_5
  refine va_newa (atype := .int) (ty := .int) (N' := 16384) (a0 := (16384, .inl (fun _ => 0))) hx hb (hts (.arrayClass .int) (List.mem_of_getElem? (i := 7) rfl)) rfl hK hP hD hS hA (fun _ => rfl) (by decide) (by decide) (Nat.le_of_ble_eq_true rfl) (Nat.le_of_ble_eq_true rfl) (Nat.le_of_ble_eq_true rfl) dX13_init_22 ?_
  clear hP hD hS hK; try clear H
  intro q_6 k_7 H hK hP hD hS
  replace hP : va_P (dC, dI) vwCl [(h0, .inr (13, [.ref q_1, .ref q_3, .null, .null, .int 0])), (q_1, .inl (k_2, 8192, .inr (.inl (fun _ => 0)))), (q_3, .inl (k_4, 8192, .inr (.inl (fun _ => 0)))), (q_6, .inl (k_7, 16384, .inl (fun _ => 0)))] H := hP
  replace hD : va_D A [(h0, .inr (13, [.ref q_1, .ref q_3, .null, .null, .int 0])), (q_1, .inl (k_2, 8192, .inr (.inl (fun _ => 0)))), (q_3, .inl (k_4, 8192, .inr (.inl (fun _ => 0)))), (q_6, .inl (k_7, 16384, .inl (fun _ => 0)))] := hD
  replace hK : va_K (dC, dI) vwCl [(k_2, .long), (k_4, .long), (k_7, .int)] s := hK
  refine va_putF (D := (dC, dI)) (ci := 13) (v := .ref q_6) (ty := .array .int) (C := RX13) (T := TX13) (N := 5) hx hb hts (in_X13_init_X13) tyX13 tyX13_ok nmX13 hown hK hP hD hS 0 rfl rfl 2 (by decide) (hts (.fieldLink RX13 18 "MotionSignsModel$Poly" "slot" "[I") (List.mem_of_getElem? (i := 8) rfl)) (fun _ h9 => h9) rfl hin rfl (tyX13_ok 2 (by decide)) rfl rfl (Nat.le_of_ble_eq_true rfl) dX13_init_24 ?_
  clear hP hD hS; try clear H
  intro H locs hP hD hS
  replace hP : va_P (dC, dI) vwCl [(h0, .inr (13, [.ref q_1, .ref q_3, .ref q_6, .null, .int 0])), (q_1, .inl (k_2, 8192, .inr (.inl (fun _ => 0)))), (q_3, .inl (k_4, 8192, .inr (.inl (fun _ => 0)))), (q_6, .inl (k_7, 16384, .inl (fun _ => 0)))] H := hP
  replace hD : va_D A [(h0, .inr (13, [.ref q_1, .ref q_3, .ref q_6, .null, .int 0])), (q_1, .inl (k_2, 8192, .inr (.inl (fun _ => 0)))), (q_3, .inl (k_4, 8192, .inr (.inl (fun _ => 0)))), (q_6, .inl (k_7, 16384, .inl (fun _ => 0)))] := hD
  refine lv_aload_n hx hb dX13_init_27 rfl (lv_at hl 0 rfl) ?_
  refine lv_iload_n hx hb dX13_init_28 rfl (lv_at hl 1 rfl) ?_
  refine va_newa (atype := .int) (ty := .int) (N' := 8192) (a0 := (8192, .inl (fun _ => 0))) hx hb (hts (.arrayClass .int) (List.mem_of_getElem? (i := 7) rfl)) rfl hK hP hD hS hA (fun _ => rfl) (by decide) (by decide) (Nat.le_of_ble_eq_true rfl) (Nat.le_of_ble_eq_true rfl) (Nat.le_of_ble_eq_true rfl) dX13_init_29 ?_
  clear hP hD hS hK; try clear H
  intro q_8 k_9 H hK hP hD hS
  replace hP : va_P (dC, dI) vwCl [(h0, .inr (13, [.ref q_1, .ref q_3, .ref q_6, .null, .int 0])), (q_1, .inl (k_2, 8192, .inr (.inl (fun _ => 0)))), (q_3, .inl (k_4, 8192, .inr (.inl (fun _ => 0)))), (q_6, .inl (k_7, 16384, .inl (fun _ => 0))), (q_8, .inl (k_9, 8192, .inl (fun _ => 0)))] H := hP
  replace hD : va_D A [(h0, .inr (13, [.ref q_1, .ref q_3, .ref q_6, .null, .int 0])), (q_1, .inl (k_2, 8192, .inr (.inl (fun _ => 0)))), (q_3, .inl (k_4, 8192, .inr (.inl (fun _ => 0)))), (q_6, .inl (k_7, 16384, .inl (fun _ => 0))), (q_8, .inl (k_9, 8192, .inl (fun _ => 0)))] := hD
  replace hK : va_K (dC, dI) vwCl [(k_2, .long), (k_4, .long), (k_7, .int), (k_9, .int)] s := hK
  refine va_putF (D := (dC, dI)) (ci := 13) (v := .ref q_8) (ty := .array .int) (C := RX13) (T := TX13) (N := 5) hx hb hts (in_X13_init_X13) tyX13 tyX13_ok nmX13 hown hK hP hD hS 0 rfl rfl 3 (by decide) (hts (.fieldLink RX13 22 "MotionSignsModel$Poly" "where" "[I") (List.mem_of_getElem? (i := 9) rfl)) (fun _ h9 => h9) rfl hin rfl (tyX13_ok 3 (by decide)) rfl rfl (Nat.le_of_ble_eq_true rfl) dX13_init_31 ?_
  clear hP hD hS; try clear H
  intro H locs hP hD hS
  replace hP : va_P (dC, dI) vwCl [(h0, .inr (13, [.ref q_1, .ref q_3, .ref q_6, .ref q_8, .int 0])), (q_1, .inl (k_2, 8192, .inr (.inl (fun _ => 0)))), (q_3, .inl (k_4, 8192, .inr (.inl (fun _ => 0)))), (q_6, .inl (k_7, 16384, .inl (fun _ => 0))), (q_8, .inl (k_9, 8192, .inl (fun _ => 0)))] H := hP
  replace hD : va_D A [(h0, .inr (13, [.ref q_1, .ref q_3, .ref q_6, .ref q_8, .int 0])), (q_1, .inl (k_2, 8192, .inr (.inl (fun _ => 0)))), (q_3, .inl (k_4, 8192, .inr (.inl (fun _ => 0)))), (q_6, .inl (k_7, 16384, .inl (fun _ => 0))), (q_8, .inl (k_9, 8192, .inl (fun _ => 0)))] := hD
  have hP9 := hP.sub (ws' := [(h0, .inr (13, [.ref q_1, .ref q_3, .ref q_6, .ref q_8, .int 0])), (q_6, .inl (k_7, 16384, .inl (fun _ => 0)))]) [0, 3] rfl
  have hD9 := hD.sub (ws' := [(h0, .inr (13, [.ref q_1, .ref q_3, .ref q_6, .ref q_8, .int 0])), (q_6, .inl (k_7, 16384, .inl (fun _ => 0)))]) [0, 3] (by decide) rfl
  have hK9 := hK.sub (tys' := [(k_7, .int)]) [2] rfl
  rw [← hAe] at hD9
  refine W.widen (k := 4) (n := 40960) (Nat.le_of_ble_eq_true rfl) (Nat.le_of_ble_eq_true rfl) ?_
  subst hQ0
  subst hAe
  exact W.vret hx hb hr (fun t ht hW => ⟨⟨(), rfl, trivial, q_1, q_3, q_6, q_8, k_7, by rw [ht]; exact hP9, va_K.moved hW.alike hK9, hD9⟩, hS.F ht⟩) hS.2.2 dX13_init_34
set_option maxHeartbeats 4000000 in
set_option maxRecDepth 100000 in
/-- the reference: Poly(32768) -/
theorem c_X13_init_32768 (l : Launch) (dC : Nat → ClassId) (dI : Nat → Nat → Nat) (h0 : Nat) (sz : Nat) : Met l yX13_init wsX13_init ({ frames := 1, cells := 4, slots := 163840, locals := 12 }) (va_Pc [.ref h0, .int 32768] (fun U => U.heap.size = sz ∧ va_P (dC, dI) vwCl [(h0, .inr (13, [.null, .null, .null, .null, .int 0]))] U.heap ∧ va_K (dC, dI) vwCl [] U ∧ va_D (fun _ => True) [(h0, .inr (13, [.null, .null, .null, .null, .int 0]))] ∧ w_N U)) (va_Qv (fun _ : Unit => True) (fun _ t => ∃ (q1 : Nat) (q2 : Nat) (q3 : Nat) (q4 : Nat) (k3 : Nat), va_P (dC, dI) vwCl [(h0, .inr (13, [.ref q1, .ref q2, .ref q3, .ref q4, .int 0])), (q3, .inl (k3, 65536, .inl (fun _ => 0)))] t.heap ∧ va_K (dC, dI) vwCl [(k3, .int)] t ∧ va_D (va_A [(h0, .inr (13, [.null, .null, .null, .null, .int 0]))] sz) [(h0, .inr (13, [.ref q1, .ref q2, .ref q3, .ref q4, .int 0])), (q3, .inl (k3, 65536, .inl (fun _ => 0)))]) (va_A [(h0, .inr (13, [.null, .null, .null, .null, .int 0]))] sz)) 4 163840 (va_A [(h0, .inr (13, [.null, .null, .null, .null, .int 0]))] sz) := by
  refine Met.ofW (cc := cX13_init) (maxL := 2) (ret := none) (by decide) rfl ?_
  intro p e s m args below meth c s₁ B hml hv
  obtain ⟨rfl, hsz, hP, hK, hD0, hN⟩ := hv
  have hx := B.exec
  have hb := B.bytes
  have hr := B.returns
  have hts := atoms_spec (ws := wsX13_init) B.pre
  have hown : s.vm.findClass RX13 = some m.cls := findClass_of_methodNamed B.named
  have hlocks := B.notSynchronized
  have hin : meth.name = "<init>" := (name_of_methodNamed B.named B.method).1
  subst hsz
  have hD := hD0.self (sz := s.heap.size)
  generalize hAe : va_A [(h0, .inr (13, [.null, .null, .null, .null, .int 0]))] s.heap.size = A at hD ⊢
  have hA : ∀ q : Nat, s.heap.size ≤ q → A q := fun q h => by rw [← hAe]; exact Or.inr h
  have hS : va_S A s.heap s.heap [] := va_S.rf
  have hP : va_P (dC, dI) vwCl [(h0, .inr (13, [.null, .null, .null, .null, .int 0]))] s.heap := hP
  have hl := lv_entry ([.ref h0, .int 32768]) (n := 2) (Nat.le_of_ble_eq_true rfl)
  rw [lg_entry_eq]
  generalize (lg_sl ([.ref h0, .int 32768]) ++ List.replicate (2 - (lg_sl ([.ref h0, .int 32768])).length) Slot.unset).toArray = ls at hl ⊢
  have hl : lv_has ls 2 [(0, .ref h0), (1, .int 32768)] := hl
  refine gen_W (fun Q0 hQ0 => ?_)
  refine lv_aload_n hx hb dX13_init_0 rfl (lv_at hl 0 rfl) ?_
  refine W.objInit hx hb hown (hts (.methodLink RX13 3 objectInit) (List.mem_of_getElem? (i := 1) rfl)) (hts (.instanceMethod objectInit) (List.mem_of_getElem? (i := 2) rfl)) (hts _ (List.mem_of_getElem? (i := 3) rfl)) rfl (by rw [hml]; exact hl.1) rfl dX13_init_1 (Nat.le_of_ble_eq_true rfl) (Nat.le_of_ble_eq_true rfl) ?_
  refine W.eq (g2 := F0 m 4 ls []) rfl ?_
  refine lv_aload_n hx hb dX13_init_4 rfl (lv_at hl 0 rfl) ?_
  refine lv_iload_n hx hb dX13_init_5 rfl (lv_at hl 1 rfl) ?_
  refine va_newa (atype := .long) (ty := .long) (N' := 32768) (a0 := (32768, .inr (.inl (fun _ => 0)))) hx hb (hts (.arrayClass .long) (List.mem_of_getElem? (i := 4) rfl)) rfl hK hP hD hS hA (fun _ => rfl) (by decide) (by decide) (Nat.le_of_ble_eq_true rfl) (Nat.le_of_ble_eq_true rfl) (Nat.le_of_ble_eq_true rfl) dX13_init_6 ?_
  clear hP hD hS hK; try clear H
  intro q_1 k_2 H hK hP hD hS
  replace hP : va_P (dC, dI) vwCl [(h0, .inr (13, [.null, .null, .null, .null, .int 0])), (q_1, .inl (k_2, 32768, .inr (.inl (fun _ => 0))))] H := hP
  replace hD : va_D A [(h0, .inr (13, [.null, .null, .null, .null, .int 0])), (q_1, .inl (k_2, 32768, .inr (.inl (fun _ => 0))))] := hD
  replace hK : va_K (dC, dI) vwCl [(k_2, .long)] s := hK
  refine va_putF (D := (dC, dI)) (ci := 13) (v := .ref q_1) (ty := .array .long) (C := RX13) (T := TX13) (N := 5) hx hb hts (in_X13_init_X13) tyX13 tyX13_ok nmX13 hown hK hP hD hS 0 rfl rfl 0 (by decide) (hts (.fieldLink RX13 9 "MotionSignsModel$Poly" "key" "[J") (List.mem_of_getElem? (i := 5) rfl)) (fun _ h9 => h9) rfl hin rfl (tyX13_ok 0 (by decide)) rfl rfl (Nat.le_of_ble_eq_true rfl) dX13_init_8 ?_
  clear hP hD hS; try clear H
  intro H locs hP hD hS
  replace hP : va_P (dC, dI) vwCl [(h0, .inr (13, [.ref q_1, .null, .null, .null, .int 0])), (q_1, .inl (k_2, 32768, .inr (.inl (fun _ => 0))))] H := hP
  replace hD : va_D A [(h0, .inr (13, [.ref q_1, .null, .null, .null, .int 0])), (q_1, .inl (k_2, 32768, .inr (.inl (fun _ => 0))))] := hD
  refine lv_aload_n hx hb dX13_init_11 rfl (lv_at hl 0 rfl) ?_
  refine lv_iload_n hx hb dX13_init_12 rfl (lv_at hl 1 rfl) ?_
  refine va_newa (atype := .long) (ty := .long) (N' := 32768) (a0 := (32768, .inr (.inl (fun _ => 0)))) hx hb (hts (.arrayClass .long) (List.mem_of_getElem? (i := 4) rfl)) rfl hK hP hD hS hA (fun _ => rfl) (by decide) (by decide) (Nat.le_of_ble_eq_true rfl) (Nat.le_of_ble_eq_true rfl) (Nat.le_of_ble_eq_true rfl) dX13_init_13 ?_
  clear hP hD hS hK; try clear H
  intro q_3 k_4 H hK hP hD hS
  replace hP : va_P (dC, dI) vwCl [(h0, .inr (13, [.ref q_1, .null, .null, .null, .int 0])), (q_1, .inl (k_2, 32768, .inr (.inl (fun _ => 0)))), (q_3, .inl (k_4, 32768, .inr (.inl (fun _ => 0))))] H := hP
  replace hD : va_D A [(h0, .inr (13, [.ref q_1, .null, .null, .null, .int 0])), (q_1, .inl (k_2, 32768, .inr (.inl (fun _ => 0)))), (q_3, .inl (k_4, 32768, .inr (.inl (fun _ => 0))))] := hD
  replace hK : va_K (dC, dI) vwCl [(k_2, .long), (k_4, .long)] s := hK
  refine va_putF (D := (dC, dI)) (ci := 13) (v := .ref q_3) (ty := .array .long) (C := RX13) (T := TX13) (N := 5) hx hb hts (in_X13_init_X13) tyX13 tyX13_ok nmX13 hown hK hP hD hS 0 rfl rfl 1 (by decide) (hts (.fieldLink RX13 15 "MotionSignsModel$Poly" "num" "[J") (List.mem_of_getElem? (i := 6) rfl)) (fun _ h9 => h9) rfl hin rfl (tyX13_ok 1 (by decide)) rfl rfl (Nat.le_of_ble_eq_true rfl) dX13_init_15 ?_
  clear hP hD hS; try clear H
  intro H locs hP hD hS
  replace hP : va_P (dC, dI) vwCl [(h0, .inr (13, [.ref q_1, .ref q_3, .null, .null, .int 0])), (q_1, .inl (k_2, 32768, .inr (.inl (fun _ => 0)))), (q_3, .inl (k_4, 32768, .inr (.inl (fun _ => 0))))] H := hP
  replace hD : va_D A [(h0, .inr (13, [.ref q_1, .ref q_3, .null, .null, .int 0])), (q_1, .inl (k_2, 32768, .inr (.inl (fun _ => 0)))), (q_3, .inl (k_4, 32768, .inr (.inl (fun _ => 0))))] := hD
  refine lv_aload_n hx hb dX13_init_18 rfl (lv_at hl 0 rfl) ?_
  refine lv_iconst (v := 2) hx hb dX13_init_19 (by decide) ?_
  refine lv_iload_n hx hb dX13_init_20 rfl (lv_at hl 1 rfl) ?_
  refine lv_imul hx hb dX13_init_21 ?_
  refine lv_topi (fun v_5 ev_5 => ?_)
  have ev_5 : v_5 = 65536 := ev_5.trans (by decide)
  subst ev_5
  refine va_newa (atype := .int) (ty := .int) (N' := 65536) (a0 := (65536, .inl (fun _ => 0))) hx hb (hts (.arrayClass .int) (List.mem_of_getElem? (i := 7) rfl)) rfl hK hP hD hS hA (fun _ => rfl) (by decide) (by decide) (Nat.le_of_ble_eq_true rfl) (Nat.le_of_ble_eq_true rfl) (Nat.le_of_ble_eq_true rfl) dX13_init_22 ?_
  clear hP hD hS hK; try clear H
  intro q_6 k_7 H hK hP hD hS
  replace hP : va_P (dC, dI) vwCl [(h0, .inr (13, [.ref q_1, .ref q_3, .null, .null, .int 0])), (q_1, .inl (k_2, 32768, .inr (.inl (fun _ => 0)))), (q_3, .inl (k_4, 32768, .inr (.inl (fun _ => 0)))), (q_6, .inl (k_7, 65536, .inl (fun _ => 0)))] H := hP
  replace hD : va_D A [(h0, .inr (13, [.ref q_1, .ref q_3, .null, .null, .int 0])), (q_1, .inl (k_2, 32768, .inr (.inl (fun _ => 0)))), (q_3, .inl (k_4, 32768, .inr (.inl (fun _ => 0)))), (q_6, .inl (k_7, 65536, .inl (fun _ => 0)))] := hD
  replace hK : va_K (dC, dI) vwCl [(k_2, .long), (k_4, .long), (k_7, .int)] s := hK
  refine va_putF (D := (dC, dI)) (ci := 13) (v := .ref q_6) (ty := .array .int) (C := RX13) (T := TX13) (N := 5) hx hb hts (in_X13_init_X13) tyX13 tyX13_ok nmX13 hown hK hP hD hS 0 rfl rfl 2 (by decide) (hts (.fieldLink RX13 18 "MotionSignsModel$Poly" "slot" "[I") (List.mem_of_getElem? (i := 8) rfl)) (fun _ h9 => h9) rfl hin rfl (tyX13_ok 2 (by decide)) rfl rfl (Nat.le_of_ble_eq_true rfl) dX13_init_24 ?_
  clear hP hD hS; try clear H
  intro H locs hP hD hS
  replace hP : va_P (dC, dI) vwCl [(h0, .inr (13, [.ref q_1, .ref q_3, .ref q_6, .null, .int 0])), (q_1, .inl (k_2, 32768, .inr (.inl (fun _ => 0)))), (q_3, .inl (k_4, 32768, .inr (.inl (fun _ => 0)))), (q_6, .inl (k_7, 65536, .inl (fun _ => 0)))] H := hP
  replace hD : va_D A [(h0, .inr (13, [.ref q_1, .ref q_3, .ref q_6, .null, .int 0])), (q_1, .inl (k_2, 32768, .inr (.inl (fun _ => 0)))), (q_3, .inl (k_4, 32768, .inr (.inl (fun _ => 0)))), (q_6, .inl (k_7, 65536, .inl (fun _ => 0)))] := hD
  refine lv_aload_n hx hb dX13_init_27 rfl (lv_at hl 0 rfl) ?_
  refine lv_iload_n hx hb dX13_init_28 rfl (lv_at hl 1 rfl) ?_
  refine va_newa (atype := .int) (ty := .int) (N' := 32768) (a0 := (32768, .inl (fun _ => 0))) hx hb (hts (.arrayClass .int) (List.mem_of_getElem? (i := 7) rfl)) rfl hK hP hD hS hA (fun _ => rfl) (by decide) (by decide) (Nat.le_of_ble_eq_true rfl) (Nat.le_of_ble_eq_true rfl) (Nat.le_of_ble_eq_true rfl) dX13_init_29 ?_
  clear hP hD hS hK; try clear H
  intro q_8 k_9 H hK hP hD hS
  replace hP : va_P (dC, dI) vwCl [(h0, .inr (13, [.ref q_1, .ref q_3, .ref q_6, .null, .int 0])), (q_1, .inl (k_2, 32768, .inr (.inl (fun _ => 0)))), (q_3, .inl (k_4, 32768, .inr (.inl (fun _ => 0)))), (q_6, .inl (k_7, 65536, .inl (fun _ => 0))), (q_8, .inl (k_9, 32768, .inl (fun _ => 0)))] H := hP
  replace hD : va_D A [(h0, .inr (13, [.ref q_1, .ref q_3, .ref q_6, .null, .int 0])), (q_1, .inl (k_2, 32768, .inr (.inl (fun _ => 0)))), (q_3, .inl (k_4, 32768, .inr (.inl (fun _ => 0)))), (q_6, .inl (k_7, 65536, .inl (fun _ => 0))), (q_8, .inl (k_9, 32768, .inl (fun _ => 0)))] := hD
  replace hK : va_K (dC, dI) vwCl [(k_2, .long), (k_4, .long), (k_7, .int), (k_9, .int)] s := hK
  refine va_putF (D := (dC, dI)) (ci := 13) (v := .ref q_8) (ty := .array .int) (C := RX13) (T := TX13) (N := 5) hx hb hts (in_X13_init_X13) tyX13 tyX13_ok nmX13 hown hK hP hD hS 0 rfl rfl 3 (by decide) (hts (.fieldLink RX13 22 "MotionSignsModel$Poly" "where" "[I") (List.mem_of_getElem? (i := 9) rfl)) (fun _ h9 => h9) rfl hin rfl (tyX13_ok 3 (by decide)) rfl rfl (Nat.le_of_ble_eq_true rfl) dX13_init_31 ?_
  clear hP hD hS; try clear H
  intro H locs hP hD hS
  replace hP : va_P (dC, dI) vwCl [(h0, .inr (13, [.ref q_1, .ref q_3, .ref q_6, .ref q_8, .int 0])), (q_1, .inl (k_2, 32768, .inr (.inl (fun _ => 0)))), (q_3, .inl (k_4, 32768, .inr (.inl (fun _ => 0)))), (q_6, .inl (k_7, 65536, .inl (fun _ => 0))), (q_8, .inl (k_9, 32768, .inl (fun _ => 0)))] H := hP
  replace hD : va_D A [(h0, .inr (13, [.ref q_1, .ref q_3, .ref q_6, .ref q_8, .int 0])), (q_1, .inl (k_2, 32768, .inr (.inl (fun _ => 0)))), (q_3, .inl (k_4, 32768, .inr (.inl (fun _ => 0)))), (q_6, .inl (k_7, 65536, .inl (fun _ => 0))), (q_8, .inl (k_9, 32768, .inl (fun _ => 0)))] := hD
  have hP9 := hP.sub (ws' := [(h0, .inr (13, [.ref q_1, .ref q_3, .ref q_6, .ref q_8, .int 0])), (q_6, .inl (k_7, 65536, .inl (fun _ => 0)))]) [0, 3] rfl
  have hD9 := hD.sub (ws' := [(h0, .inr (13, [.ref q_1, .ref q_3, .ref q_6, .ref q_8, .int 0])), (q_6, .inl (k_7, 65536, .inl (fun _ => 0)))]) [0, 3] (by decide) rfl
  have hK9 := hK.sub (tys' := [(k_7, .int)]) [2] rfl
  rw [← hAe] at hD9
  refine W.widen (k := 4) (n := 163840) (Nat.le_of_ble_eq_true rfl) (Nat.le_of_ble_eq_true rfl) ?_
  subst hQ0
  subst hAe
  exact W.vret hx hb hr (fun t ht hW => ⟨⟨(), rfl, trivial, q_1, q_3, q_6, q_8, k_7, by rw [ht]; exact hP9, va_K.moved hW.alike hK9, hD9⟩, hS.F ht⟩) hS.2.2 dX13_init_34
set_option maxHeartbeats 4000000 in
set_option maxRecDepth 100000 in
/-- the reference: Poly(262144) -/
theorem c_X13_init_262144 (l : Launch) (dC : Nat → ClassId) (dI : Nat → Nat → Nat) (h0 : Nat) (sz : Nat) : Met l yX13_init wsX13_init ({ frames := 1, cells := 4, slots := 1310720, locals := 12 }) (va_Pc [.ref h0, .int 262144] (fun U => U.heap.size = sz ∧ va_P (dC, dI) vwCl [(h0, .inr (13, [.null, .null, .null, .null, .int 0]))] U.heap ∧ va_K (dC, dI) vwCl [] U ∧ va_D (fun _ => True) [(h0, .inr (13, [.null, .null, .null, .null, .int 0]))] ∧ w_N U)) (va_Qv (fun _ : Unit => True) (fun _ t => ∃ (q1 : Nat) (q2 : Nat) (q3 : Nat) (q4 : Nat) (k3 : Nat), va_P (dC, dI) vwCl [(h0, .inr (13, [.ref q1, .ref q2, .ref q3, .ref q4, .int 0])), (q3, .inl (k3, 524288, .inl (fun _ => 0)))] t.heap ∧ va_K (dC, dI) vwCl [(k3, .int)] t ∧ va_D (va_A [(h0, .inr (13, [.null, .null, .null, .null, .int 0]))] sz) [(h0, .inr (13, [.ref q1, .ref q2, .ref q3, .ref q4, .int 0])), (q3, .inl (k3, 524288, .inl (fun _ => 0)))]) (va_A [(h0, .inr (13, [.null, .null, .null, .null, .int 0]))] sz)) 4 1310720 (va_A [(h0, .inr (13, [.null, .null, .null, .null, .int 0]))] sz) := by
  refine Met.ofW (cc := cX13_init) (maxL := 2) (ret := none) (by decide) rfl ?_
  intro p e s m args below meth c s₁ B hml hv
  obtain ⟨rfl, hsz, hP, hK, hD0, hN⟩ := hv
  have hx := B.exec
  have hb := B.bytes
  have hr := B.returns
  have hts := atoms_spec (ws := wsX13_init) B.pre
  have hown : s.vm.findClass RX13 = some m.cls := findClass_of_methodNamed B.named
  have hlocks := B.notSynchronized
  have hin : meth.name = "<init>" := (name_of_methodNamed B.named B.method).1
  subst hsz
  have hD := hD0.self (sz := s.heap.size)
  generalize hAe : va_A [(h0, .inr (13, [.null, .null, .null, .null, .int 0]))] s.heap.size = A at hD ⊢
  have hA : ∀ q : Nat, s.heap.size ≤ q → A q := fun q h => by rw [← hAe]; exact Or.inr h
  have hS : va_S A s.heap s.heap [] := va_S.rf
  have hP : va_P (dC, dI) vwCl [(h0, .inr (13, [.null, .null, .null, .null, .int 0]))] s.heap := hP
  have hl := lv_entry ([.ref h0, .int 262144]) (n := 2) (Nat.le_of_ble_eq_true rfl)
  rw [lg_entry_eq]
  generalize (lg_sl ([.ref h0, .int 262144]) ++ List.replicate (2 - (lg_sl ([.ref h0, .int 262144])).length) Slot.unset).toArray = ls at hl ⊢
  have hl : lv_has ls 2 [(0, .ref h0), (1, .int 262144)] := hl
  refine gen_W (fun Q0 hQ0 => ?_)
  refine lv_aload_n hx hb dX13_init_0 rfl (lv_at hl 0 rfl) ?_
  refine W.objInit hx hb hown (hts (.methodLink RX13 3 objectInit) (List.mem_of_getElem? (i := 1) rfl)) (hts (.instanceMethod objectInit) (List.mem_of_getElem? (i := 2) rfl)) (hts _ (List.mem_of_getElem? (i := 3) rfl)) rfl (by rw [hml]; exact hl.1) rfl dX13_init_1 (Nat.le_of_ble_eq_true rfl) (Nat.le_of_ble_eq_true rfl) ?_
  refine W.eq (g2 := F0 m 4 ls []) rfl ?_
  refine lv_aload_n hx hb dX13_init_4 rfl (lv_at hl 0 rfl) ?_
  refine lv_iload_n hx hb dX13_init_5 rfl (lv_at hl 1 rfl) ?_
  refine va_newa (atype := .long) (ty := .long) (N' := 262144) (a0 := (262144, .inr (.inl (fun _ => 0)))) hx hb (hts (.arrayClass .long) (List.mem_of_getElem? (i := 4) rfl)) rfl hK hP hD hS hA (fun _ => rfl) (by decide) (by decide) (Nat.le_of_ble_eq_true rfl) (Nat.le_of_ble_eq_true rfl) (Nat.le_of_ble_eq_true rfl) dX13_init_6 ?_
  clear hP hD hS hK; try clear H
  intro q_1 k_2 H hK hP hD hS
  replace hP : va_P (dC, dI) vwCl [(h0, .inr (13, [.null, .null, .null, .null, .int 0])), (q_1, .inl (k_2, 262144, .inr (.inl (fun _ => 0))))] H := hP
  replace hD : va_D A [(h0, .inr (13, [.null, .null, .null, .null, .int 0])), (q_1, .inl (k_2, 262144, .inr (.inl (fun _ => 0))))] := hD
  replace hK : va_K (dC, dI) vwCl [(k_2, .long)] s := hK
  refine va_putF (D := (dC, dI)) (ci := 13) (v := .ref q_1) (ty := .array .long) (C := RX13) (T := TX13) (N := 5) hx hb hts (in_X13_init_X13) tyX13 tyX13_ok nmX13 hown hK hP hD hS 0 rfl rfl 0 (by decide) (hts (.fieldLink RX13 9 "MotionSignsModel$Poly" "key" "[J") (List.mem_of_getElem? (i := 5) rfl)) (fun _ h9 => h9) rfl hin rfl (tyX13_ok 0 (by decide)) rfl rfl (Nat.le_of_ble_eq_true rfl) dX13_init_8 ?_
  clear hP hD hS; try clear H
  intro H locs hP hD hS
  replace hP : va_P (dC, dI) vwCl [(h0, .inr (13, [.ref q_1, .null, .null, .null, .int 0])), (q_1, .inl (k_2, 262144, .inr (.inl (fun _ => 0))))] H := hP
  replace hD : va_D A [(h0, .inr (13, [.ref q_1, .null, .null, .null, .int 0])), (q_1, .inl (k_2, 262144, .inr (.inl (fun _ => 0))))] := hD
  refine lv_aload_n hx hb dX13_init_11 rfl (lv_at hl 0 rfl) ?_
  refine lv_iload_n hx hb dX13_init_12 rfl (lv_at hl 1 rfl) ?_
  refine va_newa (atype := .long) (ty := .long) (N' := 262144) (a0 := (262144, .inr (.inl (fun _ => 0)))) hx hb (hts (.arrayClass .long) (List.mem_of_getElem? (i := 4) rfl)) rfl hK hP hD hS hA (fun _ => rfl) (by decide) (by decide) (Nat.le_of_ble_eq_true rfl) (Nat.le_of_ble_eq_true rfl) (Nat.le_of_ble_eq_true rfl) dX13_init_13 ?_
  clear hP hD hS hK; try clear H
  intro q_3 k_4 H hK hP hD hS
  replace hP : va_P (dC, dI) vwCl [(h0, .inr (13, [.ref q_1, .null, .null, .null, .int 0])), (q_1, .inl (k_2, 262144, .inr (.inl (fun _ => 0)))), (q_3, .inl (k_4, 262144, .inr (.inl (fun _ => 0))))] H := hP
  replace hD : va_D A [(h0, .inr (13, [.ref q_1, .null, .null, .null, .int 0])), (q_1, .inl (k_2, 262144, .inr (.inl (fun _ => 0)))), (q_3, .inl (k_4, 262144, .inr (.inl (fun _ => 0))))] := hD
  replace hK : va_K (dC, dI) vwCl [(k_2, .long), (k_4, .long)] s := hK
  refine va_putF (D := (dC, dI)) (ci := 13) (v := .ref q_3) (ty := .array .long) (C := RX13) (T := TX13) (N := 5) hx hb hts (in_X13_init_X13) tyX13 tyX13_ok nmX13 hown hK hP hD hS 0 rfl rfl 1 (by decide) (hts (.fieldLink RX13 15 "MotionSignsModel$Poly" "num" "[J") (List.mem_of_getElem? (i := 6) rfl)) (fun _ h9 => h9) rfl hin rfl (tyX13_ok 1 (by decide)) rfl rfl (Nat.le_of_ble_eq_true rfl) dX13_init_15 ?_
  clear hP hD hS; try clear H
  intro H locs hP hD hS
  replace hP : va_P (dC, dI) vwCl [(h0, .inr (13, [.ref q_1, .ref q_3, .null, .null, .int 0])), (q_1, .inl (k_2, 262144, .inr (.inl (fun _ => 0)))), (q_3, .inl (k_4, 262144, .inr (.inl (fun _ => 0))))] H := hP
  replace hD : va_D A [(h0, .inr (13, [.ref q_1, .ref q_3, .null, .null, .int 0])), (q_1, .inl (k_2, 262144, .inr (.inl (fun _ => 0)))), (q_3, .inl (k_4, 262144, .inr (.inl (fun _ => 0))))] := hD
  refine lv_aload_n hx hb dX13_init_18 rfl (lv_at hl 0 rfl) ?_
  refine lv_iconst (v := 2) hx hb dX13_init_19 (by decide) ?_
  refine lv_iload_n hx hb dX13_init_20 rfl (lv_at hl 1 rfl) ?_
  refine lv_imul hx hb dX13_init_21 ?_
  refine lv_topi (fun v_5 ev_5 => ?_)
  have ev_5 : v_5 = 524288 := ev_5.trans (by decide)
  subst ev_5
  refine va_newa (atype := .int) (ty := .int) (N' := 524288) (a0 := (524288, .inl (fun _ => 0))) hx hb (hts (.arrayClass .int) (List.mem_of_getElem? (i := 7) rfl)) rfl hK hP hD hS hA (fun _ => rfl) (by decide) (by decide) (Nat.le_of_ble_eq_true rfl) (Nat.le_of_ble_eq_true rfl) (Nat.le_of_ble_eq_true rfl) dX13_init_22 ?_
  clear hP hD hS hK; try clear H
  intro q_6 k_7 H hK hP hD hS
  replace hP : va_P (dC, dI) vwCl [(h0, .inr (13, [.ref q_1, .ref q_3, .null, .null, .int 0])), (q_1, .inl (k_2, 262144, .inr (.inl (fun _ => 0)))), (q_3, .inl (k_4, 262144, .inr (.inl (fun _ => 0)))), (q_6, .inl (k_7, 524288, .inl (fun _ => 0)))] H := hP
  replace hD : va_D A [(h0, .inr (13, [.ref q_1, .ref q_3, .null, .null, .int 0])), (q_1, .inl (k_2, 262144, .inr (.inl (fun _ => 0)))), (q_3, .inl (k_4, 262144, .inr (.inl (fun _ => 0)))), (q_6, .inl (k_7, 524288, .inl (fun _ => 0)))] := hD
  replace hK : va_K (dC, dI) vwCl [(k_2, .long), (k_4, .long), (k_7, .int)] s := hK
  refine va_putF (D := (dC, dI)) (ci := 13) (v := .ref q_6) (ty := .array .int) (C := RX13) (T := TX13) (N := 5) hx hb hts (in_X13_init_X13) tyX13 tyX13_ok nmX13 hown hK hP hD hS 0 rfl rfl 2 (by decide) (hts (.fieldLink RX13 18 "MotionSignsModel$Poly" "slot" "[I") (List.mem_of_getElem? (i := 8) rfl)) (fun _ h9 => h9) rfl hin rfl (tyX13_ok 2 (by decide)) rfl rfl (Nat.le_of_ble_eq_true rfl) dX13_init_24 ?_
  clear hP hD hS; try clear H
  intro H locs hP hD hS
  replace hP : va_P (dC, dI) vwCl [(h0, .inr (13, [.ref q_1, .ref q_3, .ref q_6, .null, .int 0])), (q_1, .inl (k_2, 262144, .inr (.inl (fun _ => 0)))), (q_3, .inl (k_4, 262144, .inr (.inl (fun _ => 0)))), (q_6, .inl (k_7, 524288, .inl (fun _ => 0)))] H := hP
  replace hD : va_D A [(h0, .inr (13, [.ref q_1, .ref q_3, .ref q_6, .null, .int 0])), (q_1, .inl (k_2, 262144, .inr (.inl (fun _ => 0)))), (q_3, .inl (k_4, 262144, .inr (.inl (fun _ => 0)))), (q_6, .inl (k_7, 524288, .inl (fun _ => 0)))] := hD
  refine lv_aload_n hx hb dX13_init_27 rfl (lv_at hl 0 rfl) ?_
  refine lv_iload_n hx hb dX13_init_28 rfl (lv_at hl 1 rfl) ?_
  refine va_newa (atype := .int) (ty := .int) (N' := 262144) (a0 := (262144, .inl (fun _ => 0))) hx hb (hts (.arrayClass .int) (List.mem_of_getElem? (i := 7) rfl)) rfl hK hP hD hS hA (fun _ => rfl) (by decide) (by decide) (Nat.le_of_ble_eq_true rfl) (Nat.le_of_ble_eq_true rfl) (Nat.le_of_ble_eq_true rfl) dX13_init_29 ?_
  clear hP hD hS hK; try clear H
  intro q_8 k_9 H hK hP hD hS
  replace hP : va_P (dC, dI) vwCl [(h0, .inr (13, [.ref q_1, .ref q_3, .ref q_6, .null, .int 0])), (q_1, .inl (k_2, 262144, .inr (.inl (fun _ => 0)))), (q_3, .inl (k_4, 262144, .inr (.inl (fun _ => 0)))), (q_6, .inl (k_7, 524288, .inl (fun _ => 0))), (q_8, .inl (k_9, 262144, .inl (fun _ => 0)))] H := hP
  replace hD : va_D A [(h0, .inr (13, [.ref q_1, .ref q_3, .ref q_6, .null, .int 0])), (q_1, .inl (k_2, 262144, .inr (.inl (fun _ => 0)))), (q_3, .inl (k_4, 262144, .inr (.inl (fun _ => 0)))), (q_6, .inl (k_7, 524288, .inl (fun _ => 0))), (q_8, .inl (k_9, 262144, .inl (fun _ => 0)))] := hD
  replace hK : va_K (dC, dI) vwCl [(k_2, .long), (k_4, .long), (k_7, .int), (k_9, .int)] s := hK
  refine va_putF (D := (dC, dI)) (ci := 13) (v := .ref q_8) (ty := .array .int) (C := RX13) (T := TX13) (N := 5) hx hb hts (in_X13_init_X13) tyX13 tyX13_ok nmX13 hown hK hP hD hS 0 rfl rfl 3 (by decide) (hts (.fieldLink RX13 22 "MotionSignsModel$Poly" "where" "[I") (List.mem_of_getElem? (i := 9) rfl)) (fun _ h9 => h9) rfl hin rfl (tyX13_ok 3 (by decide)) rfl rfl (Nat.le_of_ble_eq_true rfl) dX13_init_31 ?_
  clear hP hD hS; try clear H
  intro H locs hP hD hS
  replace hP : va_P (dC, dI) vwCl [(h0, .inr (13, [.ref q_1, .ref q_3, .ref q_6, .ref q_8, .int 0])), (q_1, .inl (k_2, 262144, .inr (.inl (fun _ => 0)))), (q_3, .inl (k_4, 262144, .inr (.inl (fun _ => 0)))), (q_6, .inl (k_7, 524288, .inl (fun _ => 0))), (q_8, .inl (k_9, 262144, .inl (fun _ => 0)))] H := hP
  replace hD : va_D A [(h0, .inr (13, [.ref q_1, .ref q_3, .ref q_6, .ref q_8, .int 0])), (q_1, .inl (k_2, 262144, .inr (.inl (fun _ => 0)))), (q_3, .inl (k_4, 262144, .inr (.inl (fun _ => 0)))), (q_6, .inl (k_7, 524288, .inl (fun _ => 0))), (q_8, .inl (k_9, 262144, .inl (fun _ => 0)))] := hD
  have hP9 := hP.sub (ws' := [(h0, .inr (13, [.ref q_1, .ref q_3, .ref q_6, .ref q_8, .int 0])), (q_6, .inl (k_7, 524288, .inl (fun _ => 0)))]) [0, 3] rfl
  have hD9 := hD.sub (ws' := [(h0, .inr (13, [.ref q_1, .ref q_3, .ref q_6, .ref q_8, .int 0])), (q_6, .inl (k_7, 524288, .inl (fun _ => 0)))]) [0, 3] (by decide) rfl
  have hK9 := hK.sub (tys' := [(k_7, .int)]) [2] rfl
  rw [← hAe] at hD9
  refine W.widen (k := 4) (n := 1310720) (Nat.le_of_ble_eq_true rfl) (Nat.le_of_ble_eq_true rfl) ?_
  subst hQ0
  subst hAe
  exact W.vret hx hb hr (fun t ht hW => ⟨⟨(), rfl, trivial, q_1, q_3, q_6, q_8, k_7, by rw [ht]; exact hP9, va_K.moved hW.alike hK9, hD9⟩, hS.F ht⟩) hS.2.2 dX13_init_34
set_option maxHeartbeats 4000000 in
set_option maxRecDepth 100000 in
/-- the reference: Table(model) -/
theorem c_X14_init (l : Launch) (dC : Nat → ClassId) (dI : Nat → Nat → Nat) (h0 : Nat) (am : Nat) (sz : Nat) : Met l yX14_init wsT14 ({ frames := 2, cells := 1832, slots := 246660, locals := 33 }) (va_Pc [.ref h0, .ref am] (fun U => U.heap.size = sz ∧ va_P (dC, dI) vwCl [(h0, .inr (14, [.null, .null, .int 0, .int 0, .null]))] U.heap ∧ va_K (dC, dI) vwCl [] U ∧ va_D (fun _ => True) [(h0, .inr (14, [.null, .null, .int 0, .int 0, .null]))] ∧ w_N U)) (va_Qv (fun _ : Unit => True) (fun _ t => va_P (dC, dI) vwCl [] t.heap ∧ va_K (dC, dI) vwCl [] t ∧ va_D (va_A [(h0, .inr (14, [.null, .null, .int 0, .int 0, .null]))] sz) []) (va_A [(h0, .inr (14, [.null, .null, .int 0, .int 0, .null]))] sz)) 1832 246660 (va_A [(h0, .inr (14, [.null, .null, .int 0, .int 0, .null]))] sz) := by
  refine Met.ofW (cc := cX14_init) (maxL := 4) (ret := none) (by decide) rfl ?_
  intro p e s m args below meth c s₁ B hml hv
  obtain ⟨rfl, hsz, hP, hK, hD0, hN⟩ := hv
  have hx := B.exec
  have hb := B.bytes
  have hr := B.returns
  have hts := atoms_spec (ws := wsT14) B.pre
  have hown : s.vm.findClass RX14 = some m.cls := findClass_of_methodNamed B.named
  have hlocks := B.notSynchronized
  have hin : meth.name = "<init>" := (name_of_methodNamed B.named B.method).1
  subst hsz
  have hD := hD0.self (sz := s.heap.size)
  generalize hAe : va_A [(h0, .inr (14, [.null, .null, .int 0, .int 0, .null]))] s.heap.size = A at hD ⊢
  have hA : ∀ q : Nat, s.heap.size ≤ q → A q := fun q h => by rw [← hAe]; exact Or.inr h
  have hS : va_S A s.heap s.heap [] := va_S.rf
  have hP : va_P (dC, dI) vwCl [(h0, .inr (14, [.null, .null, .int 0, .int 0, .null]))] s.heap := hP
  have hl := lv_entry ([.ref h0, .ref am]) (n := 4) (Nat.le_of_ble_eq_true rfl)
  rw [lg_entry_eq]
  generalize (lg_sl ([.ref h0, .ref am]) ++ List.replicate (4 - (lg_sl ([.ref h0, .ref am])).length) Slot.unset).toArray = ls at hl ⊢
  have hl : lv_has ls 4 [(0, .ref h0), (1, .ref am)] := hl
  refine gen_W (fun Q0 hQ0 => ?_)
  refine lv_aload_n hx hb dX14_init_0 rfl (lv_at hl 0 rfl) ?_
  refine lv_aload_n hx hb dX14_init_1 rfl (lv_at hl 1 rfl) ?_
  refine va_putF (D := (dC, dI)) (ci := 14) (v := .ref am) (ty := .object "MotionSignsModel") (C := RX14) (T := TX14) (N := 5) hx hb hts (in_X14_init_X14) tyX14 tyX14_ok nmX14 hown hK hP hD hS 0 rfl rfl 4 (by decide) (hts (.fieldLink RX14 3 "MotionSignsModel$Table" "this$0" "LMotionSignsModel;") (List.mem_of_getElem? (i := 1) rfl)) (fun _ h9 => h9) rfl hin rfl (tyX14_ok 4 (by decide)) rfl rfl (Nat.le_of_ble_eq_true rfl) dX14_init_2 ?_
  clear hP hD hS; try clear H
  intro H locs hP hD hS
  replace hP : va_P (dC, dI) vwCl [(h0, .inr (14, [.null, .null, .int 0, .int 0, .ref am]))] H := hP
  replace hD : va_D A [(h0, .inr (14, [.null, .null, .int 0, .int 0, .ref am]))] := hD
  refine lv_aload_n hx hb dX14_init_5 rfl (lv_at hl 0 rfl) ?_
  refine W.objInit hx hb hown (hts (.methodLink RX14 9 objectInit) (List.mem_of_getElem? (i := 2) rfl)) (hts (.instanceMethod objectInit) (List.mem_of_getElem? (i := 3) rfl)) (hts _ (List.mem_of_getElem? (i := 4) rfl)) rfl (by rw [hml]; exact hl.1) rfl dX14_init_6 (Nat.le_of_ble_eq_true rfl) (Nat.le_of_ble_eq_true rfl) ?_
  refine W.eq (g2 := F0 m 9 ls []) rfl ?_
  refine lv_aload_n hx hb dX14_init_9 rfl (lv_at hl 0 rfl) ?_
  refine lv_bipush (v := 30) hx hb dX14_init_10 (by decide) ?_
  refine lv_bipush (v := 30) hx hb dX14_init_12 (by decide) ?_
  refine wm_mnaO (C := RX12) (N' := 30) (K' := 30) hx hb (by decide +kernel) (by decide +kernel) hown (hts (.classLink RX14 15 "[[LMotionSignsModel$Big;") (List.mem_of_getElem? (i := 23) rfl)) (hN.2.2.2.2.2.2.2.2.2.1) (hN.2.2.1 RX12 (List.mem_of_getElem? (i := 4) rfl)) hK hP hD hS hA (by decide) (by decide) (by decide) (by decide) (Nat.le_of_ble_eq_true rfl) (Nat.le_of_ble_eq_true rfl) (Nat.le_of_ble_eq_true rfl) (Nat.le_of_ble_eq_true rfl) dX14_init_14 ?_
  clear hP hD hS hK; try clear H
  intro q_1 k_2 k_3 H hK hP hD hS
  replace hP : va_P (dC, dI) vwCl ([(h0, .inr (14, [.null, .null, .int 0, .int 0, .ref am])), (q_1, .inl (k_2, 30, .inr (.inr (.inr (.inr (fun i => if i < 30 then some (q_1 + 1 + i) else none))))))] ++ va_pl ((List.range 30).map (fun i => q_1 + 1 + i)) (fun _ => .inl (k_3, 30, .inr (.inr (.inr (.inr (fun _ => none))))))) H := hP
  replace hD : va_D A ([(h0, .inr (14, [.null, .null, .int 0, .int 0, .ref am])), (q_1, .inl (k_2, 30, .inr (.inr (.inr (.inr (fun i => if i < 30 then some (q_1 + 1 + i) else none))))))] ++ va_pl ((List.range 30).map (fun i => q_1 + 1 + i)) (fun _ => .inl (k_3, 30, .inr (.inr (.inr (.inr (fun _ => none))))))) := hD
  replace hK : va_K (dC, dI) vwCl [(k_2, .array (.object RX12)), (k_3, .object RX12)] s := hK
  refine va_putF (D := (dC, dI)) (ci := 14) (v := .ref q_1) (ty := .array (.array (.object "MotionSignsModel$Big"))) (C := RX14) (T := TX14) (N := 5) hx hb hts (in_X14_init_X14) tyX14 tyX14_ok nmX14 hown hK hP hD hS 0 rfl rfl 0 (by decide) (hts (.fieldLink RX14 17 "MotionSignsModel$Table" "row" "[[LMotionSignsModel$Big;") (List.mem_of_getElem? (i := 5) rfl)) (fun _ h9 => h9) rfl hin rfl (tyX14_ok 0 (by decide)) rfl rfl (Nat.le_of_ble_eq_true rfl) dX14_init_18 ?_
  clear hP hD hS; try clear H
  intro H locs hP hD hS
  replace hP : va_P (dC, dI) vwCl ([(h0, .inr (14, [.ref q_1, .null, .int 0, .int 0, .ref am])), (q_1, .inl (k_2, 30, .inr (.inr (.inr (.inr (fun i => if i < 30 then some (q_1 + 1 + i) else none))))))] ++ va_pl ((List.range 30).map (fun i => q_1 + 1 + i)) (fun _ => .inl (k_3, 30, .inr (.inr (.inr (.inr (fun _ => none))))))) H := hP
  replace hD : va_D A ([(h0, .inr (14, [.ref q_1, .null, .int 0, .int 0, .ref am])), (q_1, .inl (k_2, 30, .inr (.inr (.inr (.inr (fun i => if i < 30 then some (q_1 + 1 + i) else none))))))] ++ va_pl ((List.range 30).map (fun i => q_1 + 1 + i)) (fun _ => .inl (k_3, 30, .inr (.inr (.inr (.inr (fun _ => none))))))) := hD
  refine lv_aload_n hx hb dX14_init_21 rfl (lv_at hl 0 rfl) ?_
  refine lv_bipush (v := 30) hx hb dX14_init_22 (by decide) ?_
  refine va_newa (atype := .int) (ty := .int) (N' := 30) (a0 := (30, .inl (fun _ => 0))) hx hb (hts (.arrayClass .int) (List.mem_of_getElem? (i := 6) rfl)) rfl hK hP hD hS hA (fun _ => rfl) (by decide) (by decide) (Nat.le_of_ble_eq_true rfl) (Nat.le_of_ble_eq_true rfl) (Nat.le_of_ble_eq_true rfl) dX14_init_24 ?_
  clear hP hD hS hK; try clear H
  intro q_4 k_5 H hK hP hD hS
  replace hP := va_P.swap hP; replace hD := va_D.swap hD
  replace hP : va_P (dC, dI) vwCl ([(h0, .inr (14, [.ref q_1, .null, .int 0, .int 0, .ref am])), (q_1, .inl (k_2, 30, .inr (.inr (.inr (.inr (fun i => if i < 30 then some (q_1 + 1 + i) else none)))))), (q_4, .inl (k_5, 30, .inl (fun _ => 0)))] ++ va_pl ((List.range 30).map (fun i => q_1 + 1 + i)) (fun _ => .inl (k_3, 30, .inr (.inr (.inr (.inr (fun _ => none))))))) H := hP
  replace hD : va_D A ([(h0, .inr (14, [.ref q_1, .null, .int 0, .int 0, .ref am])), (q_1, .inl (k_2, 30, .inr (.inr (.inr (.inr (fun i => if i < 30 then some (q_1 + 1 + i) else none)))))), (q_4, .inl (k_5, 30, .inl (fun _ => 0)))] ++ va_pl ((List.range 30).map (fun i => q_1 + 1 + i)) (fun _ => .inl (k_3, 30, .inr (.inr (.inr (.inr (fun _ => none))))))) := hD
  replace hK : va_K (dC, dI) vwCl [(k_2, .array (.object RX12)), (k_3, .object RX12), (k_5, .int)] s := hK
  refine va_putF (D := (dC, dI)) (ci := 14) (v := .ref q_4) (ty := .array .int) (C := RX14) (T := TX14) (N := 5) hx hb hts (in_X14_init_X14) tyX14 tyX14_ok nmX14 hown hK hP hD hS 0 rfl rfl 1 (by decide) (hts (.fieldLink RX14 20 "MotionSignsModel$Table" "rowOf" "[I") (List.mem_of_getElem? (i := 7) rfl)) (fun _ h9 => h9) rfl hin rfl (tyX14_ok 1 (by decide)) rfl rfl (Nat.le_of_ble_eq_true rfl) dX14_init_26 ?_
  clear hP hD hS; try clear H
  intro H locs hP hD hS
  replace hP : va_P (dC, dI) vwCl ([(h0, .inr (14, [.ref q_1, .ref q_4, .int 0, .int 0, .ref am])), (q_1, .inl (k_2, 30, .inr (.inr (.inr (.inr (fun i => if i < 30 then some (q_1 + 1 + i) else none)))))), (q_4, .inl (k_5, 30, .inl (fun _ => 0)))] ++ va_pl ((List.range 30).map (fun i => q_1 + 1 + i)) (fun _ => .inl (k_3, 30, .inr (.inr (.inr (.inr (fun _ => none))))))) H := hP
  replace hD : va_D A ([(h0, .inr (14, [.ref q_1, .ref q_4, .int 0, .int 0, .ref am])), (q_1, .inl (k_2, 30, .inr (.inr (.inr (.inr (fun i => if i < 30 then some (q_1 + 1 + i) else none)))))), (q_4, .inl (k_5, 30, .inl (fun _ => 0)))] ++ va_pl ((List.range 30).map (fun i => q_1 + 1 + i)) (fun _ => .inl (k_3, 30, .inr (.inr (.inr (.inr (fun _ => none))))))) := hD
  refine lv_iconst (v := 0) hx hb dX14_init_29 (by decide) ?_
  refine lv_istore_n (lv' := [(2, .int 0), (0, .ref h0), (1, .ref am)]) hx hb dX14_init_30 rfl hl (by decide) rfl (fun ls hl => ?_)
  replace hP := wm_subP (X' := [(h0, .inr (14, [.ref q_1, .ref q_4, .int 0, .int 0, .ref am])), (q_1, .inl (k_2, 30, .inr (.inr (.inr (.inr (fun i => if i < 30 then some (q_1 + 1 + i) else none))))))]) hP [0, 1] rfl
  replace hD := wm_subD (X' := [(h0, .inr (14, [.ref q_1, .ref q_4, .int 0, .int 0, .ref am])), (q_1, .inl (k_2, 30, .inr (.inr (.inr (.inr (fun i => if i < 30 then some (q_1 + 1 + i) else none))))))]) hD [0, 1] (by decide) rfl
  have key_9 : ∀ (n_8 i_6 : Nat) (x_7 : Int32) (fp_10 : Nat → va_E) (H : Heap) (locs : List Loc) (ls : Array Slot), 0 ≤ i_6 → i_6 ≤ 30 → 30 - i_6 < n_8 → x_7 = nI i_6 → va_P (dC, dI) vwCl ([(h0, .inr (14, [.ref q_1, .ref q_4, .int 0, .int 0, .ref am])), (q_1, .inl (k_2, 30, .inr (.inr (.inr (.inr (fun i => if i < 30 then some (q_1 + 1 + i) else none))))))] ++ va_pl ((List.range 30).map (fun i => q_1 + 1 + i)) fp_10) H → va_D A ([(h0, .inr (14, [.ref q_1, .ref q_4, .int 0, .int 0, .ref am])), (q_1, .inl (k_2, 30, .inr (.inr (.inr (.inr (fun i => if i < 30 then some (q_1 + 1 + i) else none))))))] ++ va_pl ((List.range 30).map (fun i => q_1 + 1 + i)) fp_10) → va_S A s.heap H locs → lv_has ls 4 [(2, .int x_7), (0, .ref h0), (1, .ref am)] → (∀ b ∈ ((List.range 30).map (fun i => q_1 + 1 + i)), ∃ g : Nat → Option Nat, fp_10 b = .inl (k_3, 30, .inr (.inr (.inr (.inr g))))) → W p l e ({ frames := 2, cells := 1832, slots := 246660, locals := 33 } : Room) s m ([.ref h0, .ref am] : List Value).toArray below meth c H locs (32 + 60 * i_6) (960 + 8190 * i_6) Q0 (F0 m 31 ls []) := by
    intro n_8
    induction n_8 with
    | zero =>
      intro i_6 x_7 fp_10 H locs ls h0 h1 h2
      exact absurd h2 (by omega)
    | succ n_8 ihkey_9 =>
      intro i_6 x_7 fp_10 H locs ls hbi_6 hii_6 hni_6 ex_7 hP hD hS hl hpf
      refine lv_iload_n hx hb dX14_init_31 rfl (lv_at hl 0 rfl) ?_
      refine lv_bipush (v := 30) hx hb dX14_init_32 (by decide) ?_
      refine lv_icmp_ge (tgt := 75) hx hb dX14_init_34 (by decide) (fun hi_6 => ?_) (fun hi_6 => ?_)
      · have hEi_6 : i_6 = 30 := by
          rcases Nat.lt_or_ge i_6 30 with q | q
          · exact absurd hi_6 (by rw [ex_7]; exact nI_ge (b := 30) q (by omega))
          · omega
        subst hEi_6
        refine W.widen (k := 1832) (n := 246660) (by omega) (by omega) ?_
        have hP9 := hP.sub (ws' := []) [] rfl
        have hD9 := hD.sub (ws' := []) [] (by decide) rfl
        have hK9 := hK.sub (tys' := []) [] rfl
        rw [← hAe] at hD9
        refine W.widen (k := 1832) (n := 246660) (Nat.le_of_ble_eq_true rfl) (Nat.le_of_ble_eq_true rfl) ?_
        subst hQ0
        subst hAe
        exact W.vret hx hb hr (fun t ht hW => ⟨⟨(), rfl, trivial, by rw [ht]; exact hP9, va_K.moved hW.alike hK9, hD9⟩, hS.F ht⟩) hS.2.2 dX14_init_75
      · have hlti_6 : i_6 < 30 := by
          rcases Nat.lt_or_ge i_6 30 with q | q
          · exact q
          · exact absurd (by rw [ex_7]; exact nI_le q (by omega)) hi_6
        refine lv_iconst (v := 0) hx hb dX14_init_37 (by decide) ?_
        refine lv_istore_n (lv' := [(3, .int 0), (2, .int x_7), (0, .ref h0), (1, .ref am)]) hx hb dX14_init_38 rfl hl (by decide) rfl (fun ls hl => ?_)
        replace hP := wm_subP (X' := [(h0, .inr (14, [.ref q_1, .ref q_4, .int 0, .int 0, .ref am])), (q_1, .inl (k_2, 30, .inr (.inr (.inr (.inr (fun i => if i < 30 then some (q_1 + 1 + i) else none))))))]) hP [0, 1] rfl
        replace hD := wm_subD (X' := [(h0, .inr (14, [.ref q_1, .ref q_4, .int 0, .int 0, .ref am])), (q_1, .inl (k_2, 30, .inr (.inr (.inr (.inr (fun i => if i < 30 then some (q_1 + 1 + i) else none))))))]) hD [0, 1] (by decide) rfl
        have key_14 : ∀ (n_13 i_11 : Nat) (x_12 : Int32) (fp_15 : Nat → va_E) (H : Heap) (locs : List Loc) (ls : Array Slot), 0 ≤ i_11 → i_11 ≤ 30 → 30 - i_11 < n_13 → x_12 = nI i_11 → va_P (dC, dI) vwCl ([(h0, .inr (14, [.ref q_1, .ref q_4, .int 0, .int 0, .ref am])), (q_1, .inl (k_2, 30, .inr (.inr (.inr (.inr (fun i => if i < 30 then some (q_1 + 1 + i) else none))))))] ++ va_pl ((List.range 30).map (fun i => q_1 + 1 + i)) fp_15) H → va_D A ([(h0, .inr (14, [.ref q_1, .ref q_4, .int 0, .int 0, .ref am])), (q_1, .inl (k_2, 30, .inr (.inr (.inr (.inr (fun i => if i < 30 then some (q_1 + 1 + i) else none))))))] ++ va_pl ((List.range 30).map (fun i => q_1 + 1 + i)) fp_15) → va_S A s.heap H locs → lv_has ls 4 [(3, .int x_12), (2, .int x_7), (0, .ref h0), (1, .ref am)] → (∀ b ∈ ((List.range 30).map (fun i => q_1 + 1 + i)), ∃ g : Nat → Option Nat, fp_15 b = .inl (k_3, 30, .inr (.inr (.inr (.inr g))))) → W p l e ({ frames := 2, cells := 1832, slots := 246660, locals := 33 } : Room) s m ([.ref h0, .ref am] : List Value).toArray below meth c H locs (32 + 60 * i_6 + 2 * i_11) (960 + 8190 * i_6 + 273 * i_11) Q0 (F0 m 39 ls []) := by
          intro n_13
          induction n_13 with
          | zero =>
            intro i_11 x_12 fp_15 H locs ls h0 h1 h2
            exact absurd h2 (by omega)
          | succ n_13 ihkey_14 =>
            intro i_11 x_12 fp_15 H locs ls hbi_11 hii_11 hni_11 ex_12 hP hD hS hl hpf
            refine lv_iload_n hx hb dX14_init_39 rfl (lv_at hl 0 rfl) ?_
            refine lv_bipush (v := 30) hx hb dX14_init_40 (by decide) ?_
            refine lv_icmp_ge (tgt := 69) hx hb dX14_init_42 (by decide) (fun hi_11 => ?_) (fun hi_11 => ?_)
            · have hEi_11 : i_11 = 30 := by
                rcases Nat.lt_or_ge i_11 30 with q | q
                · exact absurd hi_11 (by rw [ex_12]; exact nI_ge (b := 30) q (by omega))
                · omega
              subst hEi_11
              refine W.widen (k := 92 + 60 * i_6) (n := 9150 + 8190 * i_6) (by omega) (by omega) ?_
              obtain ⟨v_16, ev_16⟩ : ∃ y : Int32, y = x_7 + 1 := ⟨_, rfl⟩
              refine lv_iinc (v := v_16) (lv' := [(2, .int v_16), (3, .int x_12), (0, .ref h0), (1, .ref am)]) hx hb dX14_init_69 hl (k := 1) rfl (by rw [ev_16]; rfl) (by decide) rfl (fun ls hl => ?_)
              refine lv_goto (tgt := 31) hx hb dX14_init_72 (by decide) ?_
              replace hP := wm_subP (X' := [(h0, .inr (14, [.ref q_1, .ref q_4, .int 0, .int 0, .ref am])), (q_1, .inl (k_2, 30, .inr (.inr (.inr (.inr (fun i => if i < 30 then some (q_1 + 1 + i) else none))))))]) hP [0, 1] rfl
              replace hD := wm_subD (X' := [(h0, .inr (14, [.ref q_1, .ref q_4, .int 0, .int 0, .ref am])), (q_1, .inl (k_2, 30, .inr (.inr (.inr (.inr (fun i => if i < 30 then some (q_1 + 1 + i) else none))))))]) hD [0, 1] (by decide) rfl
              refine W.widen (k := 32 + 60 * (i_6 + 1)) (n := 960 + 8190 * (i_6 + 1)) (by omega) (by omega) ?_
              exact ihkey_9 (i_6 + 1) _ _ H locs ls (by omega) (by omega) (by omega) (by rw [ev_16, ex_7]; exact nI_1 i_6) (wm_subP hP [0, 1] rfl) (wm_subD hD [0, 1] (by decide) rfl) hS (lv_sub hl [0, 2, 3] rfl) hpf
            · have hlti_11 : i_11 < 30 := by
                rcases Nat.lt_or_ge i_11 30 with q | q
                · exact q
                · exact absurd (by rw [ex_12]; exact nI_le q (by omega)) hi_11
              refine lv_aload_n hx hb dX14_init_45 rfl (lv_at hl 2 rfl) ?_
              refine va_get (D := (dC, dI)) (ci := 14) (v := .ref q_1) (C := RX14) (T := TX14) (N := 5) hx hb hts (in_X14_init_X14) hown hK hP 0 rfl rfl 0 (by decide) (hts (.fieldLink RX14 17 "MotionSignsModel$Table" "row" "[[LMotionSignsModel$Big;") (List.mem_of_getElem? (i := 5) rfl)) (fun _ h9 => h9) rfl dX14_init_46 ?_
              refine lv_iload_n hx hb dX14_init_49 rfl (lv_at hl 1 rfl) ?_
              refine wm_ald (y := (q_1 + 1 + i_6)) hx hb hK hP 1 0 rfl rfl (by rw [ex_7]; exact vp_in_nI (by omega) (by omega)) (by rw [ex_7, nI_clamp (by omega)]; exact if_pos (by omega)) dX14_init_50 ?_
              refine lv_iload_n hx hb dX14_init_51 rfl (lv_at hl 0 rfl) ?_
              refine va_new (ci := 12) (fs := [.null, .int 0, .int 0]) (C := RX12) (T := TX12) (N := 3) hx hb hts (in_X14_init_X12) tyX12 tyX12_ok hown (hts (.classLink RX14 24 RX12) (List.mem_of_getElem? (i := 8) rfl)) (hts (.instantiable RX12 3) (List.mem_of_getElem? (i := 9) rfl)) (hts (.initialized RX12) (List.mem_of_getElem? (i := 10) rfl)) hK hP hD hS hA rfl (fun j hj => by rcases (show j = 0 ∨ j = 1 ∨ j = 2 by omega) with rfl | rfl | rfl <;> rfl) (by show _ ≤ (1832 : Nat); omega) (by show _ ≤ (246660 : Nat); omega) dX14_init_52 ?_
              clear hP hD hS; try clear H
              intro q_17 H hP hD hS
              replace hP := va_P.swap hP; replace hD := va_D.swap hD
              replace hP : va_P (dC, dI) vwCl ([(h0, .inr (14, [.ref q_1, .ref q_4, .int 0, .int 0, .ref am])), (q_1, .inl (k_2, 30, .inr (.inr (.inr (.inr (fun i => if i < 30 then some (q_1 + 1 + i) else none)))))), (q_17, .inr (12, [.null, .int 0, .int 0]))] ++ va_pl ((List.range 30).map (fun i => q_1 + 1 + i)) fp_15) H := hP
              replace hD : va_D A ([(h0, .inr (14, [.ref q_1, .ref q_4, .int 0, .int 0, .ref am])), (q_1, .inl (k_2, 30, .inr (.inr (.inr (.inr (fun i => if i < 30 then some (q_1 + 1 + i) else none)))))), (q_17, .inr (12, [.null, .int 0, .int 0]))] ++ va_pl ((List.range 30).map (fun i => q_1 + 1 + i)) fp_15) := hD
              refine lv_dup hx hb dX14_init_55 rfl ?_
              refine lv_sipush (v := 270) hx hb dX14_init_56 (by decide) ?_
              have hPc := hP.sub (ws' := [(q_17, .inr (12, [.null, .int 0, .int 0]))]) [2] rfl
              have hDc := hD.sub (ws' := [(q_17, .inr (12, [.null, .int 0, .int 0]))]) [2] (by decide) rfl
              have hKc := hK.sub (tys' := []) [] rfl
              have hFc := va_free (wc := [(q_17, .inr (12, [.null, .int 0, .int 0]))]) hD hS hA [2] rfl
              refine va_callv (va_runIN (As := [.int 270]) (rest := [.ref q_17, .int x_12, .ref (q_1 + 1 + i_6)]) ⟨hx, hb, hml, hown, hts⟩ (c_X12_init l dC dI q_17 H.size) ⟨va_cnB 1 hts gT14_X12 rfl rfl rfl (hN.1 (RX14, 26, yX12_init, RX15) (List.mem_of_getElem? (i := 27) rfl)) (hts (.initialized RX12) (List.mem_of_getElem? (i := 10) rfl)) hd_X12_init ⟨Nat.le_of_ble_eq_true rfl, Nat.le_of_ble_eq_true rfl⟩, rfl, (hts (.instanceMethod yX12_init) (List.mem_of_getElem? (i := 11) rfl))⟩ ⟨fun a U g mk q => by obtain ⟨q0, q1, qP, qK, qD, qE0⟩ := q; exact ⟨q0, q1, qP, va_K.moved (u := U) (U := U.calling g mk a) (Vm.Alike.refl U.vm) qK, qD, w_N.same rfl qE0⟩, fun U hU hW => ⟨rfl, by rw [hU], by rw [hU]; exact hPc, va_K.moved hW.alike hKc, hDc.weaken (fun _ _ _ _ => trivial), w_N.warm hW hN⟩⟩ rfl rfl hl.1 rfl (lv_room (Nat.le_of_ble_eq_true rfl)) dX14_init_59 ⟨(by show _ ≤ (1832 : Nat); omega), (by show _ ≤ (246660 : Nat); omega)⟩) hS (fun q _ h => hFc q h) hFc (fun u t H1 locs1 ht hvm hw hB hz1 hk1 hS1 => ?_)
              obtain ⟨f_18, hP1, hK1, hD1⟩ := hB
              rw [ht] at hP1
              have hK1 := va_K.moved hvm.symm hK1
              have hJ := va_joinQ (wr := [(h0, .inr (14, [.ref q_1, .ref q_4, .int 0, .int 0, .ref am])), (q_1, .inl (k_2, 30, .inr (.inr (.inr (.inr (fun i => if i < 30 then some (q_1 + 1 + i) else none))))))]) (w1 := [(q_17, .inr (12, f_18))]) hP hD [2] [0, 1] rfl rfl (by decide) (by decide) hk1 hFc hP1 hD1
              clear hP hD hPc hDc hKc hFc hz1 hw; try clear hk1
              obtain ⟨hP, hD⟩ := hJ
              replace hK := (hK.sub (tys' := [(k_2, .array (.object RX12)), (k_3, .object RX12), (k_5, .int)]) [0, 1, 2] rfl).app (hK1.sub (tys' := []) [] rfl)
              clear hP1 hK1 hD1 hvm ht hS; try clear t
              try clear H
              revert hS1
              intro hS
              generalize H1 = H at hP hS ⊢; try clear H1
              replace hP : va_P (dC, dI) vwCl ([(h0, .inr (14, [.ref q_1, .ref q_4, .int 0, .int 0, .ref am])), (q_1, .inl (k_2, 30, .inr (.inr (.inr (.inr (fun i => if i < 30 then some (q_1 + 1 + i) else none)))))), (q_17, .inr (12, f_18))] ++ va_pl ((List.range 30).map (fun i => q_1 + 1 + i)) fp_15) H := hP
              replace hD : va_D A ([(h0, .inr (14, [.ref q_1, .ref q_4, .int 0, .int 0, .ref am])), (q_1, .inl (k_2, 30, .inr (.inr (.inr (.inr (fun i => if i < 30 then some (q_1 + 1 + i) else none)))))), (q_17, .inr (12, f_18))] ++ va_pl ((List.range 30).map (fun i => q_1 + 1 + i)) fp_15) := hD
              replace hK : va_K (dC, dI) vwCl [(k_2, .array (.object RX12)), (k_3, .object RX12), (k_5, .int)] s := hK
              refine wm_ast hx hb hK hP hD hS 1 2 12 (List.mem_map.mpr ⟨i_6, List.mem_range.mpr (by omega), rfl⟩) hpf rfl rfl rfl (by rw [ex_12]; exact vp_in_nI (by omega) (by omega)) dX14_init_62 ?_
              clear hpf hP hD hS; try clear H
              intro fp_19 H locs hpf hP hD hS
              replace hP : va_P (dC, dI) vwCl ([(h0, .inr (14, [.ref q_1, .ref q_4, .int 0, .int 0, .ref am])), (q_1, .inl (k_2, 30, .inr (.inr (.inr (.inr (fun i => if i < 30 then some (q_1 + 1 + i) else none)))))), (q_17, .inr (12, f_18))] ++ va_pl ((List.range 30).map (fun i => q_1 + 1 + i)) fp_19) H := hP
              replace hD : va_D A ([(h0, .inr (14, [.ref q_1, .ref q_4, .int 0, .int 0, .ref am])), (q_1, .inl (k_2, 30, .inr (.inr (.inr (.inr (fun i => if i < 30 then some (q_1 + 1 + i) else none)))))), (q_17, .inr (12, f_18))] ++ va_pl ((List.range 30).map (fun i => q_1 + 1 + i)) fp_19) := hD
              obtain ⟨v_20, ev_20⟩ : ∃ y : Int32, y = x_12 + 1 := ⟨_, rfl⟩
              refine lv_iinc (v := v_20) (lv' := [(3, .int v_20), (2, .int x_7), (0, .ref h0), (1, .ref am)]) hx hb dX14_init_63 hl (k := 0) rfl (by rw [ev_20]; rfl) (by decide) rfl (fun ls hl => ?_)
              refine lv_goto (tgt := 39) hx hb dX14_init_66 (by decide) ?_
              replace hP := wm_subP (X' := [(h0, .inr (14, [.ref q_1, .ref q_4, .int 0, .int 0, .ref am])), (q_1, .inl (k_2, 30, .inr (.inr (.inr (.inr (fun i => if i < 30 then some (q_1 + 1 + i) else none))))))]) hP [0, 1] rfl
              replace hD := wm_subD (X' := [(h0, .inr (14, [.ref q_1, .ref q_4, .int 0, .int 0, .ref am])), (q_1, .inl (k_2, 30, .inr (.inr (.inr (.inr (fun i => if i < 30 then some (q_1 + 1 + i) else none))))))]) hD [0, 1] (by decide) rfl
              refine W.widen (k := 32 + 60 * i_6 + 2 * (i_11 + 1)) (n := 960 + 8190 * i_6 + 273 * (i_11 + 1)) (by omega) (by omega) ?_
              exact ihkey_14 (i_11 + 1) _ _ H locs ls (by omega) (by omega) (by omega) (by rw [ev_20, ex_12]; exact nI_1 i_11) (wm_subP hP [0, 1] rfl) (wm_subD hD [0, 1] (by decide) rfl) hS (lv_sub hl [0, 1, 2, 3] rfl) hpf
        refine W.widen (k := 32 + 60 * i_6 + 2 * 0) (n := 960 + 8190 * i_6 + 273 * 0) (by omega) (by omega) ?_
        exact key_14 (30 + 1) 0 _ _ H locs ls (by omega) (by omega) (by omega) (by first | rfl | exact nI_0.symm | decide) hP hD hS hl hpf
  refine W.widen (k := 32 + 60 * 0) (n := 960 + 8190 * 0) (by omega) (by omega) ?_
  exact key_9 (30 + 1) 0 _ _ H locs ls (by omega) (by omega) (by omega) (by first | rfl | exact nI_0.symm | decide) hP hD hS hl (fun b _ => ⟨_, rfl⟩)
