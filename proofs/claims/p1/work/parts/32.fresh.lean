def wv_f_needEquation : List Cond := .code yX11_needEquation cX11_needEquation 1 none :: ([.fieldLink RX11 50 "MotionSigns" "change" "LMotionSigns$Change;", .classLink RX11 320 "java/lang/IllegalStateException", .initialized "java/lang/IllegalStateException"] ++ (wsX110 ++ (wsX20 ++ (wt_ISE ++ ([])))))
theorem gw_f_needEquation : wv_f_needEquation.all goodWord = true := by decide +kernel
theorem in_f_needEquation_X11 : ∀ w ∈ wsX110, w ∈ wv_f_needEquation := fun _ h => List.mem_cons_of_mem _ (List.mem_append_right _ (List.mem_append_left _ h))
theorem in_f_needEquation_X2 : ∀ w ∈ wsX20, w ∈ wv_f_needEquation := fun _ h => List.mem_cons_of_mem _ (List.mem_append_right _ (List.mem_append_right _ (List.mem_append_left _ h)))
set_option maxHeartbeats 4000000 in
set_option maxRecDepth 100000 in
/-- needEquation on a fresh object: it throws -/
theorem c_f_needEquation (l : Launch) (hlt : l.stackTraces = false) (dC : Nat → ClassId) (dI : Nat → Nat → Nat) (h0 : Nat) (qC : Nat) (fs_h0 : List Value) (fs_qC : List Value) (hF_h0 : mF 19 [(7, .ref qC)] fs_h0) (hF_qC : mF 13 [(8, .int 0)] fs_qC) (sz : Nat) : vx_Met l yX11_needEquation wv_f_needEquation ({ frames := 6, cells := 1, slots := 6, locals := 90 }) (va_Pc [.ref h0] (fun U => U.heap.size = sz ∧ va_P (dC, dI) vwCl [(h0, .inr (11, fs_h0)), (qC, .inr (2, fs_qC))] U.heap ∧ va_K (dC, dI) vwCl [] U ∧ va_D (fun _ => True) [(h0, .inr (11, fs_h0)), (qC, .inr (2, fs_qC))] ∧ w_N U ∧ w_T (va_A [(h0, .inr (11, fs_h0)), (qC, .inr (2, fs_qC))] sz) U U.heap)) (va_Qv (fun (_ : Unit) => False) (fun _ t => va_P (dC, dI) vwCl [] t.heap ∧ va_K (dC, dI) vwCl [] t ∧ va_D (va_A [(h0, .inr (11, fs_h0)), (qC, .inr (2, fs_qC))] sz) []) (va_A [(h0, .inr (11, fs_h0)), (qC, .inr (2, fs_qC))] sz)) (vx_X (fun _ : Unit => True) (fun E _ _ => E = "java/lang/IllegalStateException") (va_A [(h0, .inr (11, fs_h0)), (qC, .inr (2, fs_qC))] sz)) 1 6 (va_A [(h0, .inr (11, fs_h0)), (qC, .inr (2, fs_qC))] sz) := by
  refine vx_ofW (cc := cX11_needEquation) (maxL := 1) (ret := none) (by decide) rfl ?_
  intro p e s m args below meth c s₁ B hml hnt hv
  obtain ⟨rfl, hsz, hP, hK, hD0, hN, hT⟩ := hv
  have hx := B.exec
  have hb := B.bytes
  have hr := B.returns
  have hts := atoms_spec (ws := wv_f_needEquation) B.pre
  have hown : s.vm.findClass RX11 = some m.cls := findClass_of_methodNamed B.named
  have hlocks := B.notSynchronized
  subst hsz
  have hD := hD0.self (sz := s.heap.size)
  generalize hAe : va_A [(h0, .inr (11, fs_h0)), (qC, .inr (2, fs_qC))] s.heap.size = A at hD hT ⊢
  have hA : ∀ q : Nat, s.heap.size ≤ q → A q := fun q h => by rw [← hAe]; exact Or.inr h
  obtain ⟨H, hHe, hP, hS⟩ : ∃ H : Heap, H = s.heap ∧ va_P (dC, dI) vwCl [(h0, .inr (11, fs_h0)), (qC, .inr (2, fs_qC))] H ∧ va_S A s.heap H [] := ⟨s.heap, rfl, hP, va_S.rf⟩
  have hl := lv_entry ([.ref h0]) (n := 1) (Nat.le_of_ble_eq_true rfl)
  rw [lg_entry_eq]
  generalize (lg_sl ([.ref h0]) ++ List.replicate (1 - (lg_sl ([.ref h0])).length) Slot.unset).toArray = ls at hl ⊢
  have hl : lv_has ls 1 [(0, .ref h0)] := hl
  rw [← hHe]; clear hHe
  refine lv_aload_n hx hb dX11_needEquation_0 rfl (lv_at hl 0 rfl) ?_
  refine va_get (D := (dC, dI)) (ci := 11) (v := .ref qC) (C := RX11) (T := TX11) (N := 19) hx hb hts (in_f_needEquation_X11) hown hK hP 0 rfl rfl 7 (by decide) (hts (.fieldLink RX11 50 "MotionSigns" "change" "LMotionSigns$Change;") (List.mem_of_getElem? (i := 1) rfl)) (fun _ h9 => h9) (mF.get hF_h0 0 rfl) dX11_needEquation_1 ?_
  refine va_getN (D := (dC, dI)) (ci := 2) (v := .int 0) (C := RX2) (T := TX2) (N := 13) hx hb hts (in_f_needEquation_X2) hown hK hP 1 rfl rfl 8 (by decide) (va_Nw.use rfl (hN.2.1 (RX11, 162, RX2, "sort", "I", RX11) (List.mem_of_getElem? (i := 28) rfl))) (fun _ h9 => h9) (mF.get hF_qC 0 rfl) dX11_needEquation_4 ?_
  refine lv_if_ne (tgt := 21) hx hb dX11_needEquation_7 (by decide) (fun hc => absurd (by decide) hc) (fun _ => ?_)
  obtain ⟨sa9, hsa9⟩ := hT.2.2.1 (322, "no equation") (List.mem_of_getElem? (i := 0) rfl)
  exact vx_throwSW hx hb hlt (own := RX11) (cls := "java/lang/IllegalStateException") (text := "no equation") (names := exn) (ik := 320) (is := 322) (ic := 324) (sa := sa9) hown (by decide +kernel) exn_fit (hts (.classLink RX11 320 "java/lang/IllegalStateException") (List.mem_of_getElem? (i := 2) rfl)) (hts (.initialized "java/lang/IllegalStateException") (List.mem_of_getElem? (i := 3) rfl)) hsa9 (vx_hat (fun w h => hts w (List.mem_cons_of_mem _ (List.mem_append_right _ (List.mem_append_right _ (List.mem_append_right _ (List.mem_append_left _ h)))))) tb_ISE (tc_ISE hT)) tg_ISE hT.1 hT.2.1 hS (by rw [hml]; exact hl.1) dX11_needEquation_10 dX11_needEquation_13 dX11_needEquation_14 dX11_needEquation_17 dX11_needEquation_20 (fun x hx9 => (hnt x hx9).elim) (Nat.le_of_ble_eq_true rfl) (Nat.le_of_ble_eq_true rfl) (Nat.le_of_ble_eq_true rfl) (Nat.le_of_ble_eq_true rfl) hlocks (fun t9 hW9 hz9 hk9 => ⟨(), trivial, rfl, Nat.le_trans hS.1 hz9, fun q9 hq9 hA9 => (hk9 q9 (Nat.lt_of_lt_of_le hq9 hS.1)).trans (hS.2.1 q9 hq9 hA9)⟩) hS.2.2 (Nat.le_of_ble_eq_true rfl) (Nat.le_of_ble_eq_true rfl)
def wv_f_baseOf : List Cond := .code yX11_baseOf cX11_baseOf 4 (some (.object "MotionSigns$Fields")) :: ([.methodLink RX11 159 yX11_needEquation, .instanceMethod yX11_needEquation, .selects RX11 yX11_needEquation yX11_needEquation, .initialized RX11] ++ (wv_f_needEquation ++ ([])))
theorem gw_f_baseOf : wv_f_baseOf.all goodWord = true := by decide +kernel
theorem g_f_baseOf_f_needEquation_159 : GoodIn wv_f_baseOf (wsV RX11 159 RX11 yX11_needEquation wv_f_needEquation) := goodIn_app (goodIn_of _ (by decide +kernel)) (goodIn_sub (fun _ h => List.mem_cons_of_mem _ (List.mem_append_right _ (List.mem_append_left _ h))) gw_f_needEquation)
set_option maxHeartbeats 4000000 in
set_option maxRecDepth 100000 in
/-- baseOf on a fresh object: it throws -/
theorem c_f_baseOf (l : Launch) (hlt : l.stackTraces = false) (dC : Nat → ClassId) (dI : Nat → Nat → Nat) (h0 : Nat) (qC : Nat) (x0 : Int32) (fs_h0 : List Value) (fs_qC : List Value) (hF_h0 : mF 19 [(7, .ref qC)] fs_h0) (hF_qC : mF 13 [(8, .int 0)] fs_qC) (sz : Nat) : vx_Met l yX11_baseOf wv_f_baseOf ({ frames := 7, cells := 1, slots := 6, locals := 110 }) (va_Pc [.ref h0, .int x0] (fun U => U.heap.size = sz ∧ va_P (dC, dI) vwCl [(h0, .inr (11, fs_h0)), (qC, .inr (2, fs_qC))] U.heap ∧ va_K (dC, dI) vwCl [] U ∧ va_D (fun _ => True) [(h0, .inr (11, fs_h0)), (qC, .inr (2, fs_qC))] ∧ w_N U ∧ w_T (va_A [(h0, .inr (11, fs_h0)), (qC, .inr (2, fs_qC))] sz) U U.heap)) (va_Qr (fun (_ : Unit) => False) (fun _ r t => va_P (dC, dI) vwCl [] t.heap ∧ va_K (dC, dI) vwCl [] t ∧ va_D (va_A [(h0, .inr (11, fs_h0)), (qC, .inr (2, fs_qC))] sz) []) (va_A [(h0, .inr (11, fs_h0)), (qC, .inr (2, fs_qC))] sz)) (vx_X (fun _ : Unit => True) (fun E _ _ => E = "java/lang/IllegalStateException") (va_A [(h0, .inr (11, fs_h0)), (qC, .inr (2, fs_qC))] sz)) 1 6 (va_A [(h0, .inr (11, fs_h0)), (qC, .inr (2, fs_qC))] sz) := by
  refine vx_ofW (cc := cX11_baseOf) (maxL := 4) (ret := (some (.object "MotionSigns$Fields"))) (by decide) rfl ?_
  intro p e s m args below meth c s₁ B hml hnt hv
  obtain ⟨rfl, hsz, hP, hK, hD0, hN, hT⟩ := hv
  have hx := B.exec
  have hb := B.bytes
  have hr := B.returns
  have hts := atoms_spec (ws := wv_f_baseOf) B.pre
  have hown : s.vm.findClass RX11 = some m.cls := findClass_of_methodNamed B.named
  have hlocks := B.notSynchronized
  subst hsz
  have hD := hD0.self (sz := s.heap.size)
  generalize hAe : va_A [(h0, .inr (11, fs_h0)), (qC, .inr (2, fs_qC))] s.heap.size = A at hD hT ⊢
  have hA : ∀ q : Nat, s.heap.size ≤ q → A q := fun q h => by rw [← hAe]; exact Or.inr h
  obtain ⟨H, hHe, hP, hS⟩ : ∃ H : Heap, H = s.heap ∧ va_P (dC, dI) vwCl [(h0, .inr (11, fs_h0)), (qC, .inr (2, fs_qC))] H ∧ va_S A s.heap H [] := ⟨s.heap, rfl, hP, va_S.rf⟩
  have hl := lv_entry ([.ref h0, .int x0]) (n := 4) (Nat.le_of_ble_eq_true rfl)
  rw [lg_entry_eq]
  generalize (lg_sl ([.ref h0, .int x0]) ++ List.replicate (4 - (lg_sl ([.ref h0, .int x0])).length) Slot.unset).toArray = ls at hl ⊢
  have hl : lv_has ls 4 [(0, .ref h0), (1, .int x0)] := hl
  rw [← hHe]; clear hHe
  refine lv_aload_n hx hb dX11_baseOf_0 rfl (lv_at hl 0 rfl) ?_
  have hPc := hP.sub (ws' := [(h0, .inr (11, fs_h0)), (qC, .inr (2, fs_qC))]) [0, 1] rfl
  have hDc := hD.sub (ws' := [(h0, .inr (11, fs_h0)), (qC, .inr (2, fs_qC))]) [0, 1] (by decide) rfl
  have hKc := hK.sub (tys' := []) [] rfl
  have hFc := va_free (wc := [(h0, .inr (11, fs_h0)), (qC, .inr (2, fs_qC))]) hD hS hA [0, 1] rfl
  refine vx_callv (vx_runV (As := []) (rest := []) ⟨hx, hb, hml, hown, hts⟩ (c_f_needEquation l hlt dC dI h0 qC fs_h0 fs_qC (mF.sub hF_h0 [0] rfl) (mF.sub hF_qC [0] rfl) H.size) (cwV 0 hts g_f_baseOf_f_needEquation_159 rfl rfl rfl hv_X11_needEquation ⟨Nat.le_of_ble_eq_true rfl, Nat.le_of_ble_eq_true rfl⟩) ⟨fun a U g mk q => by obtain ⟨q0, q1, qP, qK, qD, qE0, qE1⟩ := q; exact ⟨q0, q1, qP, va_K.moved (u := U) (U := U.calling g mk a) (Vm.Alike.refl U.vm) qK, qD, w_N.same rfl qE0, w_T.same rfl rfl qE1⟩, va_recv hKc hPc (ci := 11) (q0 := 0) rfl rfl, fun U hU hW => ⟨rfl, by rw [hU], by rw [hU]; exact hPc, va_K.moved hW.alike hKc, hDc.weaken (fun _ _ _ _ => trivial), w_N.warm hW hN, w_T.go hT hW hS.2.1 hFc hU⟩⟩ rfl rfl hl.1 rfl (lv_room (Nat.le_of_ble_eq_true rfl)) dX11_baseOf_1 ⟨(Nat.le_of_ble_eq_true rfl), (Nat.le_of_ble_eq_true rfl)⟩) hS (fun q _ h => hFc q h) hFc (fun q _ h => hFc q h) (fun E9 ce9 q9 u t H1 locs1 ht hvm hpx hBX hz1 hk1 hS1 hcell9 hv9 hcl9 => ?_) (fun u t H1 locs1 ht hvm hw hB hz1 hk1 hS1 => ?_)
  · skip
    obtain rfl : E9 = "java/lang/IllegalStateException" := hBX
    exact vx_out (fun x hx9 => (hnt x hx9).elim) hlocks hcell9 hv9 hcl9 (fun t9 ht9 _ => ⟨(), trivial, rfl, hS1.F ht9⟩) hS1.2.2 (Nat.le_of_ble_eq_true rfl) (Nat.le_of_ble_eq_true rfl)
  · skip
    exact (hw : False).elim
def wv_f_needDensities : List Cond := .code yX11_needDensities cX11_needDensities 2 none :: ([.methodLink RX11 159 yX11_needEquation, .instanceMethod yX11_needEquation, .selects RX11 yX11_needEquation yX11_needEquation, .initialized RX11] ++ (wv_f_needEquation ++ ([])))
theorem gw_f_needDensities : wv_f_needDensities.all goodWord = true := by decide +kernel
theorem g_f_needDensities_f_needEquation_159 : GoodIn wv_f_needDensities (wsV RX11 159 RX11 yX11_needEquation wv_f_needEquation) := goodIn_app (goodIn_of _ (by decide +kernel)) (goodIn_sub (fun _ h => List.mem_cons_of_mem _ (List.mem_append_right _ (List.mem_append_left _ h))) gw_f_needEquation)
set_option maxHeartbeats 4000000 in
set_option maxRecDepth 100000 in
/-- needDensities on a fresh object: it throws -/
theorem c_f_needDensities (l : Launch) (hlt : l.stackTraces = false) (dC : Nat → ClassId) (dI : Nat → Nat → Nat) (h0 : Nat) (qC : Nat) (x0 : Int32) (fs_h0 : List Value) (fs_qC : List Value) (hF_h0 : mF 19 [(7, .ref qC)] fs_h0) (hF_qC : mF 13 [(8, .int 0)] fs_qC) (sz : Nat) : vx_Met l yX11_needDensities wv_f_needDensities ({ frames := 7, cells := 1, slots := 6, locals := 110 }) (va_Pc [.ref h0, .int x0] (fun U => U.heap.size = sz ∧ va_P (dC, dI) vwCl [(h0, .inr (11, fs_h0)), (qC, .inr (2, fs_qC))] U.heap ∧ va_K (dC, dI) vwCl [] U ∧ va_D (fun _ => True) [(h0, .inr (11, fs_h0)), (qC, .inr (2, fs_qC))] ∧ w_N U ∧ w_T (va_A [(h0, .inr (11, fs_h0)), (qC, .inr (2, fs_qC))] sz) U U.heap)) (va_Qv (fun (_ : Unit) => False) (fun _ t => va_P (dC, dI) vwCl [] t.heap ∧ va_K (dC, dI) vwCl [] t ∧ va_D (va_A [(h0, .inr (11, fs_h0)), (qC, .inr (2, fs_qC))] sz) []) (va_A [(h0, .inr (11, fs_h0)), (qC, .inr (2, fs_qC))] sz)) (vx_X (fun _ : Unit => True) (fun E _ _ => E = "java/lang/IllegalStateException") (va_A [(h0, .inr (11, fs_h0)), (qC, .inr (2, fs_qC))] sz)) 1 6 (va_A [(h0, .inr (11, fs_h0)), (qC, .inr (2, fs_qC))] sz) := by
  refine vx_ofW (cc := cX11_needDensities) (maxL := 2) (ret := none) (by decide) rfl ?_
  intro p e s m args below meth c s₁ B hml hnt hv
  obtain ⟨rfl, hsz, hP, hK, hD0, hN, hT⟩ := hv
  have hx := B.exec
  have hb := B.bytes
  have hr := B.returns
  have hts := atoms_spec (ws := wv_f_needDensities) B.pre
  have hown : s.vm.findClass RX11 = some m.cls := findClass_of_methodNamed B.named
  have hlocks := B.notSynchronized
  subst hsz
  have hD := hD0.self (sz := s.heap.size)
  generalize hAe : va_A [(h0, .inr (11, fs_h0)), (qC, .inr (2, fs_qC))] s.heap.size = A at hD hT ⊢
  have hA : ∀ q : Nat, s.heap.size ≤ q → A q := fun q h => by rw [← hAe]; exact Or.inr h
  obtain ⟨H, hHe, hP, hS⟩ : ∃ H : Heap, H = s.heap ∧ va_P (dC, dI) vwCl [(h0, .inr (11, fs_h0)), (qC, .inr (2, fs_qC))] H ∧ va_S A s.heap H [] := ⟨s.heap, rfl, hP, va_S.rf⟩
  have hl := lv_entry ([.ref h0, .int x0]) (n := 2) (Nat.le_of_ble_eq_true rfl)
  rw [lg_entry_eq]
  generalize (lg_sl ([.ref h0, .int x0]) ++ List.replicate (2 - (lg_sl ([.ref h0, .int x0])).length) Slot.unset).toArray = ls at hl ⊢
  have hl : lv_has ls 2 [(0, .ref h0), (1, .int x0)] := hl
  rw [← hHe]; clear hHe
  refine lv_aload_n hx hb dX11_needDensities_0 rfl (lv_at hl 0 rfl) ?_
  have hPc := hP.sub (ws' := [(h0, .inr (11, fs_h0)), (qC, .inr (2, fs_qC))]) [0, 1] rfl
  have hDc := hD.sub (ws' := [(h0, .inr (11, fs_h0)), (qC, .inr (2, fs_qC))]) [0, 1] (by decide) rfl
  have hKc := hK.sub (tys' := []) [] rfl
  have hFc := va_free (wc := [(h0, .inr (11, fs_h0)), (qC, .inr (2, fs_qC))]) hD hS hA [0, 1] rfl
  refine vx_callv (vx_runV (As := []) (rest := []) ⟨hx, hb, hml, hown, hts⟩ (c_f_needEquation l hlt dC dI h0 qC fs_h0 fs_qC (mF.sub hF_h0 [0] rfl) (mF.sub hF_qC [0] rfl) H.size) (cwV 0 hts g_f_needDensities_f_needEquation_159 rfl rfl rfl hv_X11_needEquation ⟨Nat.le_of_ble_eq_true rfl, Nat.le_of_ble_eq_true rfl⟩) ⟨fun a U g mk q => by obtain ⟨q0, q1, qP, qK, qD, qE0, qE1⟩ := q; exact ⟨q0, q1, qP, va_K.moved (u := U) (U := U.calling g mk a) (Vm.Alike.refl U.vm) qK, qD, w_N.same rfl qE0, w_T.same rfl rfl qE1⟩, va_recv hKc hPc (ci := 11) (q0 := 0) rfl rfl, fun U hU hW => ⟨rfl, by rw [hU], by rw [hU]; exact hPc, va_K.moved hW.alike hKc, hDc.weaken (fun _ _ _ _ => trivial), w_N.warm hW hN, w_T.go hT hW hS.2.1 hFc hU⟩⟩ rfl rfl hl.1 rfl (lv_room (Nat.le_of_ble_eq_true rfl)) dX11_needDensities_1 ⟨(Nat.le_of_ble_eq_true rfl), (Nat.le_of_ble_eq_true rfl)⟩) hS (fun q _ h => hFc q h) hFc (fun q _ h => hFc q h) (fun E9 ce9 q9 u t H1 locs1 ht hvm hpx hBX hz1 hk1 hS1 hcell9 hv9 hcl9 => ?_) (fun u t H1 locs1 ht hvm hw hB hz1 hk1 hS1 => ?_)
  · skip
    obtain rfl : E9 = "java/lang/IllegalStateException" := hBX
    exact vx_out (fun x hx9 => (hnt x hx9).elim) hlocks hcell9 hv9 hcl9 (fun t9 ht9 _ => ⟨(), trivial, rfl, hS1.F ht9⟩) hS1.2.2 (Nat.le_of_ble_eq_true rfl) (Nat.le_of_ble_eq_true rfl)
  · skip
    exact (hw : False).elim
def wv_f_field : List Cond := .code yX11_field cX11_field 2 (some .int) :: ([.methodLink RX11 159 yX11_needEquation, .instanceMethod yX11_needEquation, .selects RX11 yX11_needEquation yX11_needEquation, .initialized RX11] ++ (wv_f_needEquation ++ ([])))
theorem gw_f_field : wv_f_field.all goodWord = true := by decide +kernel
theorem g_f_field_f_needEquation_159 : GoodIn wv_f_field (wsV RX11 159 RX11 yX11_needEquation wv_f_needEquation) := goodIn_app (goodIn_of _ (by decide +kernel)) (goodIn_sub (fun _ h => List.mem_cons_of_mem _ (List.mem_append_right _ (List.mem_append_left _ h))) gw_f_needEquation)
set_option maxHeartbeats 4000000 in
set_option maxRecDepth 100000 in
/-- field on a fresh object: it throws -/
theorem c_f_field (l : Launch) (hlt : l.stackTraces = false) (dC : Nat → ClassId) (dI : Nat → Nat → Nat) (h0 : Nat) (qC : Nat) (x0 : Int32) (fs_h0 : List Value) (fs_qC : List Value) (hF_h0 : mF 19 [(7, .ref qC)] fs_h0) (hF_qC : mF 13 [(8, .int 0)] fs_qC) (sz : Nat) : vx_Met l yX11_field wv_f_field ({ frames := 7, cells := 1, slots := 6, locals := 110 }) (va_Pc [.ref h0, .int x0] (fun U => U.heap.size = sz ∧ va_P (dC, dI) vwCl [(h0, .inr (11, fs_h0)), (qC, .inr (2, fs_qC))] U.heap ∧ va_K (dC, dI) vwCl [] U ∧ va_D (fun _ => True) [(h0, .inr (11, fs_h0)), (qC, .inr (2, fs_qC))] ∧ w_N U ∧ w_T (va_A [(h0, .inr (11, fs_h0)), (qC, .inr (2, fs_qC))] sz) U U.heap)) (va_Qi (fun (r : Int32) (_ : Unit) => False) (fun _ t => va_P (dC, dI) vwCl [] t.heap ∧ va_K (dC, dI) vwCl [] t ∧ va_D (va_A [(h0, .inr (11, fs_h0)), (qC, .inr (2, fs_qC))] sz) []) (va_A [(h0, .inr (11, fs_h0)), (qC, .inr (2, fs_qC))] sz)) (vx_X (fun _ : Unit => True) (fun E _ _ => E = "java/lang/IllegalStateException") (va_A [(h0, .inr (11, fs_h0)), (qC, .inr (2, fs_qC))] sz)) 1 6 (va_A [(h0, .inr (11, fs_h0)), (qC, .inr (2, fs_qC))] sz) := by
  refine vx_ofW (cc := cX11_field) (maxL := 2) (ret := (some .int)) (by decide) rfl ?_
  intro p e s m args below meth c s₁ B hml hnt hv
  obtain ⟨rfl, hsz, hP, hK, hD0, hN, hT⟩ := hv
  have hx := B.exec
  have hb := B.bytes
  have hr := B.returns
  have hts := atoms_spec (ws := wv_f_field) B.pre
  have hown : s.vm.findClass RX11 = some m.cls := findClass_of_methodNamed B.named
  have hlocks := B.notSynchronized
  subst hsz
  have hD := hD0.self (sz := s.heap.size)
  generalize hAe : va_A [(h0, .inr (11, fs_h0)), (qC, .inr (2, fs_qC))] s.heap.size = A at hD hT ⊢
  have hA : ∀ q : Nat, s.heap.size ≤ q → A q := fun q h => by rw [← hAe]; exact Or.inr h
  obtain ⟨H, hHe, hP, hS⟩ : ∃ H : Heap, H = s.heap ∧ va_P (dC, dI) vwCl [(h0, .inr (11, fs_h0)), (qC, .inr (2, fs_qC))] H ∧ va_S A s.heap H [] := ⟨s.heap, rfl, hP, va_S.rf⟩
  have hl := lv_entry ([.ref h0, .int x0]) (n := 2) (Nat.le_of_ble_eq_true rfl)
  rw [lg_entry_eq]
  generalize (lg_sl ([.ref h0, .int x0]) ++ List.replicate (2 - (lg_sl ([.ref h0, .int x0])).length) Slot.unset).toArray = ls at hl ⊢
  have hl : lv_has ls 2 [(0, .ref h0), (1, .int x0)] := hl
  rw [← hHe]; clear hHe
  refine lv_aload_n hx hb dX11_field_0 rfl (lv_at hl 0 rfl) ?_
  have hPc := hP.sub (ws' := [(h0, .inr (11, fs_h0)), (qC, .inr (2, fs_qC))]) [0, 1] rfl
  have hDc := hD.sub (ws' := [(h0, .inr (11, fs_h0)), (qC, .inr (2, fs_qC))]) [0, 1] (by decide) rfl
  have hKc := hK.sub (tys' := []) [] rfl
  have hFc := va_free (wc := [(h0, .inr (11, fs_h0)), (qC, .inr (2, fs_qC))]) hD hS hA [0, 1] rfl
  refine vx_callv (vx_runV (As := []) (rest := []) ⟨hx, hb, hml, hown, hts⟩ (c_f_needEquation l hlt dC dI h0 qC fs_h0 fs_qC (mF.sub hF_h0 [0] rfl) (mF.sub hF_qC [0] rfl) H.size) (cwV 0 hts g_f_field_f_needEquation_159 rfl rfl rfl hv_X11_needEquation ⟨Nat.le_of_ble_eq_true rfl, Nat.le_of_ble_eq_true rfl⟩) ⟨fun a U g mk q => by obtain ⟨q0, q1, qP, qK, qD, qE0, qE1⟩ := q; exact ⟨q0, q1, qP, va_K.moved (u := U) (U := U.calling g mk a) (Vm.Alike.refl U.vm) qK, qD, w_N.same rfl qE0, w_T.same rfl rfl qE1⟩, va_recv hKc hPc (ci := 11) (q0 := 0) rfl rfl, fun U hU hW => ⟨rfl, by rw [hU], by rw [hU]; exact hPc, va_K.moved hW.alike hKc, hDc.weaken (fun _ _ _ _ => trivial), w_N.warm hW hN, w_T.go hT hW hS.2.1 hFc hU⟩⟩ rfl rfl hl.1 rfl (lv_room (Nat.le_of_ble_eq_true rfl)) dX11_field_1 ⟨(Nat.le_of_ble_eq_true rfl), (Nat.le_of_ble_eq_true rfl)⟩) hS (fun q _ h => hFc q h) hFc (fun q _ h => hFc q h) (fun E9 ce9 q9 u t H1 locs1 ht hvm hpx hBX hz1 hk1 hS1 hcell9 hv9 hcl9 => ?_) (fun u t H1 locs1 ht hvm hw hB hz1 hk1 hS1 => ?_)
  · skip
    obtain rfl : E9 = "java/lang/IllegalStateException" := hBX
    exact vx_out (fun x hx9 => (hnt x hx9).elim) hlocks hcell9 hv9 hcl9 (fun t9 ht9 _ => ⟨(), trivial, rfl, hS1.F ht9⟩) hS1.2.2 (Nat.le_of_ble_eq_true rfl) (Nat.le_of_ble_eq_true rfl)
  · skip
    exact (hw : False).elim
def wv_f_solution : List Cond := .code yX11_solution cX11_solution 2 (some .int) :: ([.methodLink RX11 159 yX11_needEquation, .instanceMethod yX11_needEquation, .selects RX11 yX11_needEquation yX11_needEquation, .initialized RX11] ++ (wv_f_needEquation ++ ([])))
theorem gw_f_solution : wv_f_solution.all goodWord = true := by decide +kernel
theorem g_f_solution_f_needEquation_159 : GoodIn wv_f_solution (wsV RX11 159 RX11 yX11_needEquation wv_f_needEquation) := goodIn_app (goodIn_of _ (by decide +kernel)) (goodIn_sub (fun _ h => List.mem_cons_of_mem _ (List.mem_append_right _ (List.mem_append_left _ h))) gw_f_needEquation)
set_option maxHeartbeats 4000000 in
set_option maxRecDepth 100000 in
/-- solution on a fresh object: it throws -/
theorem c_f_solution (l : Launch) (hlt : l.stackTraces = false) (dC : Nat → ClassId) (dI : Nat → Nat → Nat) (h0 : Nat) (qC : Nat) (x0 : Int32) (fs_h0 : List Value) (fs_qC : List Value) (hF_h0 : mF 19 [(7, .ref qC)] fs_h0) (hF_qC : mF 13 [(8, .int 0)] fs_qC) (sz : Nat) : vx_Met l yX11_solution wv_f_solution ({ frames := 7, cells := 1, slots := 6, locals := 110 }) (va_Pc [.ref h0, .int x0] (fun U => U.heap.size = sz ∧ va_P (dC, dI) vwCl [(h0, .inr (11, fs_h0)), (qC, .inr (2, fs_qC))] U.heap ∧ va_K (dC, dI) vwCl [] U ∧ va_D (fun _ => True) [(h0, .inr (11, fs_h0)), (qC, .inr (2, fs_qC))] ∧ w_N U ∧ w_T (va_A [(h0, .inr (11, fs_h0)), (qC, .inr (2, fs_qC))] sz) U U.heap)) (va_Qi (fun (r : Int32) (_ : Unit) => False) (fun _ t => va_P (dC, dI) vwCl [] t.heap ∧ va_K (dC, dI) vwCl [] t ∧ va_D (va_A [(h0, .inr (11, fs_h0)), (qC, .inr (2, fs_qC))] sz) []) (va_A [(h0, .inr (11, fs_h0)), (qC, .inr (2, fs_qC))] sz)) (vx_X (fun _ : Unit => True) (fun E _ _ => E = "java/lang/IllegalStateException") (va_A [(h0, .inr (11, fs_h0)), (qC, .inr (2, fs_qC))] sz)) 1 6 (va_A [(h0, .inr (11, fs_h0)), (qC, .inr (2, fs_qC))] sz) := by
  refine vx_ofW (cc := cX11_solution) (maxL := 2) (ret := (some .int)) (by decide) rfl ?_
  intro p e s m args below meth c s₁ B hml hnt hv
  obtain ⟨rfl, hsz, hP, hK, hD0, hN, hT⟩ := hv
  have hx := B.exec
  have hb := B.bytes
  have hr := B.returns
  have hts := atoms_spec (ws := wv_f_solution) B.pre
  have hown : s.vm.findClass RX11 = some m.cls := findClass_of_methodNamed B.named
  have hlocks := B.notSynchronized
  subst hsz
  have hD := hD0.self (sz := s.heap.size)
  generalize hAe : va_A [(h0, .inr (11, fs_h0)), (qC, .inr (2, fs_qC))] s.heap.size = A at hD hT ⊢
  have hA : ∀ q : Nat, s.heap.size ≤ q → A q := fun q h => by rw [← hAe]; exact Or.inr h
  obtain ⟨H, hHe, hP, hS⟩ : ∃ H : Heap, H = s.heap ∧ va_P (dC, dI) vwCl [(h0, .inr (11, fs_h0)), (qC, .inr (2, fs_qC))] H ∧ va_S A s.heap H [] := ⟨s.heap, rfl, hP, va_S.rf⟩
  have hl := lv_entry ([.ref h0, .int x0]) (n := 2) (Nat.le_of_ble_eq_true rfl)
  rw [lg_entry_eq]
  generalize (lg_sl ([.ref h0, .int x0]) ++ List.replicate (2 - (lg_sl ([.ref h0, .int x0])).length) Slot.unset).toArray = ls at hl ⊢
  have hl : lv_has ls 2 [(0, .ref h0), (1, .int x0)] := hl
  rw [← hHe]; clear hHe
  refine lv_aload_n hx hb dX11_solution_0 rfl (lv_at hl 0 rfl) ?_
  have hPc := hP.sub (ws' := [(h0, .inr (11, fs_h0)), (qC, .inr (2, fs_qC))]) [0, 1] rfl
  have hDc := hD.sub (ws' := [(h0, .inr (11, fs_h0)), (qC, .inr (2, fs_qC))]) [0, 1] (by decide) rfl
  have hKc := hK.sub (tys' := []) [] rfl
  have hFc := va_free (wc := [(h0, .inr (11, fs_h0)), (qC, .inr (2, fs_qC))]) hD hS hA [0, 1] rfl
  refine vx_callv (vx_runV (As := []) (rest := []) ⟨hx, hb, hml, hown, hts⟩ (c_f_needEquation l hlt dC dI h0 qC fs_h0 fs_qC (mF.sub hF_h0 [0] rfl) (mF.sub hF_qC [0] rfl) H.size) (cwV 0 hts g_f_solution_f_needEquation_159 rfl rfl rfl hv_X11_needEquation ⟨Nat.le_of_ble_eq_true rfl, Nat.le_of_ble_eq_true rfl⟩) ⟨fun a U g mk q => by obtain ⟨q0, q1, qP, qK, qD, qE0, qE1⟩ := q; exact ⟨q0, q1, qP, va_K.moved (u := U) (U := U.calling g mk a) (Vm.Alike.refl U.vm) qK, qD, w_N.same rfl qE0, w_T.same rfl rfl qE1⟩, va_recv hKc hPc (ci := 11) (q0 := 0) rfl rfl, fun U hU hW => ⟨rfl, by rw [hU], by rw [hU]; exact hPc, va_K.moved hW.alike hKc, hDc.weaken (fun _ _ _ _ => trivial), w_N.warm hW hN, w_T.go hT hW hS.2.1 hFc hU⟩⟩ rfl rfl hl.1 rfl (lv_room (Nat.le_of_ble_eq_true rfl)) dX11_solution_1 ⟨(Nat.le_of_ble_eq_true rfl), (Nat.le_of_ble_eq_true rfl)⟩) hS (fun q _ h => hFc q h) hFc (fun q _ h => hFc q h) (fun E9 ce9 q9 u t H1 locs1 ht hvm hpx hBX hz1 hk1 hS1 hcell9 hv9 hcl9 => ?_) (fun u t H1 locs1 ht hvm hw hB hz1 hk1 hS1 => ?_)
  · skip
    obtain rfl : E9 = "java/lang/IllegalStateException" := hBX
    exact vx_out (fun x hx9 => (hnt x hx9).elim) hlocks hcell9 hv9 hcl9 (fun t9 ht9 _ => ⟨(), trivial, rfl, hS1.F ht9⟩) hS1.2.2 (Nat.le_of_ble_eq_true rfl) (Nat.le_of_ble_eq_true rfl)
  · skip
    exact (hw : False).elim
def wv_f_rest : List Cond := .code yX11_rest cX11_rest 2 (some .int) :: ([.methodLink RX11 159 yX11_needEquation, .instanceMethod yX11_needEquation, .selects RX11 yX11_needEquation yX11_needEquation, .initialized RX11] ++ (wv_f_needEquation ++ ([])))
theorem gw_f_rest : wv_f_rest.all goodWord = true := by decide +kernel
theorem g_f_rest_f_needEquation_159 : GoodIn wv_f_rest (wsV RX11 159 RX11 yX11_needEquation wv_f_needEquation) := goodIn_app (goodIn_of _ (by decide +kernel)) (goodIn_sub (fun _ h => List.mem_cons_of_mem _ (List.mem_append_right _ (List.mem_append_left _ h))) gw_f_needEquation)
set_option maxHeartbeats 4000000 in
set_option maxRecDepth 100000 in
/-- rest on a fresh object: it throws -/
theorem c_f_rest (l : Launch) (hlt : l.stackTraces = false) (dC : Nat → ClassId) (dI : Nat → Nat → Nat) (h0 : Nat) (qC : Nat) (x0 : Int32) (fs_h0 : List Value) (fs_qC : List Value) (hF_h0 : mF 19 [(7, .ref qC)] fs_h0) (hF_qC : mF 13 [(8, .int 0)] fs_qC) (sz : Nat) : vx_Met l yX11_rest wv_f_rest ({ frames := 7, cells := 1, slots := 6, locals := 110 }) (va_Pc [.ref h0, .int x0] (fun U => U.heap.size = sz ∧ va_P (dC, dI) vwCl [(h0, .inr (11, fs_h0)), (qC, .inr (2, fs_qC))] U.heap ∧ va_K (dC, dI) vwCl [] U ∧ va_D (fun _ => True) [(h0, .inr (11, fs_h0)), (qC, .inr (2, fs_qC))] ∧ w_N U ∧ w_T (va_A [(h0, .inr (11, fs_h0)), (qC, .inr (2, fs_qC))] sz) U U.heap)) (va_Qi (fun (r : Int32) (_ : Unit) => False) (fun _ t => va_P (dC, dI) vwCl [] t.heap ∧ va_K (dC, dI) vwCl [] t ∧ va_D (va_A [(h0, .inr (11, fs_h0)), (qC, .inr (2, fs_qC))] sz) []) (va_A [(h0, .inr (11, fs_h0)), (qC, .inr (2, fs_qC))] sz)) (vx_X (fun _ : Unit => True) (fun E _ _ => E = "java/lang/IllegalStateException") (va_A [(h0, .inr (11, fs_h0)), (qC, .inr (2, fs_qC))] sz)) 1 6 (va_A [(h0, .inr (11, fs_h0)), (qC, .inr (2, fs_qC))] sz) := by
  refine vx_ofW (cc := cX11_rest) (maxL := 2) (ret := (some .int)) (by decide) rfl ?_
  intro p e s m args below meth c s₁ B hml hnt hv
  obtain ⟨rfl, hsz, hP, hK, hD0, hN, hT⟩ := hv
  have hx := B.exec
  have hb := B.bytes
  have hr := B.returns
  have hts := atoms_spec (ws := wv_f_rest) B.pre
  have hown : s.vm.findClass RX11 = some m.cls := findClass_of_methodNamed B.named
  have hlocks := B.notSynchronized
  subst hsz
  have hD := hD0.self (sz := s.heap.size)
  generalize hAe : va_A [(h0, .inr (11, fs_h0)), (qC, .inr (2, fs_qC))] s.heap.size = A at hD hT ⊢
  have hA : ∀ q : Nat, s.heap.size ≤ q → A q := fun q h => by rw [← hAe]; exact Or.inr h
  obtain ⟨H, hHe, hP, hS⟩ : ∃ H : Heap, H = s.heap ∧ va_P (dC, dI) vwCl [(h0, .inr (11, fs_h0)), (qC, .inr (2, fs_qC))] H ∧ va_S A s.heap H [] := ⟨s.heap, rfl, hP, va_S.rf⟩
  have hl := lv_entry ([.ref h0, .int x0]) (n := 2) (Nat.le_of_ble_eq_true rfl)
  rw [lg_entry_eq]
  generalize (lg_sl ([.ref h0, .int x0]) ++ List.replicate (2 - (lg_sl ([.ref h0, .int x0])).length) Slot.unset).toArray = ls at hl ⊢
  have hl : lv_has ls 2 [(0, .ref h0), (1, .int x0)] := hl
  rw [← hHe]; clear hHe
  refine lv_aload_n hx hb dX11_rest_0 rfl (lv_at hl 0 rfl) ?_
  have hPc := hP.sub (ws' := [(h0, .inr (11, fs_h0)), (qC, .inr (2, fs_qC))]) [0, 1] rfl
  have hDc := hD.sub (ws' := [(h0, .inr (11, fs_h0)), (qC, .inr (2, fs_qC))]) [0, 1] (by decide) rfl
  have hKc := hK.sub (tys' := []) [] rfl
  have hFc := va_free (wc := [(h0, .inr (11, fs_h0)), (qC, .inr (2, fs_qC))]) hD hS hA [0, 1] rfl
  refine vx_callv (vx_runV (As := []) (rest := []) ⟨hx, hb, hml, hown, hts⟩ (c_f_needEquation l hlt dC dI h0 qC fs_h0 fs_qC (mF.sub hF_h0 [0] rfl) (mF.sub hF_qC [0] rfl) H.size) (cwV 0 hts g_f_rest_f_needEquation_159 rfl rfl rfl hv_X11_needEquation ⟨Nat.le_of_ble_eq_true rfl, Nat.le_of_ble_eq_true rfl⟩) ⟨fun a U g mk q => by obtain ⟨q0, q1, qP, qK, qD, qE0, qE1⟩ := q; exact ⟨q0, q1, qP, va_K.moved (u := U) (U := U.calling g mk a) (Vm.Alike.refl U.vm) qK, qD, w_N.same rfl qE0, w_T.same rfl rfl qE1⟩, va_recv hKc hPc (ci := 11) (q0 := 0) rfl rfl, fun U hU hW => ⟨rfl, by rw [hU], by rw [hU]; exact hPc, va_K.moved hW.alike hKc, hDc.weaken (fun _ _ _ _ => trivial), w_N.warm hW hN, w_T.go hT hW hS.2.1 hFc hU⟩⟩ rfl rfl hl.1 rfl (lv_room (Nat.le_of_ble_eq_true rfl)) dX11_rest_1 ⟨(Nat.le_of_ble_eq_true rfl), (Nat.le_of_ble_eq_true rfl)⟩) hS (fun q _ h => hFc q h) hFc (fun q _ h => hFc q h) (fun E9 ce9 q9 u t H1 locs1 ht hvm hpx hBX hz1 hk1 hS1 hcell9 hv9 hcl9 => ?_) (fun u t H1 locs1 ht hvm hw hB hz1 hk1 hS1 => ?_)
  · skip
    obtain rfl : E9 = "java/lang/IllegalStateException" := hBX
    exact vx_out (fun x hx9 => (hnt x hx9).elim) hlocks hcell9 hv9 hcl9 (fun t9 ht9 _ => ⟨(), trivial, rfl, hS1.F ht9⟩) hS1.2.2 (Nat.le_of_ble_eq_true rfl) (Nat.le_of_ble_eq_true rfl)
  · skip
    exact (hw : False).elim
def wv_f_leaves : List Cond := .code yX11_leaves cX11_leaves 1 (some .boolean) :: ([.methodLink RX11 159 yX11_needEquation, .instanceMethod yX11_needEquation, .selects RX11 yX11_needEquation yX11_needEquation, .initialized RX11] ++ (wv_f_needEquation ++ ([])))
theorem gw_f_leaves : wv_f_leaves.all goodWord = true := by decide +kernel
theorem g_f_leaves_f_needEquation_159 : GoodIn wv_f_leaves (wsV RX11 159 RX11 yX11_needEquation wv_f_needEquation) := goodIn_app (goodIn_of _ (by decide +kernel)) (goodIn_sub (fun _ h => List.mem_cons_of_mem _ (List.mem_append_right _ (List.mem_append_left _ h))) gw_f_needEquation)
set_option maxHeartbeats 4000000 in
set_option maxRecDepth 100000 in
/-- leaves on a fresh object: it throws -/
theorem c_f_leaves (l : Launch) (hlt : l.stackTraces = false) (dC : Nat → ClassId) (dI : Nat → Nat → Nat) (h0 : Nat) (qC : Nat) (fs_h0 : List Value) (fs_qC : List Value) (hF_h0 : mF 19 [(7, .ref qC)] fs_h0) (hF_qC : mF 13 [(8, .int 0)] fs_qC) (sz : Nat) : vx_Met l yX11_leaves wv_f_leaves ({ frames := 7, cells := 1, slots := 6, locals := 110 }) (va_Pc [.ref h0] (fun U => U.heap.size = sz ∧ va_P (dC, dI) vwCl [(h0, .inr (11, fs_h0)), (qC, .inr (2, fs_qC))] U.heap ∧ va_K (dC, dI) vwCl [] U ∧ va_D (fun _ => True) [(h0, .inr (11, fs_h0)), (qC, .inr (2, fs_qC))] ∧ w_N U ∧ w_T (va_A [(h0, .inr (11, fs_h0)), (qC, .inr (2, fs_qC))] sz) U U.heap)) (va_Qi (fun (r : Int32) (_ : Unit) => False) (fun _ t => va_P (dC, dI) vwCl [] t.heap ∧ va_K (dC, dI) vwCl [] t ∧ va_D (va_A [(h0, .inr (11, fs_h0)), (qC, .inr (2, fs_qC))] sz) []) (va_A [(h0, .inr (11, fs_h0)), (qC, .inr (2, fs_qC))] sz)) (vx_X (fun _ : Unit => True) (fun E _ _ => E = "java/lang/IllegalStateException") (va_A [(h0, .inr (11, fs_h0)), (qC, .inr (2, fs_qC))] sz)) 1 6 (va_A [(h0, .inr (11, fs_h0)), (qC, .inr (2, fs_qC))] sz) := by
  refine vx_ofW (cc := cX11_leaves) (maxL := 1) (ret := (some .boolean)) (by decide) rfl ?_
  intro p e s m args below meth c s₁ B hml hnt hv
  obtain ⟨rfl, hsz, hP, hK, hD0, hN, hT⟩ := hv
  have hx := B.exec
  have hb := B.bytes
  have hr := B.returns
  have hts := atoms_spec (ws := wv_f_leaves) B.pre
  have hown : s.vm.findClass RX11 = some m.cls := findClass_of_methodNamed B.named
  have hlocks := B.notSynchronized
  subst hsz
  have hD := hD0.self (sz := s.heap.size)
  generalize hAe : va_A [(h0, .inr (11, fs_h0)), (qC, .inr (2, fs_qC))] s.heap.size = A at hD hT ⊢
  have hA : ∀ q : Nat, s.heap.size ≤ q → A q := fun q h => by rw [← hAe]; exact Or.inr h
  obtain ⟨H, hHe, hP, hS⟩ : ∃ H : Heap, H = s.heap ∧ va_P (dC, dI) vwCl [(h0, .inr (11, fs_h0)), (qC, .inr (2, fs_qC))] H ∧ va_S A s.heap H [] := ⟨s.heap, rfl, hP, va_S.rf⟩
  have hl := lv_entry ([.ref h0]) (n := 1) (Nat.le_of_ble_eq_true rfl)
  rw [lg_entry_eq]
  generalize (lg_sl ([.ref h0]) ++ List.replicate (1 - (lg_sl ([.ref h0])).length) Slot.unset).toArray = ls at hl ⊢
  have hl : lv_has ls 1 [(0, .ref h0)] := hl
  rw [← hHe]; clear hHe
  refine lv_aload_n hx hb dX11_leaves_0 rfl (lv_at hl 0 rfl) ?_
  have hPc := hP.sub (ws' := [(h0, .inr (11, fs_h0)), (qC, .inr (2, fs_qC))]) [0, 1] rfl
  have hDc := hD.sub (ws' := [(h0, .inr (11, fs_h0)), (qC, .inr (2, fs_qC))]) [0, 1] (by decide) rfl
  have hKc := hK.sub (tys' := []) [] rfl
  have hFc := va_free (wc := [(h0, .inr (11, fs_h0)), (qC, .inr (2, fs_qC))]) hD hS hA [0, 1] rfl
  refine vx_callv (vx_runV (As := []) (rest := []) ⟨hx, hb, hml, hown, hts⟩ (c_f_needEquation l hlt dC dI h0 qC fs_h0 fs_qC (mF.sub hF_h0 [0] rfl) (mF.sub hF_qC [0] rfl) H.size) (cwV 0 hts g_f_leaves_f_needEquation_159 rfl rfl rfl hv_X11_needEquation ⟨Nat.le_of_ble_eq_true rfl, Nat.le_of_ble_eq_true rfl⟩) ⟨fun a U g mk q => by obtain ⟨q0, q1, qP, qK, qD, qE0, qE1⟩ := q; exact ⟨q0, q1, qP, va_K.moved (u := U) (U := U.calling g mk a) (Vm.Alike.refl U.vm) qK, qD, w_N.same rfl qE0, w_T.same rfl rfl qE1⟩, va_recv hKc hPc (ci := 11) (q0 := 0) rfl rfl, fun U hU hW => ⟨rfl, by rw [hU], by rw [hU]; exact hPc, va_K.moved hW.alike hKc, hDc.weaken (fun _ _ _ _ => trivial), w_N.warm hW hN, w_T.go hT hW hS.2.1 hFc hU⟩⟩ rfl rfl hl.1 rfl (lv_room (Nat.le_of_ble_eq_true rfl)) dX11_leaves_1 ⟨(Nat.le_of_ble_eq_true rfl), (Nat.le_of_ble_eq_true rfl)⟩) hS (fun q _ h => hFc q h) hFc (fun q _ h => hFc q h) (fun E9 ce9 q9 u t H1 locs1 ht hvm hpx hBX hz1 hk1 hS1 hcell9 hv9 hcl9 => ?_) (fun u t H1 locs1 ht hvm hw hB hz1 hk1 hS1 => ?_)
  · skip
    obtain rfl : E9 = "java/lang/IllegalStateException" := hBX
    exact vx_out (fun x hx9 => (hnt x hx9).elim) hlocks hcell9 hv9 hcl9 (fun t9 ht9 _ => ⟨(), trivial, rfl, hS1.F ht9⟩) hS1.2.2 (Nat.le_of_ble_eq_true rfl) (Nat.le_of_ble_eq_true rfl)
  · skip
    exact (hw : False).elim
def wv_f_fields : List Cond := .code yX11_fields cX11_fields 2 (some .int) :: ([.methodLink RX11 201 yX11_baseOf, .instanceMethod yX11_baseOf, .selects RX11 yX11_baseOf yX11_baseOf, .initialized RX11] ++ (wv_f_baseOf ++ ([])))
theorem gw_f_fields : wv_f_fields.all goodWord = true := by decide +kernel
theorem g_f_fields_f_baseOf_201 : GoodIn wv_f_fields (wsV RX11 201 RX11 yX11_baseOf wv_f_baseOf) := goodIn_app (goodIn_of _ (by decide +kernel)) (goodIn_sub (fun _ h => List.mem_cons_of_mem _ (List.mem_append_right _ (List.mem_append_left _ h))) gw_f_baseOf)
set_option maxHeartbeats 4000000 in
set_option maxRecDepth 100000 in
/-- fields on a fresh object: it throws -/
theorem c_f_fields (l : Launch) (hlt : l.stackTraces = false) (dC : Nat → ClassId) (dI : Nat → Nat → Nat) (h0 : Nat) (qC : Nat) (x0 : Int32) (fs_h0 : List Value) (fs_qC : List Value) (hF_h0 : mF 19 [(7, .ref qC)] fs_h0) (hF_qC : mF 13 [(8, .int 0)] fs_qC) (sz : Nat) : vx_Met l yX11_fields wv_f_fields ({ frames := 8, cells := 1, slots := 6, locals := 133 }) (va_Pc [.ref h0, .int x0] (fun U => U.heap.size = sz ∧ va_P (dC, dI) vwCl [(h0, .inr (11, fs_h0)), (qC, .inr (2, fs_qC))] U.heap ∧ va_K (dC, dI) vwCl [] U ∧ va_D (fun _ => True) [(h0, .inr (11, fs_h0)), (qC, .inr (2, fs_qC))] ∧ w_N U ∧ w_T (va_A [(h0, .inr (11, fs_h0)), (qC, .inr (2, fs_qC))] sz) U U.heap)) (va_Qi (fun (r : Int32) (_ : Unit) => False) (fun _ t => va_P (dC, dI) vwCl [] t.heap ∧ va_K (dC, dI) vwCl [] t ∧ va_D (va_A [(h0, .inr (11, fs_h0)), (qC, .inr (2, fs_qC))] sz) []) (va_A [(h0, .inr (11, fs_h0)), (qC, .inr (2, fs_qC))] sz)) (vx_X (fun _ : Unit => True) (fun E _ _ => E = "java/lang/IllegalStateException") (va_A [(h0, .inr (11, fs_h0)), (qC, .inr (2, fs_qC))] sz)) 1 6 (va_A [(h0, .inr (11, fs_h0)), (qC, .inr (2, fs_qC))] sz) := by
  refine vx_ofW (cc := cX11_fields) (maxL := 2) (ret := (some .int)) (by decide) rfl ?_
  intro p e s m args below meth c s₁ B hml hnt hv
  obtain ⟨rfl, hsz, hP, hK, hD0, hN, hT⟩ := hv
  have hx := B.exec
  have hb := B.bytes
  have hr := B.returns
  have hts := atoms_spec (ws := wv_f_fields) B.pre
  have hown : s.vm.findClass RX11 = some m.cls := findClass_of_methodNamed B.named
  have hlocks := B.notSynchronized
  subst hsz
  have hD := hD0.self (sz := s.heap.size)
  generalize hAe : va_A [(h0, .inr (11, fs_h0)), (qC, .inr (2, fs_qC))] s.heap.size = A at hD hT ⊢
  have hA : ∀ q : Nat, s.heap.size ≤ q → A q := fun q h => by rw [← hAe]; exact Or.inr h
  obtain ⟨H, hHe, hP, hS⟩ : ∃ H : Heap, H = s.heap ∧ va_P (dC, dI) vwCl [(h0, .inr (11, fs_h0)), (qC, .inr (2, fs_qC))] H ∧ va_S A s.heap H [] := ⟨s.heap, rfl, hP, va_S.rf⟩
  have hl := lv_entry ([.ref h0, .int x0]) (n := 2) (Nat.le_of_ble_eq_true rfl)
  rw [lg_entry_eq]
  generalize (lg_sl ([.ref h0, .int x0]) ++ List.replicate (2 - (lg_sl ([.ref h0, .int x0])).length) Slot.unset).toArray = ls at hl ⊢
  have hl : lv_has ls 2 [(0, .ref h0), (1, .int x0)] := hl
  rw [← hHe]; clear hHe
  refine lv_aload_n hx hb dX11_fields_0 rfl (lv_at hl 0 rfl) ?_
  refine lv_iload_n hx hb dX11_fields_1 rfl (lv_at hl 1 rfl) ?_
  have hPc := hP.sub (ws' := [(h0, .inr (11, fs_h0)), (qC, .inr (2, fs_qC))]) [0, 1] rfl
  have hDc := hD.sub (ws' := [(h0, .inr (11, fs_h0)), (qC, .inr (2, fs_qC))]) [0, 1] (by decide) rfl
  have hKc := hK.sub (tys' := []) [] rfl
  have hFc := va_free (wc := [(h0, .inr (11, fs_h0)), (qC, .inr (2, fs_qC))]) hD hS hA [0, 1] rfl
  refine vx_callr (vx_runV (As := [.int x0]) (rest := []) ⟨hx, hb, hml, hown, hts⟩ (c_f_baseOf l hlt dC dI h0 qC x0 fs_h0 fs_qC (mF.sub hF_h0 [0] rfl) (mF.sub hF_qC [0] rfl) H.size) (cwV 1 hts g_f_fields_f_baseOf_201 rfl rfl rfl hv_X11_baseOf ⟨Nat.le_of_ble_eq_true rfl, Nat.le_of_ble_eq_true rfl⟩) ⟨fun a U g mk q => by obtain ⟨q0, q1, qP, qK, qD, qE0, qE1⟩ := q; exact ⟨q0, q1, qP, va_K.moved (u := U) (U := U.calling g mk a) (Vm.Alike.refl U.vm) qK, qD, w_N.same rfl qE0, w_T.same rfl rfl qE1⟩, va_recv hKc hPc (ci := 11) (q0 := 0) rfl rfl, fun U hU hW => ⟨rfl, by rw [hU], by rw [hU]; exact hPc, va_K.moved hW.alike hKc, hDc.weaken (fun _ _ _ _ => trivial), w_N.warm hW hN, w_T.go hT hW hS.2.1 hFc hU⟩⟩ rfl rfl hl.1 rfl (lv_room (Nat.le_of_ble_eq_true rfl)) dX11_fields_2 ⟨(Nat.le_of_ble_eq_true rfl), (Nat.le_of_ble_eq_true rfl)⟩) hS (fun q _ h => hFc q h) hFc (fun q _ h => hFc q h) (fun E9 ce9 q9 u t H1 locs1 ht hvm hpx hBX hz1 hk1 hS1 hcell9 hv9 hcl9 => ?_) (fun u r_1 t H1 locs1 ht hvm hw hB hz1 hk1 hS1 => ?_)
  · skip
    obtain rfl : E9 = "java/lang/IllegalStateException" := hBX
    exact vx_out (fun x hx9 => (hnt x hx9).elim) hlocks hcell9 hv9 hcl9 (fun t9 ht9 _ => ⟨(), trivial, rfl, hS1.F ht9⟩) hS1.2.2 (Nat.le_of_ble_eq_true rfl) (Nat.le_of_ble_eq_true rfl)
  · skip
    exact (hw : False).elim
def wv_f_number : List Cond := .code yX11_number cX11_number 7 (some .long) :: ([.methodLink RX11 201 yX11_baseOf, .instanceMethod yX11_baseOf, .selects RX11 yX11_baseOf yX11_baseOf, .initialized RX11] ++ (wv_f_baseOf ++ ([])))
theorem gw_f_number : wv_f_number.all goodWord = true := by decide +kernel
theorem g_f_number_f_baseOf_201 : GoodIn wv_f_number (wsV RX11 201 RX11 yX11_baseOf wv_f_baseOf) := goodIn_app (goodIn_of _ (by decide +kernel)) (goodIn_sub (fun _ h => List.mem_cons_of_mem _ (List.mem_append_right _ (List.mem_append_left _ h))) gw_f_baseOf)
set_option maxHeartbeats 4000000 in
set_option maxRecDepth 100000 in
/-- number on a fresh object: it throws -/
theorem c_f_number (l : Launch) (hlt : l.stackTraces = false) (dC : Nat → ClassId) (dI : Nat → Nat → Nat) (h0 : Nat) (qC : Nat) (x0 : Int32) (x1 : Int32) (x2 : Int32) (x3 : Int32) (fs_h0 : List Value) (fs_qC : List Value) (hF_h0 : mF 19 [(7, .ref qC)] fs_h0) (hF_qC : mF 13 [(8, .int 0)] fs_qC) (sz : Nat) : vx_Met l yX11_number wv_f_number ({ frames := 8, cells := 1, slots := 6, locals := 133 }) (va_Pc [.ref h0, .int x0, .int x1, .int x2, .int x3] (fun U => U.heap.size = sz ∧ va_P (dC, dI) vwCl [(h0, .inr (11, fs_h0)), (qC, .inr (2, fs_qC))] U.heap ∧ va_K (dC, dI) vwCl [] U ∧ va_D (fun _ => True) [(h0, .inr (11, fs_h0)), (qC, .inr (2, fs_qC))] ∧ w_N U ∧ w_T (va_A [(h0, .inr (11, fs_h0)), (qC, .inr (2, fs_qC))] sz) U U.heap)) (va_Ql (fun (r : Int64) (_ : Unit) => False) (fun _ t => va_P (dC, dI) vwCl [] t.heap ∧ va_K (dC, dI) vwCl [] t ∧ va_D (va_A [(h0, .inr (11, fs_h0)), (qC, .inr (2, fs_qC))] sz) []) (va_A [(h0, .inr (11, fs_h0)), (qC, .inr (2, fs_qC))] sz)) (vx_X (fun _ : Unit => True) (fun E _ _ => E = "java/lang/IllegalStateException") (va_A [(h0, .inr (11, fs_h0)), (qC, .inr (2, fs_qC))] sz)) 1 6 (va_A [(h0, .inr (11, fs_h0)), (qC, .inr (2, fs_qC))] sz) := by
  refine vx_ofW (cc := cX11_number) (maxL := 7) (ret := (some .long)) (by decide) rfl ?_
  intro p e s m args below meth c s₁ B hml hnt hv
  obtain ⟨rfl, hsz, hP, hK, hD0, hN, hT⟩ := hv
  have hx := B.exec
  have hb := B.bytes
  have hr := B.returns
  have hts := atoms_spec (ws := wv_f_number) B.pre
  have hown : s.vm.findClass RX11 = some m.cls := findClass_of_methodNamed B.named
  have hlocks := B.notSynchronized
  subst hsz
  have hD := hD0.self (sz := s.heap.size)
  generalize hAe : va_A [(h0, .inr (11, fs_h0)), (qC, .inr (2, fs_qC))] s.heap.size = A at hD hT ⊢
  have hA : ∀ q : Nat, s.heap.size ≤ q → A q := fun q h => by rw [← hAe]; exact Or.inr h
  obtain ⟨H, hHe, hP, hS⟩ : ∃ H : Heap, H = s.heap ∧ va_P (dC, dI) vwCl [(h0, .inr (11, fs_h0)), (qC, .inr (2, fs_qC))] H ∧ va_S A s.heap H [] := ⟨s.heap, rfl, hP, va_S.rf⟩
  have hl := lv_entry ([.ref h0, .int x0, .int x1, .int x2, .int x3]) (n := 7) (Nat.le_of_ble_eq_true rfl)
  rw [lg_entry_eq]
  generalize (lg_sl ([.ref h0, .int x0, .int x1, .int x2, .int x3]) ++ List.replicate (7 - (lg_sl ([.ref h0, .int x0, .int x1, .int x2, .int x3])).length) Slot.unset).toArray = ls at hl ⊢
  have hl : lv_has ls 7 [(0, .ref h0), (1, .int x0), (2, .int x1), (3, .int x2), (4, .int x3)] := hl
  rw [← hHe]; clear hHe
  refine lv_aload_n hx hb dX11_number_0 rfl (lv_at hl 0 rfl) ?_
  refine lv_iload_n hx hb dX11_number_1 rfl (lv_at hl 1 rfl) ?_
  have hPc := hP.sub (ws' := [(h0, .inr (11, fs_h0)), (qC, .inr (2, fs_qC))]) [0, 1] rfl
  have hDc := hD.sub (ws' := [(h0, .inr (11, fs_h0)), (qC, .inr (2, fs_qC))]) [0, 1] (by decide) rfl
  have hKc := hK.sub (tys' := []) [] rfl
  have hFc := va_free (wc := [(h0, .inr (11, fs_h0)), (qC, .inr (2, fs_qC))]) hD hS hA [0, 1] rfl
  refine vx_callr (vx_runV (As := [.int x0]) (rest := []) ⟨hx, hb, hml, hown, hts⟩ (c_f_baseOf l hlt dC dI h0 qC x0 fs_h0 fs_qC (mF.sub hF_h0 [0] rfl) (mF.sub hF_qC [0] rfl) H.size) (cwV 1 hts g_f_number_f_baseOf_201 rfl rfl rfl hv_X11_baseOf ⟨Nat.le_of_ble_eq_true rfl, Nat.le_of_ble_eq_true rfl⟩) ⟨fun a U g mk q => by obtain ⟨q0, q1, qP, qK, qD, qE0, qE1⟩ := q; exact ⟨q0, q1, qP, va_K.moved (u := U) (U := U.calling g mk a) (Vm.Alike.refl U.vm) qK, qD, w_N.same rfl qE0, w_T.same rfl rfl qE1⟩, va_recv hKc hPc (ci := 11) (q0 := 0) rfl rfl, fun U hU hW => ⟨rfl, by rw [hU], by rw [hU]; exact hPc, va_K.moved hW.alike hKc, hDc.weaken (fun _ _ _ _ => trivial), w_N.warm hW hN, w_T.go hT hW hS.2.1 hFc hU⟩⟩ rfl rfl hl.1 rfl (lv_room (Nat.le_of_ble_eq_true rfl)) dX11_number_2 ⟨(Nat.le_of_ble_eq_true rfl), (Nat.le_of_ble_eq_true rfl)⟩) hS (fun q _ h => hFc q h) hFc (fun q _ h => hFc q h) (fun E9 ce9 q9 u t H1 locs1 ht hvm hpx hBX hz1 hk1 hS1 hcell9 hv9 hcl9 => ?_) (fun u r_1 t H1 locs1 ht hvm hw hB hz1 hk1 hS1 => ?_)
  · skip
    obtain rfl : E9 = "java/lang/IllegalStateException" := hBX
    exact vx_out (fun x hx9 => (hnt x hx9).elim) hlocks hcell9 hv9 hcl9 (fun t9 ht9 _ => ⟨(), trivial, rfl, hS1.F ht9⟩) hS1.2.2 (Nat.le_of_ble_eq_true rfl) (Nat.le_of_ble_eq_true rfl)
  · skip
    exact (hw : False).elim
def wv_f_within : List Cond := .code yX11_within cX11_within 2 (some .boolean) :: ([.fieldLink RX11 59 "MotionSigns" "algebra" "LMotionSigns$Algebra;", .methodLink RX11 201 yX11_baseOf, .instanceMethod yX11_baseOf, .selects RX11 yX11_baseOf yX11_baseOf, .initialized RX11] ++ (wsX110 ++ (wv_f_baseOf ++ ([]))))
theorem gw_f_within : wv_f_within.all goodWord = true := by decide +kernel
theorem in_f_within_X11 : ∀ w ∈ wsX110, w ∈ wv_f_within := fun _ h => List.mem_cons_of_mem _ (List.mem_append_right _ (List.mem_append_left _ h))
theorem g_f_within_f_baseOf_201 : GoodIn wv_f_within (wsV RX11 201 RX11 yX11_baseOf wv_f_baseOf) := goodIn_app (goodIn_of _ (by decide +kernel)) (goodIn_sub (fun _ h => List.mem_cons_of_mem _ (List.mem_append_right _ (List.mem_append_right _ (List.mem_append_left _ h)))) gw_f_baseOf)
set_option maxHeartbeats 4000000 in
set_option maxRecDepth 100000 in
/-- within on a fresh object: it throws -/
theorem c_f_within (l : Launch) (hlt : l.stackTraces = false) (dC : Nat → ClassId) (dI : Nat → Nat → Nat) (h0 : Nat) (qC : Nat) (r_h0_algebra : Nat) (x0 : Int32) (fs_h0 : List Value) (fs_qC : List Value) (hF_h0 : mF 19 [(7, .ref qC), (8, .ref r_h0_algebra)] fs_h0) (hF_qC : mF 13 [(8, .int 0)] fs_qC) (sz : Nat) : vx_Met l yX11_within wv_f_within ({ frames := 8, cells := 1, slots := 6, locals := 133 }) (va_Pc [.ref h0, .int x0] (fun U => U.heap.size = sz ∧ va_P (dC, dI) vwCl [(h0, .inr (11, fs_h0)), (qC, .inr (2, fs_qC))] U.heap ∧ va_K (dC, dI) vwCl [] U ∧ va_D (fun _ => True) [(h0, .inr (11, fs_h0)), (qC, .inr (2, fs_qC))] ∧ w_N U ∧ w_T (va_A [(h0, .inr (11, fs_h0)), (qC, .inr (2, fs_qC))] sz) U U.heap)) (va_Qi (fun (r : Int32) (_ : Unit) => False) (fun _ t => va_P (dC, dI) vwCl [] t.heap ∧ va_K (dC, dI) vwCl [] t ∧ va_D (va_A [(h0, .inr (11, fs_h0)), (qC, .inr (2, fs_qC))] sz) []) (va_A [(h0, .inr (11, fs_h0)), (qC, .inr (2, fs_qC))] sz)) (vx_X (fun _ : Unit => True) (fun E _ _ => E = "java/lang/IllegalStateException") (va_A [(h0, .inr (11, fs_h0)), (qC, .inr (2, fs_qC))] sz)) 1 6 (va_A [(h0, .inr (11, fs_h0)), (qC, .inr (2, fs_qC))] sz) := by
  refine vx_ofW (cc := cX11_within) (maxL := 2) (ret := (some .boolean)) (by decide) rfl ?_
  intro p e s m args below meth c s₁ B hml hnt hv
  obtain ⟨rfl, hsz, hP, hK, hD0, hN, hT⟩ := hv
  have hx := B.exec
  have hb := B.bytes
  have hr := B.returns
  have hts := atoms_spec (ws := wv_f_within) B.pre
  have hown : s.vm.findClass RX11 = some m.cls := findClass_of_methodNamed B.named
  have hlocks := B.notSynchronized
  subst hsz
  have hD := hD0.self (sz := s.heap.size)
  generalize hAe : va_A [(h0, .inr (11, fs_h0)), (qC, .inr (2, fs_qC))] s.heap.size = A at hD hT ⊢
  have hA : ∀ q : Nat, s.heap.size ≤ q → A q := fun q h => by rw [← hAe]; exact Or.inr h
  obtain ⟨H, hHe, hP, hS⟩ : ∃ H : Heap, H = s.heap ∧ va_P (dC, dI) vwCl [(h0, .inr (11, fs_h0)), (qC, .inr (2, fs_qC))] H ∧ va_S A s.heap H [] := ⟨s.heap, rfl, hP, va_S.rf⟩
  have hl := lv_entry ([.ref h0, .int x0]) (n := 2) (Nat.le_of_ble_eq_true rfl)
  rw [lg_entry_eq]
  generalize (lg_sl ([.ref h0, .int x0]) ++ List.replicate (2 - (lg_sl ([.ref h0, .int x0])).length) Slot.unset).toArray = ls at hl ⊢
  have hl : lv_has ls 2 [(0, .ref h0), (1, .int x0)] := hl
  rw [← hHe]; clear hHe
  refine lv_aload_n hx hb dX11_within_0 rfl (lv_at hl 0 rfl) ?_
  refine va_get (D := (dC, dI)) (ci := 11) (v := .ref r_h0_algebra) (C := RX11) (T := TX11) (N := 19) hx hb hts (in_f_within_X11) hown hK hP 0 rfl rfl 8 (by decide) (hts (.fieldLink RX11 59 "MotionSigns" "algebra" "LMotionSigns$Algebra;") (List.mem_of_getElem? (i := 1) rfl)) (fun _ h9 => h9) (mF.get hF_h0 1 rfl) dX11_within_1 ?_
  refine lv_aload_n hx hb dX11_within_4 rfl (lv_at hl 0 rfl) ?_
  refine lv_iload_n hx hb dX11_within_5 rfl (lv_at hl 1 rfl) ?_
  have hPc := hP.sub (ws' := [(h0, .inr (11, fs_h0)), (qC, .inr (2, fs_qC))]) [0, 1] rfl
  have hDc := hD.sub (ws' := [(h0, .inr (11, fs_h0)), (qC, .inr (2, fs_qC))]) [0, 1] (by decide) rfl
  have hKc := hK.sub (tys' := []) [] rfl
  have hFc := va_free (wc := [(h0, .inr (11, fs_h0)), (qC, .inr (2, fs_qC))]) hD hS hA [0, 1] rfl
  refine vx_callr (vx_runV (As := [.int x0]) (rest := [.ref r_h0_algebra]) ⟨hx, hb, hml, hown, hts⟩ (c_f_baseOf l hlt dC dI h0 qC x0 fs_h0 fs_qC (mF.sub hF_h0 [0] rfl) (mF.sub hF_qC [0] rfl) H.size) (cwV 1 hts g_f_within_f_baseOf_201 rfl rfl rfl hv_X11_baseOf ⟨Nat.le_of_ble_eq_true rfl, Nat.le_of_ble_eq_true rfl⟩) ⟨fun a U g mk q => by obtain ⟨q0, q1, qP, qK, qD, qE0, qE1⟩ := q; exact ⟨q0, q1, qP, va_K.moved (u := U) (U := U.calling g mk a) (Vm.Alike.refl U.vm) qK, qD, w_N.same rfl qE0, w_T.same rfl rfl qE1⟩, va_recv hKc hPc (ci := 11) (q0 := 0) rfl rfl, fun U hU hW => ⟨rfl, by rw [hU], by rw [hU]; exact hPc, va_K.moved hW.alike hKc, hDc.weaken (fun _ _ _ _ => trivial), w_N.warm hW hN, w_T.go hT hW hS.2.1 hFc hU⟩⟩ rfl rfl hl.1 rfl (lv_room (Nat.le_of_ble_eq_true rfl)) dX11_within_6 ⟨(Nat.le_of_ble_eq_true rfl), (Nat.le_of_ble_eq_true rfl)⟩) hS (fun q _ h => hFc q h) hFc (fun q _ h => hFc q h) (fun E9 ce9 q9 u t H1 locs1 ht hvm hpx hBX hz1 hk1 hS1 hcell9 hv9 hcl9 => ?_) (fun u r_1 t H1 locs1 ht hvm hw hB hz1 hk1 hS1 => ?_)
  · skip
    obtain rfl : E9 = "java/lang/IllegalStateException" := hBX
    exact vx_out (fun x hx9 => (hnt x hx9).elim) hlocks hcell9 hv9 hcl9 (fun t9 ht9 _ => ⟨(), trivial, rfl, hS1.F ht9⟩) hS1.2.2 (Nat.le_of_ble_eq_true rfl) (Nat.le_of_ble_eq_true rfl)
  · skip
    exact (hw : False).elim
def wv_f_closed : List Cond := .code yX11_closed cX11_closed 2 (some .boolean) :: ([.fieldLink RX11 59 "MotionSigns" "algebra" "LMotionSigns$Algebra;", .methodLink RX11 201 yX11_baseOf, .instanceMethod yX11_baseOf, .selects RX11 yX11_baseOf yX11_baseOf, .initialized RX11] ++ (wsX110 ++ (wv_f_baseOf ++ ([]))))
theorem gw_f_closed : wv_f_closed.all goodWord = true := by decide +kernel
theorem in_f_closed_X11 : ∀ w ∈ wsX110, w ∈ wv_f_closed := fun _ h => List.mem_cons_of_mem _ (List.mem_append_right _ (List.mem_append_left _ h))
theorem g_f_closed_f_baseOf_201 : GoodIn wv_f_closed (wsV RX11 201 RX11 yX11_baseOf wv_f_baseOf) := goodIn_app (goodIn_of _ (by decide +kernel)) (goodIn_sub (fun _ h => List.mem_cons_of_mem _ (List.mem_append_right _ (List.mem_append_right _ (List.mem_append_left _ h)))) gw_f_baseOf)
set_option maxHeartbeats 4000000 in
set_option maxRecDepth 100000 in
/-- closed on a fresh object: it throws -/
theorem c_f_closed (l : Launch) (hlt : l.stackTraces = false) (dC : Nat → ClassId) (dI : Nat → Nat → Nat) (h0 : Nat) (qC : Nat) (r_h0_algebra : Nat) (x0 : Int32) (fs_h0 : List Value) (fs_qC : List Value) (hF_h0 : mF 19 [(7, .ref qC), (8, .ref r_h0_algebra)] fs_h0) (hF_qC : mF 13 [(8, .int 0)] fs_qC) (sz : Nat) : vx_Met l yX11_closed wv_f_closed ({ frames := 8, cells := 1, slots := 6, locals := 133 }) (va_Pc [.ref h0, .int x0] (fun U => U.heap.size = sz ∧ va_P (dC, dI) vwCl [(h0, .inr (11, fs_h0)), (qC, .inr (2, fs_qC))] U.heap ∧ va_K (dC, dI) vwCl [] U ∧ va_D (fun _ => True) [(h0, .inr (11, fs_h0)), (qC, .inr (2, fs_qC))] ∧ w_N U ∧ w_T (va_A [(h0, .inr (11, fs_h0)), (qC, .inr (2, fs_qC))] sz) U U.heap)) (va_Qi (fun (r : Int32) (_ : Unit) => False) (fun _ t => va_P (dC, dI) vwCl [] t.heap ∧ va_K (dC, dI) vwCl [] t ∧ va_D (va_A [(h0, .inr (11, fs_h0)), (qC, .inr (2, fs_qC))] sz) []) (va_A [(h0, .inr (11, fs_h0)), (qC, .inr (2, fs_qC))] sz)) (vx_X (fun _ : Unit => True) (fun E _ _ => E = "java/lang/IllegalStateException") (va_A [(h0, .inr (11, fs_h0)), (qC, .inr (2, fs_qC))] sz)) 1 6 (va_A [(h0, .inr (11, fs_h0)), (qC, .inr (2, fs_qC))] sz) := by
  refine vx_ofW (cc := cX11_closed) (maxL := 2) (ret := (some .boolean)) (by decide) rfl ?_
  intro p e s m args below meth c s₁ B hml hnt hv
  obtain ⟨rfl, hsz, hP, hK, hD0, hN, hT⟩ := hv
  have hx := B.exec
  have hb := B.bytes
  have hr := B.returns
  have hts := atoms_spec (ws := wv_f_closed) B.pre
  have hown : s.vm.findClass RX11 = some m.cls := findClass_of_methodNamed B.named
  have hlocks := B.notSynchronized
  subst hsz
  have hD := hD0.self (sz := s.heap.size)
  generalize hAe : va_A [(h0, .inr (11, fs_h0)), (qC, .inr (2, fs_qC))] s.heap.size = A at hD hT ⊢
  have hA : ∀ q : Nat, s.heap.size ≤ q → A q := fun q h => by rw [← hAe]; exact Or.inr h
  obtain ⟨H, hHe, hP, hS⟩ : ∃ H : Heap, H = s.heap ∧ va_P (dC, dI) vwCl [(h0, .inr (11, fs_h0)), (qC, .inr (2, fs_qC))] H ∧ va_S A s.heap H [] := ⟨s.heap, rfl, hP, va_S.rf⟩
  have hl := lv_entry ([.ref h0, .int x0]) (n := 2) (Nat.le_of_ble_eq_true rfl)
  rw [lg_entry_eq]
  generalize (lg_sl ([.ref h0, .int x0]) ++ List.replicate (2 - (lg_sl ([.ref h0, .int x0])).length) Slot.unset).toArray = ls at hl ⊢
  have hl : lv_has ls 2 [(0, .ref h0), (1, .int x0)] := hl
  rw [← hHe]; clear hHe
  refine lv_aload_n hx hb dX11_closed_0 rfl (lv_at hl 0 rfl) ?_
  refine va_get (D := (dC, dI)) (ci := 11) (v := .ref r_h0_algebra) (C := RX11) (T := TX11) (N := 19) hx hb hts (in_f_closed_X11) hown hK hP 0 rfl rfl 8 (by decide) (hts (.fieldLink RX11 59 "MotionSigns" "algebra" "LMotionSigns$Algebra;") (List.mem_of_getElem? (i := 1) rfl)) (fun _ h9 => h9) (mF.get hF_h0 1 rfl) dX11_closed_1 ?_
  refine lv_aload_n hx hb dX11_closed_4 rfl (lv_at hl 0 rfl) ?_
  refine lv_iload_n hx hb dX11_closed_5 rfl (lv_at hl 1 rfl) ?_
  have hPc := hP.sub (ws' := [(h0, .inr (11, fs_h0)), (qC, .inr (2, fs_qC))]) [0, 1] rfl
  have hDc := hD.sub (ws' := [(h0, .inr (11, fs_h0)), (qC, .inr (2, fs_qC))]) [0, 1] (by decide) rfl
  have hKc := hK.sub (tys' := []) [] rfl
  have hFc := va_free (wc := [(h0, .inr (11, fs_h0)), (qC, .inr (2, fs_qC))]) hD hS hA [0, 1] rfl
  refine vx_callr (vx_runV (As := [.int x0]) (rest := [.ref r_h0_algebra]) ⟨hx, hb, hml, hown, hts⟩ (c_f_baseOf l hlt dC dI h0 qC x0 fs_h0 fs_qC (mF.sub hF_h0 [0] rfl) (mF.sub hF_qC [0] rfl) H.size) (cwV 1 hts g_f_closed_f_baseOf_201 rfl rfl rfl hv_X11_baseOf ⟨Nat.le_of_ble_eq_true rfl, Nat.le_of_ble_eq_true rfl⟩) ⟨fun a U g mk q => by obtain ⟨q0, q1, qP, qK, qD, qE0, qE1⟩ := q; exact ⟨q0, q1, qP, va_K.moved (u := U) (U := U.calling g mk a) (Vm.Alike.refl U.vm) qK, qD, w_N.same rfl qE0, w_T.same rfl rfl qE1⟩, va_recv hKc hPc (ci := 11) (q0 := 0) rfl rfl, fun U hU hW => ⟨rfl, by rw [hU], by rw [hU]; exact hPc, va_K.moved hW.alike hKc, hDc.weaken (fun _ _ _ _ => trivial), w_N.warm hW hN, w_T.go hT hW hS.2.1 hFc hU⟩⟩ rfl rfl hl.1 rfl (lv_room (Nat.le_of_ble_eq_true rfl)) dX11_closed_6 ⟨(Nat.le_of_ble_eq_true rfl), (Nat.le_of_ble_eq_true rfl)⟩) hS (fun q _ h => hFc q h) hFc (fun q _ h => hFc q h) (fun E9 ce9 q9 u t H1 locs1 ht hvm hpx hBX hz1 hk1 hS1 hcell9 hv9 hcl9 => ?_) (fun u r_1 t H1 locs1 ht hvm hw hB hz1 hk1 hS1 => ?_)
  · skip
    obtain rfl : E9 = "java/lang/IllegalStateException" := hBX
    exact vx_out (fun x hx9 => (hnt x hx9).elim) hlocks hcell9 hv9 hcl9 (fun t9 ht9 _ => ⟨(), trivial, rfl, hS1.F ht9⟩) hS1.2.2 (Nat.le_of_ble_eq_true rfl) (Nat.le_of_ble_eq_true rfl)
  · skip
    exact (hw : False).elim
def wv_f_constant : List Cond := .code yX11_constant cX11_constant 7 (some .long) :: ([.methodLink RX11 201 yX11_baseOf, .instanceMethod yX11_baseOf, .selects RX11 yX11_baseOf yX11_baseOf, .initialized RX11] ++ (wv_f_baseOf ++ ([])))
theorem gw_f_constant : wv_f_constant.all goodWord = true := by decide +kernel
theorem g_f_constant_f_baseOf_201 : GoodIn wv_f_constant (wsV RX11 201 RX11 yX11_baseOf wv_f_baseOf) := goodIn_app (goodIn_of _ (by decide +kernel)) (goodIn_sub (fun _ h => List.mem_cons_of_mem _ (List.mem_append_right _ (List.mem_append_left _ h))) gw_f_baseOf)
set_option maxHeartbeats 4000000 in
set_option maxRecDepth 100000 in
/-- constant on a fresh object: it throws -/
theorem c_f_constant (l : Launch) (hlt : l.stackTraces = false) (dC : Nat → ClassId) (dI : Nat → Nat → Nat) (h0 : Nat) (qC : Nat) (x0 : Int32) (x1 : Int32) (x2 : Int32) (x3 : Int32) (x4 : Int32) (fs_h0 : List Value) (fs_qC : List Value) (hF_h0 : mF 19 [(7, .ref qC)] fs_h0) (hF_qC : mF 13 [(8, .int 0)] fs_qC) (sz : Nat) : vx_Met l yX11_constant wv_f_constant ({ frames := 8, cells := 1, slots := 6, locals := 133 }) (va_Pc [.ref h0, .int x0, .int x1, .int x2, .int x3, .int x4] (fun U => U.heap.size = sz ∧ va_P (dC, dI) vwCl [(h0, .inr (11, fs_h0)), (qC, .inr (2, fs_qC))] U.heap ∧ va_K (dC, dI) vwCl [] U ∧ va_D (fun _ => True) [(h0, .inr (11, fs_h0)), (qC, .inr (2, fs_qC))] ∧ w_N U ∧ w_T (va_A [(h0, .inr (11, fs_h0)), (qC, .inr (2, fs_qC))] sz) U U.heap)) (va_Ql (fun (r : Int64) (_ : Unit) => False) (fun _ t => va_P (dC, dI) vwCl [] t.heap ∧ va_K (dC, dI) vwCl [] t ∧ va_D (va_A [(h0, .inr (11, fs_h0)), (qC, .inr (2, fs_qC))] sz) []) (va_A [(h0, .inr (11, fs_h0)), (qC, .inr (2, fs_qC))] sz)) (vx_X (fun _ : Unit => True) (fun E _ _ => E = "java/lang/IllegalStateException") (va_A [(h0, .inr (11, fs_h0)), (qC, .inr (2, fs_qC))] sz)) 1 6 (va_A [(h0, .inr (11, fs_h0)), (qC, .inr (2, fs_qC))] sz) := by
  refine vx_ofW (cc := cX11_constant) (maxL := 7) (ret := (some .long)) (by decide) rfl ?_
  intro p e s m args below meth c s₁ B hml hnt hv
  obtain ⟨rfl, hsz, hP, hK, hD0, hN, hT⟩ := hv
  have hx := B.exec
  have hb := B.bytes
  have hr := B.returns
  have hts := atoms_spec (ws := wv_f_constant) B.pre
  have hown : s.vm.findClass RX11 = some m.cls := findClass_of_methodNamed B.named
  have hlocks := B.notSynchronized
  subst hsz
  have hD := hD0.self (sz := s.heap.size)
  generalize hAe : va_A [(h0, .inr (11, fs_h0)), (qC, .inr (2, fs_qC))] s.heap.size = A at hD hT ⊢
  have hA : ∀ q : Nat, s.heap.size ≤ q → A q := fun q h => by rw [← hAe]; exact Or.inr h
  obtain ⟨H, hHe, hP, hS⟩ : ∃ H : Heap, H = s.heap ∧ va_P (dC, dI) vwCl [(h0, .inr (11, fs_h0)), (qC, .inr (2, fs_qC))] H ∧ va_S A s.heap H [] := ⟨s.heap, rfl, hP, va_S.rf⟩
  have hl := lv_entry ([.ref h0, .int x0, .int x1, .int x2, .int x3, .int x4]) (n := 7) (Nat.le_of_ble_eq_true rfl)
  rw [lg_entry_eq]
  generalize (lg_sl ([.ref h0, .int x0, .int x1, .int x2, .int x3, .int x4]) ++ List.replicate (7 - (lg_sl ([.ref h0, .int x0, .int x1, .int x2, .int x3, .int x4])).length) Slot.unset).toArray = ls at hl ⊢
  have hl : lv_has ls 7 [(0, .ref h0), (1, .int x0), (2, .int x1), (3, .int x2), (4, .int x3), (5, .int x4)] := hl
  rw [← hHe]; clear hHe
  refine lv_aload_n hx hb dX11_constant_0 rfl (lv_at hl 0 rfl) ?_
  refine lv_iload_n hx hb dX11_constant_1 rfl (lv_at hl 1 rfl) ?_
  have hPc := hP.sub (ws' := [(h0, .inr (11, fs_h0)), (qC, .inr (2, fs_qC))]) [0, 1] rfl
  have hDc := hD.sub (ws' := [(h0, .inr (11, fs_h0)), (qC, .inr (2, fs_qC))]) [0, 1] (by decide) rfl
  have hKc := hK.sub (tys' := []) [] rfl
  have hFc := va_free (wc := [(h0, .inr (11, fs_h0)), (qC, .inr (2, fs_qC))]) hD hS hA [0, 1] rfl
  refine vx_callr (vx_runV (As := [.int x0]) (rest := []) ⟨hx, hb, hml, hown, hts⟩ (c_f_baseOf l hlt dC dI h0 qC x0 fs_h0 fs_qC (mF.sub hF_h0 [0] rfl) (mF.sub hF_qC [0] rfl) H.size) (cwV 1 hts g_f_constant_f_baseOf_201 rfl rfl rfl hv_X11_baseOf ⟨Nat.le_of_ble_eq_true rfl, Nat.le_of_ble_eq_true rfl⟩) ⟨fun a U g mk q => by obtain ⟨q0, q1, qP, qK, qD, qE0, qE1⟩ := q; exact ⟨q0, q1, qP, va_K.moved (u := U) (U := U.calling g mk a) (Vm.Alike.refl U.vm) qK, qD, w_N.same rfl qE0, w_T.same rfl rfl qE1⟩, va_recv hKc hPc (ci := 11) (q0 := 0) rfl rfl, fun U hU hW => ⟨rfl, by rw [hU], by rw [hU]; exact hPc, va_K.moved hW.alike hKc, hDc.weaken (fun _ _ _ _ => trivial), w_N.warm hW hN, w_T.go hT hW hS.2.1 hFc hU⟩⟩ rfl rfl hl.1 rfl (lv_room (Nat.le_of_ble_eq_true rfl)) dX11_constant_2 ⟨(Nat.le_of_ble_eq_true rfl), (Nat.le_of_ble_eq_true rfl)⟩) hS (fun q _ h => hFc q h) hFc (fun q _ h => hFc q h) (fun E9 ce9 q9 u t H1 locs1 ht hvm hpx hBX hz1 hk1 hS1 hcell9 hv9 hcl9 => ?_) (fun u r_1 t H1 locs1 ht hvm hw hB hz1 hk1 hS1 => ?_)
  · skip
    obtain rfl : E9 = "java/lang/IllegalStateException" := hBX
    exact vx_out (fun x hx9 => (hnt x hx9).elim) hlocks hcell9 hv9 hcl9 (fun t9 ht9 _ => ⟨(), trivial, rfl, hS1.F ht9⟩) hS1.2.2 (Nat.le_of_ble_eq_true rfl) (Nat.le_of_ble_eq_true rfl)
  · skip
    exact (hw : False).elim
def wv_f_kind : List Cond := .code yX11_kind cX11_kind 4 (some .int) :: ([.methodLink RX11 201 yX11_baseOf, .instanceMethod yX11_baseOf, .selects RX11 yX11_baseOf yX11_baseOf, .initialized RX11] ++ (wv_f_baseOf ++ ([])))
theorem gw_f_kind : wv_f_kind.all goodWord = true := by decide +kernel
theorem g_f_kind_f_baseOf_201 : GoodIn wv_f_kind (wsV RX11 201 RX11 yX11_baseOf wv_f_baseOf) := goodIn_app (goodIn_of _ (by decide +kernel)) (goodIn_sub (fun _ h => List.mem_cons_of_mem _ (List.mem_append_right _ (List.mem_append_left _ h))) gw_f_baseOf)
set_option maxHeartbeats 4000000 in
set_option maxRecDepth 100000 in
/-- kind on a fresh object: it throws -/
theorem c_f_kind (l : Launch) (hlt : l.stackTraces = false) (dC : Nat → ClassId) (dI : Nat → Nat → Nat) (h0 : Nat) (qC : Nat) (x0 : Int32) (x1 : Int32) (fs_h0 : List Value) (fs_qC : List Value) (hF_h0 : mF 19 [(7, .ref qC)] fs_h0) (hF_qC : mF 13 [(8, .int 0)] fs_qC) (sz : Nat) : vx_Met l yX11_kind wv_f_kind ({ frames := 8, cells := 1, slots := 6, locals := 133 }) (va_Pc [.ref h0, .int x0, .int x1] (fun U => U.heap.size = sz ∧ va_P (dC, dI) vwCl [(h0, .inr (11, fs_h0)), (qC, .inr (2, fs_qC))] U.heap ∧ va_K (dC, dI) vwCl [] U ∧ va_D (fun _ => True) [(h0, .inr (11, fs_h0)), (qC, .inr (2, fs_qC))] ∧ w_N U ∧ w_T (va_A [(h0, .inr (11, fs_h0)), (qC, .inr (2, fs_qC))] sz) U U.heap)) (va_Qi (fun (r : Int32) (_ : Unit) => False) (fun _ t => va_P (dC, dI) vwCl [] t.heap ∧ va_K (dC, dI) vwCl [] t ∧ va_D (va_A [(h0, .inr (11, fs_h0)), (qC, .inr (2, fs_qC))] sz) []) (va_A [(h0, .inr (11, fs_h0)), (qC, .inr (2, fs_qC))] sz)) (vx_X (fun _ : Unit => True) (fun E _ _ => E = "java/lang/IllegalStateException") (va_A [(h0, .inr (11, fs_h0)), (qC, .inr (2, fs_qC))] sz)) 1 6 (va_A [(h0, .inr (11, fs_h0)), (qC, .inr (2, fs_qC))] sz) := by
  refine vx_ofW (cc := cX11_kind) (maxL := 4) (ret := (some .int)) (by decide) rfl ?_
  intro p e s m args below meth c s₁ B hml hnt hv
  obtain ⟨rfl, hsz, hP, hK, hD0, hN, hT⟩ := hv
  have hx := B.exec
  have hb := B.bytes
  have hr := B.returns
  have hts := atoms_spec (ws := wv_f_kind) B.pre
  have hown : s.vm.findClass RX11 = some m.cls := findClass_of_methodNamed B.named
  have hlocks := B.notSynchronized
  subst hsz
  have hD := hD0.self (sz := s.heap.size)
  generalize hAe : va_A [(h0, .inr (11, fs_h0)), (qC, .inr (2, fs_qC))] s.heap.size = A at hD hT ⊢
  have hA : ∀ q : Nat, s.heap.size ≤ q → A q := fun q h => by rw [← hAe]; exact Or.inr h
  obtain ⟨H, hHe, hP, hS⟩ : ∃ H : Heap, H = s.heap ∧ va_P (dC, dI) vwCl [(h0, .inr (11, fs_h0)), (qC, .inr (2, fs_qC))] H ∧ va_S A s.heap H [] := ⟨s.heap, rfl, hP, va_S.rf⟩
  have hl := lv_entry ([.ref h0, .int x0, .int x1]) (n := 4) (Nat.le_of_ble_eq_true rfl)
  rw [lg_entry_eq]
  generalize (lg_sl ([.ref h0, .int x0, .int x1]) ++ List.replicate (4 - (lg_sl ([.ref h0, .int x0, .int x1])).length) Slot.unset).toArray = ls at hl ⊢
  have hl : lv_has ls 4 [(0, .ref h0), (1, .int x0), (2, .int x1)] := hl
  rw [← hHe]; clear hHe
  refine lv_aload_n hx hb dX11_kind_0 rfl (lv_at hl 0 rfl) ?_
  refine lv_iload_n hx hb dX11_kind_1 rfl (lv_at hl 1 rfl) ?_
  have hPc := hP.sub (ws' := [(h0, .inr (11, fs_h0)), (qC, .inr (2, fs_qC))]) [0, 1] rfl
  have hDc := hD.sub (ws' := [(h0, .inr (11, fs_h0)), (qC, .inr (2, fs_qC))]) [0, 1] (by decide) rfl
  have hKc := hK.sub (tys' := []) [] rfl
  have hFc := va_free (wc := [(h0, .inr (11, fs_h0)), (qC, .inr (2, fs_qC))]) hD hS hA [0, 1] rfl
  refine vx_callr (vx_runV (As := [.int x0]) (rest := []) ⟨hx, hb, hml, hown, hts⟩ (c_f_baseOf l hlt dC dI h0 qC x0 fs_h0 fs_qC (mF.sub hF_h0 [0] rfl) (mF.sub hF_qC [0] rfl) H.size) (cwV 1 hts g_f_kind_f_baseOf_201 rfl rfl rfl hv_X11_baseOf ⟨Nat.le_of_ble_eq_true rfl, Nat.le_of_ble_eq_true rfl⟩) ⟨fun a U g mk q => by obtain ⟨q0, q1, qP, qK, qD, qE0, qE1⟩ := q; exact ⟨q0, q1, qP, va_K.moved (u := U) (U := U.calling g mk a) (Vm.Alike.refl U.vm) qK, qD, w_N.same rfl qE0, w_T.same rfl rfl qE1⟩, va_recv hKc hPc (ci := 11) (q0 := 0) rfl rfl, fun U hU hW => ⟨rfl, by rw [hU], by rw [hU]; exact hPc, va_K.moved hW.alike hKc, hDc.weaken (fun _ _ _ _ => trivial), w_N.warm hW hN, w_T.go hT hW hS.2.1 hFc hU⟩⟩ rfl rfl hl.1 rfl (lv_room (Nat.le_of_ble_eq_true rfl)) dX11_kind_2 ⟨(Nat.le_of_ble_eq_true rfl), (Nat.le_of_ble_eq_true rfl)⟩) hS (fun q _ h => hFc q h) hFc (fun q _ h => hFc q h) (fun E9 ce9 q9 u t H1 locs1 ht hvm hpx hBX hz1 hk1 hS1 hcell9 hv9 hcl9 => ?_) (fun u r_1 t H1 locs1 ht hvm hw hB hz1 hk1 hS1 => ?_)
  · skip
    obtain rfl : E9 = "java/lang/IllegalStateException" := hBX
    exact vx_out (fun x hx9 => (hnt x hx9).elim) hlocks hcell9 hv9 hcl9 (fun t9 ht9 _ => ⟨(), trivial, rfl, hS1.F ht9⟩) hS1.2.2 (Nat.le_of_ble_eq_true rfl) (Nat.le_of_ble_eq_true rfl)
  · skip
    exact (hw : False).elim
def wv_f_steps : List Cond := .code yX11_steps cX11_steps 5 (some .int) :: ([.methodLink RX11 201 yX11_baseOf, .instanceMethod yX11_baseOf, .selects RX11 yX11_baseOf yX11_baseOf, .initialized RX11] ++ (wv_f_baseOf ++ ([])))
theorem gw_f_steps : wv_f_steps.all goodWord = true := by decide +kernel
theorem g_f_steps_f_baseOf_201 : GoodIn wv_f_steps (wsV RX11 201 RX11 yX11_baseOf wv_f_baseOf) := goodIn_app (goodIn_of _ (by decide +kernel)) (goodIn_sub (fun _ h => List.mem_cons_of_mem _ (List.mem_append_right _ (List.mem_append_left _ h))) gw_f_baseOf)
set_option maxHeartbeats 4000000 in
set_option maxRecDepth 100000 in
/-- steps on a fresh object: it throws -/
theorem c_f_steps (l : Launch) (hlt : l.stackTraces = false) (dC : Nat → ClassId) (dI : Nat → Nat → Nat) (h0 : Nat) (qC : Nat) (x0 : Int32) (x1 : Int32) (x2 : Int32) (fs_h0 : List Value) (fs_qC : List Value) (hF_h0 : mF 19 [(7, .ref qC)] fs_h0) (hF_qC : mF 13 [(8, .int 0)] fs_qC) (sz : Nat) : vx_Met l yX11_steps wv_f_steps ({ frames := 8, cells := 1, slots := 6, locals := 133 }) (va_Pc [.ref h0, .int x0, .int x1, .int x2] (fun U => U.heap.size = sz ∧ va_P (dC, dI) vwCl [(h0, .inr (11, fs_h0)), (qC, .inr (2, fs_qC))] U.heap ∧ va_K (dC, dI) vwCl [] U ∧ va_D (fun _ => True) [(h0, .inr (11, fs_h0)), (qC, .inr (2, fs_qC))] ∧ w_N U ∧ w_T (va_A [(h0, .inr (11, fs_h0)), (qC, .inr (2, fs_qC))] sz) U U.heap)) (va_Qi (fun (r : Int32) (_ : Unit) => False) (fun _ t => va_P (dC, dI) vwCl [] t.heap ∧ va_K (dC, dI) vwCl [] t ∧ va_D (va_A [(h0, .inr (11, fs_h0)), (qC, .inr (2, fs_qC))] sz) []) (va_A [(h0, .inr (11, fs_h0)), (qC, .inr (2, fs_qC))] sz)) (vx_X (fun _ : Unit => True) (fun E _ _ => E = "java/lang/IllegalStateException") (va_A [(h0, .inr (11, fs_h0)), (qC, .inr (2, fs_qC))] sz)) 1 6 (va_A [(h0, .inr (11, fs_h0)), (qC, .inr (2, fs_qC))] sz) := by
  refine vx_ofW (cc := cX11_steps) (maxL := 5) (ret := (some .int)) (by decide) rfl ?_
  intro p e s m args below meth c s₁ B hml hnt hv
  obtain ⟨rfl, hsz, hP, hK, hD0, hN, hT⟩ := hv
  have hx := B.exec
  have hb := B.bytes
  have hr := B.returns
  have hts := atoms_spec (ws := wv_f_steps) B.pre
  have hown : s.vm.findClass RX11 = some m.cls := findClass_of_methodNamed B.named
  have hlocks := B.notSynchronized
  subst hsz
  have hD := hD0.self (sz := s.heap.size)
  generalize hAe : va_A [(h0, .inr (11, fs_h0)), (qC, .inr (2, fs_qC))] s.heap.size = A at hD hT ⊢
  have hA : ∀ q : Nat, s.heap.size ≤ q → A q := fun q h => by rw [← hAe]; exact Or.inr h
  obtain ⟨H, hHe, hP, hS⟩ : ∃ H : Heap, H = s.heap ∧ va_P (dC, dI) vwCl [(h0, .inr (11, fs_h0)), (qC, .inr (2, fs_qC))] H ∧ va_S A s.heap H [] := ⟨s.heap, rfl, hP, va_S.rf⟩
  have hl := lv_entry ([.ref h0, .int x0, .int x1, .int x2]) (n := 5) (Nat.le_of_ble_eq_true rfl)
  rw [lg_entry_eq]
  generalize (lg_sl ([.ref h0, .int x0, .int x1, .int x2]) ++ List.replicate (5 - (lg_sl ([.ref h0, .int x0, .int x1, .int x2])).length) Slot.unset).toArray = ls at hl ⊢
  have hl : lv_has ls 5 [(0, .ref h0), (1, .int x0), (2, .int x1), (3, .int x2)] := hl
  rw [← hHe]; clear hHe
  refine lv_aload_n hx hb dX11_steps_0 rfl (lv_at hl 0 rfl) ?_
  refine lv_iload_n hx hb dX11_steps_1 rfl (lv_at hl 1 rfl) ?_
  have hPc := hP.sub (ws' := [(h0, .inr (11, fs_h0)), (qC, .inr (2, fs_qC))]) [0, 1] rfl
  have hDc := hD.sub (ws' := [(h0, .inr (11, fs_h0)), (qC, .inr (2, fs_qC))]) [0, 1] (by decide) rfl
  have hKc := hK.sub (tys' := []) [] rfl
  have hFc := va_free (wc := [(h0, .inr (11, fs_h0)), (qC, .inr (2, fs_qC))]) hD hS hA [0, 1] rfl
  refine vx_callr (vx_runV (As := [.int x0]) (rest := []) ⟨hx, hb, hml, hown, hts⟩ (c_f_baseOf l hlt dC dI h0 qC x0 fs_h0 fs_qC (mF.sub hF_h0 [0] rfl) (mF.sub hF_qC [0] rfl) H.size) (cwV 1 hts g_f_steps_f_baseOf_201 rfl rfl rfl hv_X11_baseOf ⟨Nat.le_of_ble_eq_true rfl, Nat.le_of_ble_eq_true rfl⟩) ⟨fun a U g mk q => by obtain ⟨q0, q1, qP, qK, qD, qE0, qE1⟩ := q; exact ⟨q0, q1, qP, va_K.moved (u := U) (U := U.calling g mk a) (Vm.Alike.refl U.vm) qK, qD, w_N.same rfl qE0, w_T.same rfl rfl qE1⟩, va_recv hKc hPc (ci := 11) (q0 := 0) rfl rfl, fun U hU hW => ⟨rfl, by rw [hU], by rw [hU]; exact hPc, va_K.moved hW.alike hKc, hDc.weaken (fun _ _ _ _ => trivial), w_N.warm hW hN, w_T.go hT hW hS.2.1 hFc hU⟩⟩ rfl rfl hl.1 rfl (lv_room (Nat.le_of_ble_eq_true rfl)) dX11_steps_2 ⟨(Nat.le_of_ble_eq_true rfl), (Nat.le_of_ble_eq_true rfl)⟩) hS (fun q _ h => hFc q h) hFc (fun q _ h => hFc q h) (fun E9 ce9 q9 u t H1 locs1 ht hvm hpx hBX hz1 hk1 hS1 hcell9 hv9 hcl9 => ?_) (fun u r_1 t H1 locs1 ht hvm hw hB hz1 hk1 hS1 => ?_)
  · skip
    obtain rfl : E9 = "java/lang/IllegalStateException" := hBX
    exact vx_out (fun x hx9 => (hnt x hx9).elim) hlocks hcell9 hv9 hcl9 (fun t9 ht9 _ => ⟨(), trivial, rfl, hS1.F ht9⟩) hS1.2.2 (Nat.le_of_ble_eq_true rfl) (Nat.le_of_ble_eq_true rfl)
  · skip
    exact (hw : False).elim
def wv_f_bracket : List Cond := .code yX11_bracket cX11_bracket 5 (some .int) :: ([.methodLink RX11 201 yX11_baseOf, .instanceMethod yX11_baseOf, .selects RX11 yX11_baseOf yX11_baseOf, .initialized RX11] ++ (wv_f_baseOf ++ ([])))
theorem gw_f_bracket : wv_f_bracket.all goodWord = true := by decide +kernel
theorem g_f_bracket_f_baseOf_201 : GoodIn wv_f_bracket (wsV RX11 201 RX11 yX11_baseOf wv_f_baseOf) := goodIn_app (goodIn_of _ (by decide +kernel)) (goodIn_sub (fun _ h => List.mem_cons_of_mem _ (List.mem_append_right _ (List.mem_append_left _ h))) gw_f_baseOf)
set_option maxHeartbeats 4000000 in
set_option maxRecDepth 100000 in
/-- bracket on a fresh object: it throws -/
theorem c_f_bracket (l : Launch) (hlt : l.stackTraces = false) (dC : Nat → ClassId) (dI : Nat → Nat → Nat) (h0 : Nat) (qC : Nat) (x0 : Int32) (x1 : Int32) (x2 : Int32) (fs_h0 : List Value) (fs_qC : List Value) (hF_h0 : mF 19 [(7, .ref qC)] fs_h0) (hF_qC : mF 13 [(8, .int 0)] fs_qC) (sz : Nat) : vx_Met l yX11_bracket wv_f_bracket ({ frames := 8, cells := 1, slots := 6, locals := 133 }) (va_Pc [.ref h0, .int x0, .int x1, .int x2] (fun U => U.heap.size = sz ∧ va_P (dC, dI) vwCl [(h0, .inr (11, fs_h0)), (qC, .inr (2, fs_qC))] U.heap ∧ va_K (dC, dI) vwCl [] U ∧ va_D (fun _ => True) [(h0, .inr (11, fs_h0)), (qC, .inr (2, fs_qC))] ∧ w_N U ∧ w_T (va_A [(h0, .inr (11, fs_h0)), (qC, .inr (2, fs_qC))] sz) U U.heap)) (va_Qi (fun (r : Int32) (_ : Unit) => False) (fun _ t => va_P (dC, dI) vwCl [] t.heap ∧ va_K (dC, dI) vwCl [] t ∧ va_D (va_A [(h0, .inr (11, fs_h0)), (qC, .inr (2, fs_qC))] sz) []) (va_A [(h0, .inr (11, fs_h0)), (qC, .inr (2, fs_qC))] sz)) (vx_X (fun _ : Unit => True) (fun E _ _ => E = "java/lang/IllegalStateException") (va_A [(h0, .inr (11, fs_h0)), (qC, .inr (2, fs_qC))] sz)) 1 6 (va_A [(h0, .inr (11, fs_h0)), (qC, .inr (2, fs_qC))] sz) := by
  refine vx_ofW (cc := cX11_bracket) (maxL := 5) (ret := (some .int)) (by decide) rfl ?_
  intro p e s m args below meth c s₁ B hml hnt hv
  obtain ⟨rfl, hsz, hP, hK, hD0, hN, hT⟩ := hv
  have hx := B.exec
  have hb := B.bytes
  have hr := B.returns
  have hts := atoms_spec (ws := wv_f_bracket) B.pre
  have hown : s.vm.findClass RX11 = some m.cls := findClass_of_methodNamed B.named
  have hlocks := B.notSynchronized
  subst hsz
  have hD := hD0.self (sz := s.heap.size)
  generalize hAe : va_A [(h0, .inr (11, fs_h0)), (qC, .inr (2, fs_qC))] s.heap.size = A at hD hT ⊢
  have hA : ∀ q : Nat, s.heap.size ≤ q → A q := fun q h => by rw [← hAe]; exact Or.inr h
  obtain ⟨H, hHe, hP, hS⟩ : ∃ H : Heap, H = s.heap ∧ va_P (dC, dI) vwCl [(h0, .inr (11, fs_h0)), (qC, .inr (2, fs_qC))] H ∧ va_S A s.heap H [] := ⟨s.heap, rfl, hP, va_S.rf⟩
  have hl := lv_entry ([.ref h0, .int x0, .int x1, .int x2]) (n := 5) (Nat.le_of_ble_eq_true rfl)
  rw [lg_entry_eq]
  generalize (lg_sl ([.ref h0, .int x0, .int x1, .int x2]) ++ List.replicate (5 - (lg_sl ([.ref h0, .int x0, .int x1, .int x2])).length) Slot.unset).toArray = ls at hl ⊢
  have hl : lv_has ls 5 [(0, .ref h0), (1, .int x0), (2, .int x1), (3, .int x2)] := hl
  rw [← hHe]; clear hHe
  refine lv_aload_n hx hb dX11_bracket_0 rfl (lv_at hl 0 rfl) ?_
  refine lv_iload_n hx hb dX11_bracket_1 rfl (lv_at hl 1 rfl) ?_
  have hPc := hP.sub (ws' := [(h0, .inr (11, fs_h0)), (qC, .inr (2, fs_qC))]) [0, 1] rfl
  have hDc := hD.sub (ws' := [(h0, .inr (11, fs_h0)), (qC, .inr (2, fs_qC))]) [0, 1] (by decide) rfl
  have hKc := hK.sub (tys' := []) [] rfl
  have hFc := va_free (wc := [(h0, .inr (11, fs_h0)), (qC, .inr (2, fs_qC))]) hD hS hA [0, 1] rfl
  refine vx_callr (vx_runV (As := [.int x0]) (rest := []) ⟨hx, hb, hml, hown, hts⟩ (c_f_baseOf l hlt dC dI h0 qC x0 fs_h0 fs_qC (mF.sub hF_h0 [0] rfl) (mF.sub hF_qC [0] rfl) H.size) (cwV 1 hts g_f_bracket_f_baseOf_201 rfl rfl rfl hv_X11_baseOf ⟨Nat.le_of_ble_eq_true rfl, Nat.le_of_ble_eq_true rfl⟩) ⟨fun a U g mk q => by obtain ⟨q0, q1, qP, qK, qD, qE0, qE1⟩ := q; exact ⟨q0, q1, qP, va_K.moved (u := U) (U := U.calling g mk a) (Vm.Alike.refl U.vm) qK, qD, w_N.same rfl qE0, w_T.same rfl rfl qE1⟩, va_recv hKc hPc (ci := 11) (q0 := 0) rfl rfl, fun U hU hW => ⟨rfl, by rw [hU], by rw [hU]; exact hPc, va_K.moved hW.alike hKc, hDc.weaken (fun _ _ _ _ => trivial), w_N.warm hW hN, w_T.go hT hW hS.2.1 hFc hU⟩⟩ rfl rfl hl.1 rfl (lv_room (Nat.le_of_ble_eq_true rfl)) dX11_bracket_2 ⟨(Nat.le_of_ble_eq_true rfl), (Nat.le_of_ble_eq_true rfl)⟩) hS (fun q _ h => hFc q h) hFc (fun q _ h => hFc q h) (fun E9 ce9 q9 u t H1 locs1 ht hvm hpx hBX hz1 hk1 hS1 hcell9 hv9 hcl9 => ?_) (fun u r_1 t H1 locs1 ht hvm hw hB hz1 hk1 hS1 => ?_)
  · skip
    obtain rfl : E9 = "java/lang/IllegalStateException" := hBX
    exact vx_out (fun x hx9 => (hnt x hx9).elim) hlocks hcell9 hv9 hcl9 (fun t9 ht9 _ => ⟨(), trivial, rfl, hS1.F ht9⟩) hS1.2.2 (Nat.le_of_ble_eq_true rfl) (Nat.le_of_ble_eq_true rfl)
  · skip
    exact (hw : False).elim
def wv_f_stretches : List Cond := .code yX11_stretches cX11_stretches 1 (some .int) :: ([.methodLink RX11 159 yX11_needEquation, .instanceMethod yX11_needEquation, .selects RX11 yX11_needEquation yX11_needEquation, .initialized RX11] ++ (wv_f_needEquation ++ ([])))
theorem gw_f_stretches : wv_f_stretches.all goodWord = true := by decide +kernel
theorem g_f_stretches_f_needEquation_159 : GoodIn wv_f_stretches (wsV RX11 159 RX11 yX11_needEquation wv_f_needEquation) := goodIn_app (goodIn_of _ (by decide +kernel)) (goodIn_sub (fun _ h => List.mem_cons_of_mem _ (List.mem_append_right _ (List.mem_append_left _ h))) gw_f_needEquation)
set_option maxHeartbeats 4000000 in
set_option maxRecDepth 100000 in
/-- stretches on a fresh object: it throws -/
theorem c_f_stretches (l : Launch) (hlt : l.stackTraces = false) (dC : Nat → ClassId) (dI : Nat → Nat → Nat) (h0 : Nat) (qC : Nat) (fs_h0 : List Value) (fs_qC : List Value) (hF_h0 : mF 19 [(7, .ref qC)] fs_h0) (hF_qC : mF 13 [(8, .int 0)] fs_qC) (sz : Nat) : vx_Met l yX11_stretches wv_f_stretches ({ frames := 7, cells := 1, slots := 6, locals := 110 }) (va_Pc [.ref h0] (fun U => U.heap.size = sz ∧ va_P (dC, dI) vwCl [(h0, .inr (11, fs_h0)), (qC, .inr (2, fs_qC))] U.heap ∧ va_K (dC, dI) vwCl [] U ∧ va_D (fun _ => True) [(h0, .inr (11, fs_h0)), (qC, .inr (2, fs_qC))] ∧ w_N U ∧ w_T (va_A [(h0, .inr (11, fs_h0)), (qC, .inr (2, fs_qC))] sz) U U.heap)) (va_Qi (fun (r : Int32) (_ : Unit) => False) (fun _ t => va_P (dC, dI) vwCl [] t.heap ∧ va_K (dC, dI) vwCl [] t ∧ va_D (va_A [(h0, .inr (11, fs_h0)), (qC, .inr (2, fs_qC))] sz) []) (va_A [(h0, .inr (11, fs_h0)), (qC, .inr (2, fs_qC))] sz)) (vx_X (fun _ : Unit => True) (fun E _ _ => E = "java/lang/IllegalStateException") (va_A [(h0, .inr (11, fs_h0)), (qC, .inr (2, fs_qC))] sz)) 1 6 (va_A [(h0, .inr (11, fs_h0)), (qC, .inr (2, fs_qC))] sz) := by
  refine vx_ofW (cc := cX11_stretches) (maxL := 1) (ret := (some .int)) (by decide) rfl ?_
  intro p e s m args below meth c s₁ B hml hnt hv
  obtain ⟨rfl, hsz, hP, hK, hD0, hN, hT⟩ := hv
  have hx := B.exec
  have hb := B.bytes
  have hr := B.returns
  have hts := atoms_spec (ws := wv_f_stretches) B.pre
  have hown : s.vm.findClass RX11 = some m.cls := findClass_of_methodNamed B.named
  have hlocks := B.notSynchronized
  subst hsz
  have hD := hD0.self (sz := s.heap.size)
  generalize hAe : va_A [(h0, .inr (11, fs_h0)), (qC, .inr (2, fs_qC))] s.heap.size = A at hD hT ⊢
  have hA : ∀ q : Nat, s.heap.size ≤ q → A q := fun q h => by rw [← hAe]; exact Or.inr h
  obtain ⟨H, hHe, hP, hS⟩ : ∃ H : Heap, H = s.heap ∧ va_P (dC, dI) vwCl [(h0, .inr (11, fs_h0)), (qC, .inr (2, fs_qC))] H ∧ va_S A s.heap H [] := ⟨s.heap, rfl, hP, va_S.rf⟩
  have hl := lv_entry ([.ref h0]) (n := 1) (Nat.le_of_ble_eq_true rfl)
  rw [lg_entry_eq]
  generalize (lg_sl ([.ref h0]) ++ List.replicate (1 - (lg_sl ([.ref h0])).length) Slot.unset).toArray = ls at hl ⊢
  have hl : lv_has ls 1 [(0, .ref h0)] := hl
  rw [← hHe]; clear hHe
  refine lv_aload_n hx hb dX11_stretches_0 rfl (lv_at hl 0 rfl) ?_
  have hPc := hP.sub (ws' := [(h0, .inr (11, fs_h0)), (qC, .inr (2, fs_qC))]) [0, 1] rfl
  have hDc := hD.sub (ws' := [(h0, .inr (11, fs_h0)), (qC, .inr (2, fs_qC))]) [0, 1] (by decide) rfl
  have hKc := hK.sub (tys' := []) [] rfl
  have hFc := va_free (wc := [(h0, .inr (11, fs_h0)), (qC, .inr (2, fs_qC))]) hD hS hA [0, 1] rfl
  refine vx_callv (vx_runV (As := []) (rest := []) ⟨hx, hb, hml, hown, hts⟩ (c_f_needEquation l hlt dC dI h0 qC fs_h0 fs_qC (mF.sub hF_h0 [0] rfl) (mF.sub hF_qC [0] rfl) H.size) (cwV 0 hts g_f_stretches_f_needEquation_159 rfl rfl rfl hv_X11_needEquation ⟨Nat.le_of_ble_eq_true rfl, Nat.le_of_ble_eq_true rfl⟩) ⟨fun a U g mk q => by obtain ⟨q0, q1, qP, qK, qD, qE0, qE1⟩ := q; exact ⟨q0, q1, qP, va_K.moved (u := U) (U := U.calling g mk a) (Vm.Alike.refl U.vm) qK, qD, w_N.same rfl qE0, w_T.same rfl rfl qE1⟩, va_recv hKc hPc (ci := 11) (q0 := 0) rfl rfl, fun U hU hW => ⟨rfl, by rw [hU], by rw [hU]; exact hPc, va_K.moved hW.alike hKc, hDc.weaken (fun _ _ _ _ => trivial), w_N.warm hW hN, w_T.go hT hW hS.2.1 hFc hU⟩⟩ rfl rfl hl.1 rfl (lv_room (Nat.le_of_ble_eq_true rfl)) dX11_stretches_1 ⟨(Nat.le_of_ble_eq_true rfl), (Nat.le_of_ble_eq_true rfl)⟩) hS (fun q _ h => hFc q h) hFc (fun q _ h => hFc q h) (fun E9 ce9 q9 u t H1 locs1 ht hvm hpx hBX hz1 hk1 hS1 hcell9 hv9 hcl9 => ?_) (fun u t H1 locs1 ht hvm hw hB hz1 hk1 hS1 => ?_)
  · skip
    obtain rfl : E9 = "java/lang/IllegalStateException" := hBX
    exact vx_out (fun x hx9 => (hnt x hx9).elim) hlocks hcell9 hv9 hcl9 (fun t9 ht9 _ => ⟨(), trivial, rfl, hS1.F ht9⟩) hS1.2.2 (Nat.le_of_ble_eq_true rfl) (Nat.le_of_ble_eq_true rfl)
  · skip
    exact (hw : False).elim
def wv_f_stretch : List Cond := .code yX11_stretch cX11_stretch 4 (some .int) :: ([.methodLink RX11 159 yX11_needEquation, .instanceMethod yX11_needEquation, .selects RX11 yX11_needEquation yX11_needEquation, .initialized RX11] ++ (wv_f_needEquation ++ ([])))
theorem gw_f_stretch : wv_f_stretch.all goodWord = true := by decide +kernel
theorem g_f_stretch_f_needEquation_159 : GoodIn wv_f_stretch (wsV RX11 159 RX11 yX11_needEquation wv_f_needEquation) := goodIn_app (goodIn_of _ (by decide +kernel)) (goodIn_sub (fun _ h => List.mem_cons_of_mem _ (List.mem_append_right _ (List.mem_append_left _ h))) gw_f_needEquation)
set_option maxHeartbeats 4000000 in
set_option maxRecDepth 100000 in
/-- stretch on a fresh object: it throws -/
theorem c_f_stretch (l : Launch) (hlt : l.stackTraces = false) (dC : Nat → ClassId) (dI : Nat → Nat → Nat) (h0 : Nat) (qC : Nat) (x0 : Int32) (x1 : Int32) (fs_h0 : List Value) (fs_qC : List Value) (hF_h0 : mF 19 [(7, .ref qC)] fs_h0) (hF_qC : mF 13 [(8, .int 0)] fs_qC) (sz : Nat) : vx_Met l yX11_stretch wv_f_stretch ({ frames := 7, cells := 1, slots := 6, locals := 110 }) (va_Pc [.ref h0, .int x0, .int x1] (fun U => U.heap.size = sz ∧ va_P (dC, dI) vwCl [(h0, .inr (11, fs_h0)), (qC, .inr (2, fs_qC))] U.heap ∧ va_K (dC, dI) vwCl [] U ∧ va_D (fun _ => True) [(h0, .inr (11, fs_h0)), (qC, .inr (2, fs_qC))] ∧ w_N U ∧ w_T (va_A [(h0, .inr (11, fs_h0)), (qC, .inr (2, fs_qC))] sz) U U.heap)) (va_Qi (fun (r : Int32) (_ : Unit) => False) (fun _ t => va_P (dC, dI) vwCl [] t.heap ∧ va_K (dC, dI) vwCl [] t ∧ va_D (va_A [(h0, .inr (11, fs_h0)), (qC, .inr (2, fs_qC))] sz) []) (va_A [(h0, .inr (11, fs_h0)), (qC, .inr (2, fs_qC))] sz)) (vx_X (fun _ : Unit => True) (fun E _ _ => E = "java/lang/IllegalStateException") (va_A [(h0, .inr (11, fs_h0)), (qC, .inr (2, fs_qC))] sz)) 1 6 (va_A [(h0, .inr (11, fs_h0)), (qC, .inr (2, fs_qC))] sz) := by
  refine vx_ofW (cc := cX11_stretch) (maxL := 4) (ret := (some .int)) (by decide) rfl ?_
  intro p e s m args below meth c s₁ B hml hnt hv
  obtain ⟨rfl, hsz, hP, hK, hD0, hN, hT⟩ := hv
  have hx := B.exec
  have hb := B.bytes
  have hr := B.returns
  have hts := atoms_spec (ws := wv_f_stretch) B.pre
  have hown : s.vm.findClass RX11 = some m.cls := findClass_of_methodNamed B.named
  have hlocks := B.notSynchronized
  subst hsz
  have hD := hD0.self (sz := s.heap.size)
  generalize hAe : va_A [(h0, .inr (11, fs_h0)), (qC, .inr (2, fs_qC))] s.heap.size = A at hD hT ⊢
  have hA : ∀ q : Nat, s.heap.size ≤ q → A q := fun q h => by rw [← hAe]; exact Or.inr h
  obtain ⟨H, hHe, hP, hS⟩ : ∃ H : Heap, H = s.heap ∧ va_P (dC, dI) vwCl [(h0, .inr (11, fs_h0)), (qC, .inr (2, fs_qC))] H ∧ va_S A s.heap H [] := ⟨s.heap, rfl, hP, va_S.rf⟩
  have hl := lv_entry ([.ref h0, .int x0, .int x1]) (n := 4) (Nat.le_of_ble_eq_true rfl)
  rw [lg_entry_eq]
  generalize (lg_sl ([.ref h0, .int x0, .int x1]) ++ List.replicate (4 - (lg_sl ([.ref h0, .int x0, .int x1])).length) Slot.unset).toArray = ls at hl ⊢
  have hl : lv_has ls 4 [(0, .ref h0), (1, .int x0), (2, .int x1)] := hl
  rw [← hHe]; clear hHe
  refine lv_aload_n hx hb dX11_stretch_0 rfl (lv_at hl 0 rfl) ?_
  have hPc := hP.sub (ws' := [(h0, .inr (11, fs_h0)), (qC, .inr (2, fs_qC))]) [0, 1] rfl
  have hDc := hD.sub (ws' := [(h0, .inr (11, fs_h0)), (qC, .inr (2, fs_qC))]) [0, 1] (by decide) rfl
  have hKc := hK.sub (tys' := []) [] rfl
  have hFc := va_free (wc := [(h0, .inr (11, fs_h0)), (qC, .inr (2, fs_qC))]) hD hS hA [0, 1] rfl
  refine vx_callv (vx_runV (As := []) (rest := []) ⟨hx, hb, hml, hown, hts⟩ (c_f_needEquation l hlt dC dI h0 qC fs_h0 fs_qC (mF.sub hF_h0 [0] rfl) (mF.sub hF_qC [0] rfl) H.size) (cwV 0 hts g_f_stretch_f_needEquation_159 rfl rfl rfl hv_X11_needEquation ⟨Nat.le_of_ble_eq_true rfl, Nat.le_of_ble_eq_true rfl⟩) ⟨fun a U g mk q => by obtain ⟨q0, q1, qP, qK, qD, qE0, qE1⟩ := q; exact ⟨q0, q1, qP, va_K.moved (u := U) (U := U.calling g mk a) (Vm.Alike.refl U.vm) qK, qD, w_N.same rfl qE0, w_T.same rfl rfl qE1⟩, va_recv hKc hPc (ci := 11) (q0 := 0) rfl rfl, fun U hU hW => ⟨rfl, by rw [hU], by rw [hU]; exact hPc, va_K.moved hW.alike hKc, hDc.weaken (fun _ _ _ _ => trivial), w_N.warm hW hN, w_T.go hT hW hS.2.1 hFc hU⟩⟩ rfl rfl hl.1 rfl (lv_room (Nat.le_of_ble_eq_true rfl)) dX11_stretch_1 ⟨(Nat.le_of_ble_eq_true rfl), (Nat.le_of_ble_eq_true rfl)⟩) hS (fun q _ h => hFc q h) hFc (fun q _ h => hFc q h) (fun E9 ce9 q9 u t H1 locs1 ht hvm hpx hBX hz1 hk1 hS1 hcell9 hv9 hcl9 => ?_) (fun u t H1 locs1 ht hvm hw hB hz1 hk1 hS1 => ?_)
  · skip
    obtain rfl : E9 = "java/lang/IllegalStateException" := hBX
    exact vx_out (fun x hx9 => (hnt x hx9).elim) hlocks hcell9 hv9 hcl9 (fun t9 ht9 _ => ⟨(), trivial, rfl, hS1.F ht9⟩) hS1.2.2 (Nat.le_of_ble_eq_true rfl) (Nat.le_of_ble_eq_true rfl)
  · skip
    exact (hw : False).elim
def wv_f_keeps : List Cond := .code yX11_keeps cX11_keeps 5 (some .int) :: ([.methodLink RX11 159 yX11_needEquation, .instanceMethod yX11_needEquation, .selects RX11 yX11_needEquation yX11_needEquation, .initialized RX11] ++ (wv_f_needEquation ++ ([])))
theorem gw_f_keeps : wv_f_keeps.all goodWord = true := by decide +kernel
theorem g_f_keeps_f_needEquation_159 : GoodIn wv_f_keeps (wsV RX11 159 RX11 yX11_needEquation wv_f_needEquation) := goodIn_app (goodIn_of _ (by decide +kernel)) (goodIn_sub (fun _ h => List.mem_cons_of_mem _ (List.mem_append_right _ (List.mem_append_left _ h))) gw_f_needEquation)
set_option maxHeartbeats 4000000 in
set_option maxRecDepth 100000 in
/-- keeps on a fresh object: it throws -/
theorem c_f_keeps (l : Launch) (hlt : l.stackTraces = false) (dC : Nat → ClassId) (dI : Nat → Nat → Nat) (h0 : Nat) (qC : Nat) (x0 : Int32) (x1 : Int32) (x2 : Int32) (fs_h0 : List Value) (fs_qC : List Value) (hF_h0 : mF 19 [(7, .ref qC)] fs_h0) (hF_qC : mF 13 [(8, .int 0)] fs_qC) (sz : Nat) : vx_Met l yX11_keeps wv_f_keeps ({ frames := 7, cells := 1, slots := 6, locals := 110 }) (va_Pc [.ref h0, .int x0, .int x1, .int x2] (fun U => U.heap.size = sz ∧ va_P (dC, dI) vwCl [(h0, .inr (11, fs_h0)), (qC, .inr (2, fs_qC))] U.heap ∧ va_K (dC, dI) vwCl [] U ∧ va_D (fun _ => True) [(h0, .inr (11, fs_h0)), (qC, .inr (2, fs_qC))] ∧ w_N U ∧ w_T (va_A [(h0, .inr (11, fs_h0)), (qC, .inr (2, fs_qC))] sz) U U.heap)) (va_Qi (fun (r : Int32) (_ : Unit) => False) (fun _ t => va_P (dC, dI) vwCl [] t.heap ∧ va_K (dC, dI) vwCl [] t ∧ va_D (va_A [(h0, .inr (11, fs_h0)), (qC, .inr (2, fs_qC))] sz) []) (va_A [(h0, .inr (11, fs_h0)), (qC, .inr (2, fs_qC))] sz)) (vx_X (fun _ : Unit => True) (fun E _ _ => E = "java/lang/IllegalStateException") (va_A [(h0, .inr (11, fs_h0)), (qC, .inr (2, fs_qC))] sz)) 1 6 (va_A [(h0, .inr (11, fs_h0)), (qC, .inr (2, fs_qC))] sz) := by
  refine vx_ofW (cc := cX11_keeps) (maxL := 5) (ret := (some .int)) (by decide) rfl ?_
  intro p e s m args below meth c s₁ B hml hnt hv
  obtain ⟨rfl, hsz, hP, hK, hD0, hN, hT⟩ := hv
  have hx := B.exec
  have hb := B.bytes
  have hr := B.returns
  have hts := atoms_spec (ws := wv_f_keeps) B.pre
  have hown : s.vm.findClass RX11 = some m.cls := findClass_of_methodNamed B.named
  have hlocks := B.notSynchronized
  subst hsz
  have hD := hD0.self (sz := s.heap.size)
  generalize hAe : va_A [(h0, .inr (11, fs_h0)), (qC, .inr (2, fs_qC))] s.heap.size = A at hD hT ⊢
  have hA : ∀ q : Nat, s.heap.size ≤ q → A q := fun q h => by rw [← hAe]; exact Or.inr h
  obtain ⟨H, hHe, hP, hS⟩ : ∃ H : Heap, H = s.heap ∧ va_P (dC, dI) vwCl [(h0, .inr (11, fs_h0)), (qC, .inr (2, fs_qC))] H ∧ va_S A s.heap H [] := ⟨s.heap, rfl, hP, va_S.rf⟩
  have hl := lv_entry ([.ref h0, .int x0, .int x1, .int x2]) (n := 5) (Nat.le_of_ble_eq_true rfl)
  rw [lg_entry_eq]
  generalize (lg_sl ([.ref h0, .int x0, .int x1, .int x2]) ++ List.replicate (5 - (lg_sl ([.ref h0, .int x0, .int x1, .int x2])).length) Slot.unset).toArray = ls at hl ⊢
  have hl : lv_has ls 5 [(0, .ref h0), (1, .int x0), (2, .int x1), (3, .int x2)] := hl
  rw [← hHe]; clear hHe
  refine lv_aload_n hx hb dX11_keeps_0 rfl (lv_at hl 0 rfl) ?_
  have hPc := hP.sub (ws' := [(h0, .inr (11, fs_h0)), (qC, .inr (2, fs_qC))]) [0, 1] rfl
  have hDc := hD.sub (ws' := [(h0, .inr (11, fs_h0)), (qC, .inr (2, fs_qC))]) [0, 1] (by decide) rfl
  have hKc := hK.sub (tys' := []) [] rfl
  have hFc := va_free (wc := [(h0, .inr (11, fs_h0)), (qC, .inr (2, fs_qC))]) hD hS hA [0, 1] rfl
  refine vx_callv (vx_runV (As := []) (rest := []) ⟨hx, hb, hml, hown, hts⟩ (c_f_needEquation l hlt dC dI h0 qC fs_h0 fs_qC (mF.sub hF_h0 [0] rfl) (mF.sub hF_qC [0] rfl) H.size) (cwV 0 hts g_f_keeps_f_needEquation_159 rfl rfl rfl hv_X11_needEquation ⟨Nat.le_of_ble_eq_true rfl, Nat.le_of_ble_eq_true rfl⟩) ⟨fun a U g mk q => by obtain ⟨q0, q1, qP, qK, qD, qE0, qE1⟩ := q; exact ⟨q0, q1, qP, va_K.moved (u := U) (U := U.calling g mk a) (Vm.Alike.refl U.vm) qK, qD, w_N.same rfl qE0, w_T.same rfl rfl qE1⟩, va_recv hKc hPc (ci := 11) (q0 := 0) rfl rfl, fun U hU hW => ⟨rfl, by rw [hU], by rw [hU]; exact hPc, va_K.moved hW.alike hKc, hDc.weaken (fun _ _ _ _ => trivial), w_N.warm hW hN, w_T.go hT hW hS.2.1 hFc hU⟩⟩ rfl rfl hl.1 rfl (lv_room (Nat.le_of_ble_eq_true rfl)) dX11_keeps_1 ⟨(Nat.le_of_ble_eq_true rfl), (Nat.le_of_ble_eq_true rfl)⟩) hS (fun q _ h => hFc q h) hFc (fun q _ h => hFc q h) (fun E9 ce9 q9 u t H1 locs1 ht hvm hpx hBX hz1 hk1 hS1 hcell9 hv9 hcl9 => ?_) (fun u t H1 locs1 ht hvm hw hB hz1 hk1 hS1 => ?_)
  · skip
    obtain rfl : E9 = "java/lang/IllegalStateException" := hBX
    exact vx_out (fun x hx9 => (hnt x hx9).elim) hlocks hcell9 hv9 hcl9 (fun t9 ht9 _ => ⟨(), trivial, rfl, hS1.F ht9⟩) hS1.2.2 (Nat.le_of_ble_eq_true rfl) (Nat.le_of_ble_eq_true rfl)
  · skip
    exact (hw : False).elim
def wv_f_sums : List Cond := .code yX11_sums cX11_sums 2 (some .int) :: ([.methodLink RX11 276 yX11_needDensities, .instanceMethod yX11_needDensities, .selects RX11 yX11_needDensities yX11_needDensities, .initialized RX11] ++ (wv_f_needDensities ++ ([])))
theorem gw_f_sums : wv_f_sums.all goodWord = true := by decide +kernel
theorem g_f_sums_f_needDensities_276 : GoodIn wv_f_sums (wsV RX11 276 RX11 yX11_needDensities wv_f_needDensities) := goodIn_app (goodIn_of _ (by decide +kernel)) (goodIn_sub (fun _ h => List.mem_cons_of_mem _ (List.mem_append_right _ (List.mem_append_left _ h))) gw_f_needDensities)
set_option maxHeartbeats 4000000 in
set_option maxRecDepth 100000 in
/-- sums on a fresh object: it throws -/
theorem c_f_sums (l : Launch) (hlt : l.stackTraces = false) (dC : Nat → ClassId) (dI : Nat → Nat → Nat) (h0 : Nat) (qC : Nat) (x0 : Int32) (fs_h0 : List Value) (fs_qC : List Value) (hF_h0 : mF 19 [(7, .ref qC)] fs_h0) (hF_qC : mF 13 [(8, .int 0)] fs_qC) (sz : Nat) : vx_Met l yX11_sums wv_f_sums ({ frames := 8, cells := 1, slots := 6, locals := 131 }) (va_Pc [.ref h0, .int x0] (fun U => U.heap.size = sz ∧ va_P (dC, dI) vwCl [(h0, .inr (11, fs_h0)), (qC, .inr (2, fs_qC))] U.heap ∧ va_K (dC, dI) vwCl [] U ∧ va_D (fun _ => True) [(h0, .inr (11, fs_h0)), (qC, .inr (2, fs_qC))] ∧ w_N U ∧ w_T (va_A [(h0, .inr (11, fs_h0)), (qC, .inr (2, fs_qC))] sz) U U.heap)) (va_Qi (fun (r : Int32) (_ : Unit) => False) (fun _ t => va_P (dC, dI) vwCl [] t.heap ∧ va_K (dC, dI) vwCl [] t ∧ va_D (va_A [(h0, .inr (11, fs_h0)), (qC, .inr (2, fs_qC))] sz) []) (va_A [(h0, .inr (11, fs_h0)), (qC, .inr (2, fs_qC))] sz)) (vx_X (fun _ : Unit => True) (fun E _ _ => E = "java/lang/IllegalStateException") (va_A [(h0, .inr (11, fs_h0)), (qC, .inr (2, fs_qC))] sz)) 1 6 (va_A [(h0, .inr (11, fs_h0)), (qC, .inr (2, fs_qC))] sz) := by
  refine vx_ofW (cc := cX11_sums) (maxL := 2) (ret := (some .int)) (by decide) rfl ?_
  intro p e s m args below meth c s₁ B hml hnt hv
  obtain ⟨rfl, hsz, hP, hK, hD0, hN, hT⟩ := hv
  have hx := B.exec
  have hb := B.bytes
  have hr := B.returns
  have hts := atoms_spec (ws := wv_f_sums) B.pre
  have hown : s.vm.findClass RX11 = some m.cls := findClass_of_methodNamed B.named
  have hlocks := B.notSynchronized
  subst hsz
  have hD := hD0.self (sz := s.heap.size)
  generalize hAe : va_A [(h0, .inr (11, fs_h0)), (qC, .inr (2, fs_qC))] s.heap.size = A at hD hT ⊢
  have hA : ∀ q : Nat, s.heap.size ≤ q → A q := fun q h => by rw [← hAe]; exact Or.inr h
  obtain ⟨H, hHe, hP, hS⟩ : ∃ H : Heap, H = s.heap ∧ va_P (dC, dI) vwCl [(h0, .inr (11, fs_h0)), (qC, .inr (2, fs_qC))] H ∧ va_S A s.heap H [] := ⟨s.heap, rfl, hP, va_S.rf⟩
  have hl := lv_entry ([.ref h0, .int x0]) (n := 2) (Nat.le_of_ble_eq_true rfl)
  rw [lg_entry_eq]
  generalize (lg_sl ([.ref h0, .int x0]) ++ List.replicate (2 - (lg_sl ([.ref h0, .int x0])).length) Slot.unset).toArray = ls at hl ⊢
  have hl : lv_has ls 2 [(0, .ref h0), (1, .int x0)] := hl
  rw [← hHe]; clear hHe
  refine lv_aload_n hx hb dX11_sums_0 rfl (lv_at hl 0 rfl) ?_
  refine lv_iload_n hx hb dX11_sums_1 rfl (lv_at hl 1 rfl) ?_
  have hPc := hP.sub (ws' := [(h0, .inr (11, fs_h0)), (qC, .inr (2, fs_qC))]) [0, 1] rfl
  have hDc := hD.sub (ws' := [(h0, .inr (11, fs_h0)), (qC, .inr (2, fs_qC))]) [0, 1] (by decide) rfl
  have hKc := hK.sub (tys' := []) [] rfl
  have hFc := va_free (wc := [(h0, .inr (11, fs_h0)), (qC, .inr (2, fs_qC))]) hD hS hA [0, 1] rfl
  refine vx_callv (vx_runV (As := [.int x0]) (rest := []) ⟨hx, hb, hml, hown, hts⟩ (c_f_needDensities l hlt dC dI h0 qC x0 fs_h0 fs_qC (mF.sub hF_h0 [0] rfl) (mF.sub hF_qC [0] rfl) H.size) (cwV 1 hts g_f_sums_f_needDensities_276 rfl rfl rfl hv_X11_needDensities ⟨Nat.le_of_ble_eq_true rfl, Nat.le_of_ble_eq_true rfl⟩) ⟨fun a U g mk q => by obtain ⟨q0, q1, qP, qK, qD, qE0, qE1⟩ := q; exact ⟨q0, q1, qP, va_K.moved (u := U) (U := U.calling g mk a) (Vm.Alike.refl U.vm) qK, qD, w_N.same rfl qE0, w_T.same rfl rfl qE1⟩, va_recv hKc hPc (ci := 11) (q0 := 0) rfl rfl, fun U hU hW => ⟨rfl, by rw [hU], by rw [hU]; exact hPc, va_K.moved hW.alike hKc, hDc.weaken (fun _ _ _ _ => trivial), w_N.warm hW hN, w_T.go hT hW hS.2.1 hFc hU⟩⟩ rfl rfl hl.1 rfl (lv_room (Nat.le_of_ble_eq_true rfl)) dX11_sums_2 ⟨(Nat.le_of_ble_eq_true rfl), (Nat.le_of_ble_eq_true rfl)⟩) hS (fun q _ h => hFc q h) hFc (fun q _ h => hFc q h) (fun E9 ce9 q9 u t H1 locs1 ht hvm hpx hBX hz1 hk1 hS1 hcell9 hv9 hcl9 => ?_) (fun u t H1 locs1 ht hvm hw hB hz1 hk1 hS1 => ?_)
  · skip
    obtain rfl : E9 = "java/lang/IllegalStateException" := hBX
    exact vx_out (fun x hx9 => (hnt x hx9).elim) hlocks hcell9 hv9 hcl9 (fun t9 ht9 _ => ⟨(), trivial, rfl, hS1.F ht9⟩) hS1.2.2 (Nat.le_of_ble_eq_true rfl) (Nat.le_of_ble_eq_true rfl)
  · skip
    exact (hw : False).elim
def wv_f_sum : List Cond := .code yX11_sum cX11_sum 7 (some .long) :: ([.methodLink RX11 276 yX11_needDensities, .instanceMethod yX11_needDensities, .selects RX11 yX11_needDensities yX11_needDensities, .initialized RX11] ++ (wv_f_needDensities ++ ([])))
theorem gw_f_sum : wv_f_sum.all goodWord = true := by decide +kernel
theorem g_f_sum_f_needDensities_276 : GoodIn wv_f_sum (wsV RX11 276 RX11 yX11_needDensities wv_f_needDensities) := goodIn_app (goodIn_of _ (by decide +kernel)) (goodIn_sub (fun _ h => List.mem_cons_of_mem _ (List.mem_append_right _ (List.mem_append_left _ h))) gw_f_needDensities)
set_option maxHeartbeats 4000000 in
set_option maxRecDepth 100000 in
/-- sum on a fresh object: it throws -/
theorem c_f_sum (l : Launch) (hlt : l.stackTraces = false) (dC : Nat → ClassId) (dI : Nat → Nat → Nat) (h0 : Nat) (qC : Nat) (x0 : Int32) (x1 : Int32) (x2 : Int32) (x3 : Int32) (fs_h0 : List Value) (fs_qC : List Value) (hF_h0 : mF 19 [(7, .ref qC)] fs_h0) (hF_qC : mF 13 [(8, .int 0)] fs_qC) (sz : Nat) : vx_Met l yX11_sum wv_f_sum ({ frames := 8, cells := 1, slots := 6, locals := 131 }) (va_Pc [.ref h0, .int x0, .int x1, .int x2, .int x3] (fun U => U.heap.size = sz ∧ va_P (dC, dI) vwCl [(h0, .inr (11, fs_h0)), (qC, .inr (2, fs_qC))] U.heap ∧ va_K (dC, dI) vwCl [] U ∧ va_D (fun _ => True) [(h0, .inr (11, fs_h0)), (qC, .inr (2, fs_qC))] ∧ w_N U ∧ w_T (va_A [(h0, .inr (11, fs_h0)), (qC, .inr (2, fs_qC))] sz) U U.heap)) (va_Ql (fun (r : Int64) (_ : Unit) => False) (fun _ t => va_P (dC, dI) vwCl [] t.heap ∧ va_K (dC, dI) vwCl [] t ∧ va_D (va_A [(h0, .inr (11, fs_h0)), (qC, .inr (2, fs_qC))] sz) []) (va_A [(h0, .inr (11, fs_h0)), (qC, .inr (2, fs_qC))] sz)) (vx_X (fun _ : Unit => True) (fun E _ _ => E = "java/lang/IllegalStateException") (va_A [(h0, .inr (11, fs_h0)), (qC, .inr (2, fs_qC))] sz)) 1 6 (va_A [(h0, .inr (11, fs_h0)), (qC, .inr (2, fs_qC))] sz) := by
  refine vx_ofW (cc := cX11_sum) (maxL := 7) (ret := (some .long)) (by decide) rfl ?_
  intro p e s m args below meth c s₁ B hml hnt hv
  obtain ⟨rfl, hsz, hP, hK, hD0, hN, hT⟩ := hv
  have hx := B.exec
  have hb := B.bytes
  have hr := B.returns
  have hts := atoms_spec (ws := wv_f_sum) B.pre
  have hown : s.vm.findClass RX11 = some m.cls := findClass_of_methodNamed B.named
  have hlocks := B.notSynchronized
  subst hsz
  have hD := hD0.self (sz := s.heap.size)
  generalize hAe : va_A [(h0, .inr (11, fs_h0)), (qC, .inr (2, fs_qC))] s.heap.size = A at hD hT ⊢
  have hA : ∀ q : Nat, s.heap.size ≤ q → A q := fun q h => by rw [← hAe]; exact Or.inr h
  obtain ⟨H, hHe, hP, hS⟩ : ∃ H : Heap, H = s.heap ∧ va_P (dC, dI) vwCl [(h0, .inr (11, fs_h0)), (qC, .inr (2, fs_qC))] H ∧ va_S A s.heap H [] := ⟨s.heap, rfl, hP, va_S.rf⟩
  have hl := lv_entry ([.ref h0, .int x0, .int x1, .int x2, .int x3]) (n := 7) (Nat.le_of_ble_eq_true rfl)
  rw [lg_entry_eq]
  generalize (lg_sl ([.ref h0, .int x0, .int x1, .int x2, .int x3]) ++ List.replicate (7 - (lg_sl ([.ref h0, .int x0, .int x1, .int x2, .int x3])).length) Slot.unset).toArray = ls at hl ⊢
  have hl : lv_has ls 7 [(0, .ref h0), (1, .int x0), (2, .int x1), (3, .int x2), (4, .int x3)] := hl
  rw [← hHe]; clear hHe
  refine lv_aload_n hx hb dX11_sum_0 rfl (lv_at hl 0 rfl) ?_
  refine lv_iload_n hx hb dX11_sum_1 rfl (lv_at hl 1 rfl) ?_
  have hPc := hP.sub (ws' := [(h0, .inr (11, fs_h0)), (qC, .inr (2, fs_qC))]) [0, 1] rfl
  have hDc := hD.sub (ws' := [(h0, .inr (11, fs_h0)), (qC, .inr (2, fs_qC))]) [0, 1] (by decide) rfl
  have hKc := hK.sub (tys' := []) [] rfl
  have hFc := va_free (wc := [(h0, .inr (11, fs_h0)), (qC, .inr (2, fs_qC))]) hD hS hA [0, 1] rfl
  refine vx_callv (vx_runV (As := [.int x0]) (rest := []) ⟨hx, hb, hml, hown, hts⟩ (c_f_needDensities l hlt dC dI h0 qC x0 fs_h0 fs_qC (mF.sub hF_h0 [0] rfl) (mF.sub hF_qC [0] rfl) H.size) (cwV 1 hts g_f_sum_f_needDensities_276 rfl rfl rfl hv_X11_needDensities ⟨Nat.le_of_ble_eq_true rfl, Nat.le_of_ble_eq_true rfl⟩) ⟨fun a U g mk q => by obtain ⟨q0, q1, qP, qK, qD, qE0, qE1⟩ := q; exact ⟨q0, q1, qP, va_K.moved (u := U) (U := U.calling g mk a) (Vm.Alike.refl U.vm) qK, qD, w_N.same rfl qE0, w_T.same rfl rfl qE1⟩, va_recv hKc hPc (ci := 11) (q0 := 0) rfl rfl, fun U hU hW => ⟨rfl, by rw [hU], by rw [hU]; exact hPc, va_K.moved hW.alike hKc, hDc.weaken (fun _ _ _ _ => trivial), w_N.warm hW hN, w_T.go hT hW hS.2.1 hFc hU⟩⟩ rfl rfl hl.1 rfl (lv_room (Nat.le_of_ble_eq_true rfl)) dX11_sum_2 ⟨(Nat.le_of_ble_eq_true rfl), (Nat.le_of_ble_eq_true rfl)⟩) hS (fun q _ h => hFc q h) hFc (fun q _ h => hFc q h) (fun E9 ce9 q9 u t H1 locs1 ht hvm hpx hBX hz1 hk1 hS1 hcell9 hv9 hcl9 => ?_) (fun u t H1 locs1 ht hvm hw hB hz1 hk1 hS1 => ?_)
  · skip
    obtain rfl : E9 = "java/lang/IllegalStateException" := hBX
    exact vx_out (fun x hx9 => (hnt x hx9).elim) hlocks hcell9 hv9 hcl9 (fun t9 ht9 _ => ⟨(), trivial, rfl, hS1.F ht9⟩) hS1.2.2 (Nat.le_of_ble_eq_true rfl) (Nat.le_of_ble_eq_true rfl)
  · skip
    exact (hw : False).elim
def wv_f_solves : List Cond := .code yX11_solves cX11_solves 1 (some .int) :: ([.methodLink RX11 159 yX11_needEquation, .instanceMethod yX11_needEquation, .selects RX11 yX11_needEquation yX11_needEquation, .initialized RX11] ++ (wv_f_needEquation ++ ([])))
theorem gw_f_solves : wv_f_solves.all goodWord = true := by decide +kernel
theorem g_f_solves_f_needEquation_159 : GoodIn wv_f_solves (wsV RX11 159 RX11 yX11_needEquation wv_f_needEquation) := goodIn_app (goodIn_of _ (by decide +kernel)) (goodIn_sub (fun _ h => List.mem_cons_of_mem _ (List.mem_append_right _ (List.mem_append_left _ h))) gw_f_needEquation)
set_option maxHeartbeats 4000000 in
set_option maxRecDepth 100000 in
/-- solves on a fresh object: it throws -/
theorem c_f_solves (l : Launch) (hlt : l.stackTraces = false) (dC : Nat → ClassId) (dI : Nat → Nat → Nat) (h0 : Nat) (qC : Nat) (fs_h0 : List Value) (fs_qC : List Value) (hF_h0 : mF 19 [(7, .ref qC)] fs_h0) (hF_qC : mF 13 [(8, .int 0)] fs_qC) (sz : Nat) : vx_Met l yX11_solves wv_f_solves ({ frames := 7, cells := 1, slots := 6, locals := 110 }) (va_Pc [.ref h0] (fun U => U.heap.size = sz ∧ va_P (dC, dI) vwCl [(h0, .inr (11, fs_h0)), (qC, .inr (2, fs_qC))] U.heap ∧ va_K (dC, dI) vwCl [] U ∧ va_D (fun _ => True) [(h0, .inr (11, fs_h0)), (qC, .inr (2, fs_qC))] ∧ w_N U ∧ w_T (va_A [(h0, .inr (11, fs_h0)), (qC, .inr (2, fs_qC))] sz) U U.heap)) (va_Qi (fun (r : Int32) (_ : Unit) => False) (fun _ t => va_P (dC, dI) vwCl [] t.heap ∧ va_K (dC, dI) vwCl [] t ∧ va_D (va_A [(h0, .inr (11, fs_h0)), (qC, .inr (2, fs_qC))] sz) []) (va_A [(h0, .inr (11, fs_h0)), (qC, .inr (2, fs_qC))] sz)) (vx_X (fun _ : Unit => True) (fun E _ _ => E = "java/lang/IllegalStateException") (va_A [(h0, .inr (11, fs_h0)), (qC, .inr (2, fs_qC))] sz)) 1 6 (va_A [(h0, .inr (11, fs_h0)), (qC, .inr (2, fs_qC))] sz) := by
  refine vx_ofW (cc := cX11_solves) (maxL := 1) (ret := (some .int)) (by decide) rfl ?_
  intro p e s m args below meth c s₁ B hml hnt hv
  obtain ⟨rfl, hsz, hP, hK, hD0, hN, hT⟩ := hv
  have hx := B.exec
  have hb := B.bytes
  have hr := B.returns
  have hts := atoms_spec (ws := wv_f_solves) B.pre
  have hown : s.vm.findClass RX11 = some m.cls := findClass_of_methodNamed B.named
  have hlocks := B.notSynchronized
  subst hsz
  have hD := hD0.self (sz := s.heap.size)
  generalize hAe : va_A [(h0, .inr (11, fs_h0)), (qC, .inr (2, fs_qC))] s.heap.size = A at hD hT ⊢
  have hA : ∀ q : Nat, s.heap.size ≤ q → A q := fun q h => by rw [← hAe]; exact Or.inr h
  obtain ⟨H, hHe, hP, hS⟩ : ∃ H : Heap, H = s.heap ∧ va_P (dC, dI) vwCl [(h0, .inr (11, fs_h0)), (qC, .inr (2, fs_qC))] H ∧ va_S A s.heap H [] := ⟨s.heap, rfl, hP, va_S.rf⟩
  have hl := lv_entry ([.ref h0]) (n := 1) (Nat.le_of_ble_eq_true rfl)
  rw [lg_entry_eq]
  generalize (lg_sl ([.ref h0]) ++ List.replicate (1 - (lg_sl ([.ref h0])).length) Slot.unset).toArray = ls at hl ⊢
  have hl : lv_has ls 1 [(0, .ref h0)] := hl
  rw [← hHe]; clear hHe
  refine lv_aload_n hx hb dX11_solves_0 rfl (lv_at hl 0 rfl) ?_
  have hPc := hP.sub (ws' := [(h0, .inr (11, fs_h0)), (qC, .inr (2, fs_qC))]) [0, 1] rfl
  have hDc := hD.sub (ws' := [(h0, .inr (11, fs_h0)), (qC, .inr (2, fs_qC))]) [0, 1] (by decide) rfl
  have hKc := hK.sub (tys' := []) [] rfl
  have hFc := va_free (wc := [(h0, .inr (11, fs_h0)), (qC, .inr (2, fs_qC))]) hD hS hA [0, 1] rfl
  refine vx_callv (vx_runV (As := []) (rest := []) ⟨hx, hb, hml, hown, hts⟩ (c_f_needEquation l hlt dC dI h0 qC fs_h0 fs_qC (mF.sub hF_h0 [0] rfl) (mF.sub hF_qC [0] rfl) H.size) (cwV 0 hts g_f_solves_f_needEquation_159 rfl rfl rfl hv_X11_needEquation ⟨Nat.le_of_ble_eq_true rfl, Nat.le_of_ble_eq_true rfl⟩) ⟨fun a U g mk q => by obtain ⟨q0, q1, qP, qK, qD, qE0, qE1⟩ := q; exact ⟨q0, q1, qP, va_K.moved (u := U) (U := U.calling g mk a) (Vm.Alike.refl U.vm) qK, qD, w_N.same rfl qE0, w_T.same rfl rfl qE1⟩, va_recv hKc hPc (ci := 11) (q0 := 0) rfl rfl, fun U hU hW => ⟨rfl, by rw [hU], by rw [hU]; exact hPc, va_K.moved hW.alike hKc, hDc.weaken (fun _ _ _ _ => trivial), w_N.warm hW hN, w_T.go hT hW hS.2.1 hFc hU⟩⟩ rfl rfl hl.1 rfl (lv_room (Nat.le_of_ble_eq_true rfl)) dX11_solves_1 ⟨(Nat.le_of_ble_eq_true rfl), (Nat.le_of_ble_eq_true rfl)⟩) hS (fun q _ h => hFc q h) hFc (fun q _ h => hFc q h) (fun E9 ce9 q9 u t H1 locs1 ht hvm hpx hBX hz1 hk1 hS1 hcell9 hv9 hcl9 => ?_) (fun u t H1 locs1 ht hvm hw hB hz1 hk1 hS1 => ?_)
  · skip
    obtain rfl : E9 = "java/lang/IllegalStateException" := hBX
    exact vx_out (fun x hx9 => (hnt x hx9).elim) hlocks hcell9 hv9 hcl9 (fun t9 ht9 _ => ⟨(), trivial, rfl, hS1.F ht9⟩) hS1.2.2 (Nat.le_of_ble_eq_true rfl) (Nat.le_of_ble_eq_true rfl)
  · skip
    exact (hw : False).elim
def wv_f_left : List Cond := .code yX11_left cX11_left 3 (some .long) :: ([.methodLink RX11 159 yX11_needEquation, .instanceMethod yX11_needEquation, .selects RX11 yX11_needEquation yX11_needEquation, .initialized RX11] ++ (wv_f_needEquation ++ ([])))
theorem gw_f_left : wv_f_left.all goodWord = true := by decide +kernel
theorem g_f_left_f_needEquation_159 : GoodIn wv_f_left (wsV RX11 159 RX11 yX11_needEquation wv_f_needEquation) := goodIn_app (goodIn_of _ (by decide +kernel)) (goodIn_sub (fun _ h => List.mem_cons_of_mem _ (List.mem_append_right _ (List.mem_append_left _ h))) gw_f_needEquation)
set_option maxHeartbeats 4000000 in
set_option maxRecDepth 100000 in
/-- left on a fresh object: it throws -/
theorem c_f_left (l : Launch) (hlt : l.stackTraces = false) (dC : Nat → ClassId) (dI : Nat → Nat → Nat) (h0 : Nat) (qC : Nat) (x0 : Int32) (x1 : Int32) (fs_h0 : List Value) (fs_qC : List Value) (hF_h0 : mF 19 [(7, .ref qC)] fs_h0) (hF_qC : mF 13 [(8, .int 0)] fs_qC) (sz : Nat) : vx_Met l yX11_left wv_f_left ({ frames := 7, cells := 1, slots := 6, locals := 110 }) (va_Pc [.ref h0, .int x0, .int x1] (fun U => U.heap.size = sz ∧ va_P (dC, dI) vwCl [(h0, .inr (11, fs_h0)), (qC, .inr (2, fs_qC))] U.heap ∧ va_K (dC, dI) vwCl [] U ∧ va_D (fun _ => True) [(h0, .inr (11, fs_h0)), (qC, .inr (2, fs_qC))] ∧ w_N U ∧ w_T (va_A [(h0, .inr (11, fs_h0)), (qC, .inr (2, fs_qC))] sz) U U.heap)) (va_Ql (fun (r : Int64) (_ : Unit) => False) (fun _ t => va_P (dC, dI) vwCl [] t.heap ∧ va_K (dC, dI) vwCl [] t ∧ va_D (va_A [(h0, .inr (11, fs_h0)), (qC, .inr (2, fs_qC))] sz) []) (va_A [(h0, .inr (11, fs_h0)), (qC, .inr (2, fs_qC))] sz)) (vx_X (fun _ : Unit => True) (fun E _ _ => E = "java/lang/IllegalStateException") (va_A [(h0, .inr (11, fs_h0)), (qC, .inr (2, fs_qC))] sz)) 1 6 (va_A [(h0, .inr (11, fs_h0)), (qC, .inr (2, fs_qC))] sz) := by
  refine vx_ofW (cc := cX11_left) (maxL := 3) (ret := (some .long)) (by decide) rfl ?_
  intro p e s m args below meth c s₁ B hml hnt hv
  obtain ⟨rfl, hsz, hP, hK, hD0, hN, hT⟩ := hv
  have hx := B.exec
  have hb := B.bytes
  have hr := B.returns
  have hts := atoms_spec (ws := wv_f_left) B.pre
  have hown : s.vm.findClass RX11 = some m.cls := findClass_of_methodNamed B.named
  have hlocks := B.notSynchronized
  subst hsz
  have hD := hD0.self (sz := s.heap.size)
  generalize hAe : va_A [(h0, .inr (11, fs_h0)), (qC, .inr (2, fs_qC))] s.heap.size = A at hD hT ⊢
  have hA : ∀ q : Nat, s.heap.size ≤ q → A q := fun q h => by rw [← hAe]; exact Or.inr h
  obtain ⟨H, hHe, hP, hS⟩ : ∃ H : Heap, H = s.heap ∧ va_P (dC, dI) vwCl [(h0, .inr (11, fs_h0)), (qC, .inr (2, fs_qC))] H ∧ va_S A s.heap H [] := ⟨s.heap, rfl, hP, va_S.rf⟩
  have hl := lv_entry ([.ref h0, .int x0, .int x1]) (n := 3) (Nat.le_of_ble_eq_true rfl)
  rw [lg_entry_eq]
  generalize (lg_sl ([.ref h0, .int x0, .int x1]) ++ List.replicate (3 - (lg_sl ([.ref h0, .int x0, .int x1])).length) Slot.unset).toArray = ls at hl ⊢
  have hl : lv_has ls 3 [(0, .ref h0), (1, .int x0), (2, .int x1)] := hl
  rw [← hHe]; clear hHe
  refine lv_aload_n hx hb dX11_left_0 rfl (lv_at hl 0 rfl) ?_
  have hPc := hP.sub (ws' := [(h0, .inr (11, fs_h0)), (qC, .inr (2, fs_qC))]) [0, 1] rfl
  have hDc := hD.sub (ws' := [(h0, .inr (11, fs_h0)), (qC, .inr (2, fs_qC))]) [0, 1] (by decide) rfl
  have hKc := hK.sub (tys' := []) [] rfl
  have hFc := va_free (wc := [(h0, .inr (11, fs_h0)), (qC, .inr (2, fs_qC))]) hD hS hA [0, 1] rfl
  refine vx_callv (vx_runV (As := []) (rest := []) ⟨hx, hb, hml, hown, hts⟩ (c_f_needEquation l hlt dC dI h0 qC fs_h0 fs_qC (mF.sub hF_h0 [0] rfl) (mF.sub hF_qC [0] rfl) H.size) (cwV 0 hts g_f_left_f_needEquation_159 rfl rfl rfl hv_X11_needEquation ⟨Nat.le_of_ble_eq_true rfl, Nat.le_of_ble_eq_true rfl⟩) ⟨fun a U g mk q => by obtain ⟨q0, q1, qP, qK, qD, qE0, qE1⟩ := q; exact ⟨q0, q1, qP, va_K.moved (u := U) (U := U.calling g mk a) (Vm.Alike.refl U.vm) qK, qD, w_N.same rfl qE0, w_T.same rfl rfl qE1⟩, va_recv hKc hPc (ci := 11) (q0 := 0) rfl rfl, fun U hU hW => ⟨rfl, by rw [hU], by rw [hU]; exact hPc, va_K.moved hW.alike hKc, hDc.weaken (fun _ _ _ _ => trivial), w_N.warm hW hN, w_T.go hT hW hS.2.1 hFc hU⟩⟩ rfl rfl hl.1 rfl (lv_room (Nat.le_of_ble_eq_true rfl)) dX11_left_1 ⟨(Nat.le_of_ble_eq_true rfl), (Nat.le_of_ble_eq_true rfl)⟩) hS (fun q _ h => hFc q h) hFc (fun q _ h => hFc q h) (fun E9 ce9 q9 u t H1 locs1 ht hvm hpx hBX hz1 hk1 hS1 hcell9 hv9 hcl9 => ?_) (fun u t H1 locs1 ht hvm hw hB hz1 hk1 hS1 => ?_)
  · skip
    obtain rfl : E9 = "java/lang/IllegalStateException" := hBX
    exact vx_out (fun x hx9 => (hnt x hx9).elim) hlocks hcell9 hv9 hcl9 (fun t9 ht9 _ => ⟨(), trivial, rfl, hS1.F ht9⟩) hS1.2.2 (Nat.le_of_ble_eq_true rfl) (Nat.le_of_ble_eq_true rfl)
  · skip
    exact (hw : False).elim
def wv_f_shifted : List Cond := .code yX11_shifted cX11_shifted 3 (some .int) :: ([.methodLink RX11 159 yX11_needEquation, .instanceMethod yX11_needEquation, .selects RX11 yX11_needEquation yX11_needEquation, .initialized RX11] ++ (wv_f_needEquation ++ ([])))
theorem gw_f_shifted : wv_f_shifted.all goodWord = true := by decide +kernel
theorem g_f_shifted_f_needEquation_159 : GoodIn wv_f_shifted (wsV RX11 159 RX11 yX11_needEquation wv_f_needEquation) := goodIn_app (goodIn_of _ (by decide +kernel)) (goodIn_sub (fun _ h => List.mem_cons_of_mem _ (List.mem_append_right _ (List.mem_append_left _ h))) gw_f_needEquation)
set_option maxHeartbeats 4000000 in
set_option maxRecDepth 100000 in
/-- shifted on a fresh object: it throws -/
theorem c_f_shifted (l : Launch) (hlt : l.stackTraces = false) (dC : Nat → ClassId) (dI : Nat → Nat → Nat) (h0 : Nat) (qC : Nat) (x0 : Int32) (x1 : Int32) (fs_h0 : List Value) (fs_qC : List Value) (hF_h0 : mF 19 [(7, .ref qC)] fs_h0) (hF_qC : mF 13 [(8, .int 0)] fs_qC) (sz : Nat) : vx_Met l yX11_shifted wv_f_shifted ({ frames := 7, cells := 1, slots := 6, locals := 110 }) (va_Pc [.ref h0, .int x0, .int x1] (fun U => U.heap.size = sz ∧ va_P (dC, dI) vwCl [(h0, .inr (11, fs_h0)), (qC, .inr (2, fs_qC))] U.heap ∧ va_K (dC, dI) vwCl [] U ∧ va_D (fun _ => True) [(h0, .inr (11, fs_h0)), (qC, .inr (2, fs_qC))] ∧ w_N U ∧ w_T (va_A [(h0, .inr (11, fs_h0)), (qC, .inr (2, fs_qC))] sz) U U.heap)) (va_Qi (fun (r : Int32) (_ : Unit) => False) (fun _ t => va_P (dC, dI) vwCl [] t.heap ∧ va_K (dC, dI) vwCl [] t ∧ va_D (va_A [(h0, .inr (11, fs_h0)), (qC, .inr (2, fs_qC))] sz) []) (va_A [(h0, .inr (11, fs_h0)), (qC, .inr (2, fs_qC))] sz)) (vx_X (fun _ : Unit => True) (fun E _ _ => E = "java/lang/IllegalStateException") (va_A [(h0, .inr (11, fs_h0)), (qC, .inr (2, fs_qC))] sz)) 1 6 (va_A [(h0, .inr (11, fs_h0)), (qC, .inr (2, fs_qC))] sz) := by
  refine vx_ofW (cc := cX11_shifted) (maxL := 3) (ret := (some .int)) (by decide) rfl ?_
  intro p e s m args below meth c s₁ B hml hnt hv
  obtain ⟨rfl, hsz, hP, hK, hD0, hN, hT⟩ := hv
  have hx := B.exec
  have hb := B.bytes
  have hr := B.returns
  have hts := atoms_spec (ws := wv_f_shifted) B.pre
  have hown : s.vm.findClass RX11 = some m.cls := findClass_of_methodNamed B.named
  have hlocks := B.notSynchronized
  subst hsz
  have hD := hD0.self (sz := s.heap.size)
  generalize hAe : va_A [(h0, .inr (11, fs_h0)), (qC, .inr (2, fs_qC))] s.heap.size = A at hD hT ⊢
  have hA : ∀ q : Nat, s.heap.size ≤ q → A q := fun q h => by rw [← hAe]; exact Or.inr h
  obtain ⟨H, hHe, hP, hS⟩ : ∃ H : Heap, H = s.heap ∧ va_P (dC, dI) vwCl [(h0, .inr (11, fs_h0)), (qC, .inr (2, fs_qC))] H ∧ va_S A s.heap H [] := ⟨s.heap, rfl, hP, va_S.rf⟩
  have hl := lv_entry ([.ref h0, .int x0, .int x1]) (n := 3) (Nat.le_of_ble_eq_true rfl)
  rw [lg_entry_eq]
  generalize (lg_sl ([.ref h0, .int x0, .int x1]) ++ List.replicate (3 - (lg_sl ([.ref h0, .int x0, .int x1])).length) Slot.unset).toArray = ls at hl ⊢
  have hl : lv_has ls 3 [(0, .ref h0), (1, .int x0), (2, .int x1)] := hl
  rw [← hHe]; clear hHe
  refine lv_aload_n hx hb dX11_shifted_0 rfl (lv_at hl 0 rfl) ?_
  have hPc := hP.sub (ws' := [(h0, .inr (11, fs_h0)), (qC, .inr (2, fs_qC))]) [0, 1] rfl
  have hDc := hD.sub (ws' := [(h0, .inr (11, fs_h0)), (qC, .inr (2, fs_qC))]) [0, 1] (by decide) rfl
  have hKc := hK.sub (tys' := []) [] rfl
  have hFc := va_free (wc := [(h0, .inr (11, fs_h0)), (qC, .inr (2, fs_qC))]) hD hS hA [0, 1] rfl
  refine vx_callv (vx_runV (As := []) (rest := []) ⟨hx, hb, hml, hown, hts⟩ (c_f_needEquation l hlt dC dI h0 qC fs_h0 fs_qC (mF.sub hF_h0 [0] rfl) (mF.sub hF_qC [0] rfl) H.size) (cwV 0 hts g_f_shifted_f_needEquation_159 rfl rfl rfl hv_X11_needEquation ⟨Nat.le_of_ble_eq_true rfl, Nat.le_of_ble_eq_true rfl⟩) ⟨fun a U g mk q => by obtain ⟨q0, q1, qP, qK, qD, qE0, qE1⟩ := q; exact ⟨q0, q1, qP, va_K.moved (u := U) (U := U.calling g mk a) (Vm.Alike.refl U.vm) qK, qD, w_N.same rfl qE0, w_T.same rfl rfl qE1⟩, va_recv hKc hPc (ci := 11) (q0 := 0) rfl rfl, fun U hU hW => ⟨rfl, by rw [hU], by rw [hU]; exact hPc, va_K.moved hW.alike hKc, hDc.weaken (fun _ _ _ _ => trivial), w_N.warm hW hN, w_T.go hT hW hS.2.1 hFc hU⟩⟩ rfl rfl hl.1 rfl (lv_room (Nat.le_of_ble_eq_true rfl)) dX11_shifted_1 ⟨(Nat.le_of_ble_eq_true rfl), (Nat.le_of_ble_eq_true rfl)⟩) hS (fun q _ h => hFc q h) hFc (fun q _ h => hFc q h) (fun E9 ce9 q9 u t H1 locs1 ht hvm hpx hBX hz1 hk1 hS1 hcell9 hv9 hcl9 => ?_) (fun u t H1 locs1 ht hvm hw hB hz1 hk1 hS1 => ?_)
  · skip
    obtain rfl : E9 = "java/lang/IllegalStateException" := hBX
    exact vx_out (fun x hx9 => (hnt x hx9).elim) hlocks hcell9 hv9 hcl9 (fun t9 ht9 _ => ⟨(), trivial, rfl, hS1.F ht9⟩) hS1.2.2 (Nat.le_of_ble_eq_true rfl) (Nat.le_of_ble_eq_true rfl)
  · skip
    exact (hw : False).elim
def wv_f_stretched : List Cond := .code yX11_stretched cX11_stretched 4 (some .int) :: ([.methodLink RX11 159 yX11_needEquation, .instanceMethod yX11_needEquation, .selects RX11 yX11_needEquation yX11_needEquation, .initialized RX11] ++ (wv_f_needEquation ++ ([])))
theorem gw_f_stretched : wv_f_stretched.all goodWord = true := by decide +kernel
theorem g_f_stretched_f_needEquation_159 : GoodIn wv_f_stretched (wsV RX11 159 RX11 yX11_needEquation wv_f_needEquation) := goodIn_app (goodIn_of _ (by decide +kernel)) (goodIn_sub (fun _ h => List.mem_cons_of_mem _ (List.mem_append_right _ (List.mem_append_left _ h))) gw_f_needEquation)
set_option maxHeartbeats 4000000 in
set_option maxRecDepth 100000 in
/-- stretched on a fresh object: it throws -/
theorem c_f_stretched (l : Launch) (hlt : l.stackTraces = false) (dC : Nat → ClassId) (dI : Nat → Nat → Nat) (h0 : Nat) (qC : Nat) (x0 : Int32) (x1 : Int32) (fs_h0 : List Value) (fs_qC : List Value) (hF_h0 : mF 19 [(7, .ref qC)] fs_h0) (hF_qC : mF 13 [(8, .int 0)] fs_qC) (sz : Nat) : vx_Met l yX11_stretched wv_f_stretched ({ frames := 7, cells := 1, slots := 6, locals := 110 }) (va_Pc [.ref h0, .int x0, .int x1] (fun U => U.heap.size = sz ∧ va_P (dC, dI) vwCl [(h0, .inr (11, fs_h0)), (qC, .inr (2, fs_qC))] U.heap ∧ va_K (dC, dI) vwCl [] U ∧ va_D (fun _ => True) [(h0, .inr (11, fs_h0)), (qC, .inr (2, fs_qC))] ∧ w_N U ∧ w_T (va_A [(h0, .inr (11, fs_h0)), (qC, .inr (2, fs_qC))] sz) U U.heap)) (va_Qi (fun (r : Int32) (_ : Unit) => False) (fun _ t => va_P (dC, dI) vwCl [] t.heap ∧ va_K (dC, dI) vwCl [] t ∧ va_D (va_A [(h0, .inr (11, fs_h0)), (qC, .inr (2, fs_qC))] sz) []) (va_A [(h0, .inr (11, fs_h0)), (qC, .inr (2, fs_qC))] sz)) (vx_X (fun _ : Unit => True) (fun E _ _ => E = "java/lang/IllegalStateException") (va_A [(h0, .inr (11, fs_h0)), (qC, .inr (2, fs_qC))] sz)) 1 6 (va_A [(h0, .inr (11, fs_h0)), (qC, .inr (2, fs_qC))] sz) := by
  refine vx_ofW (cc := cX11_stretched) (maxL := 4) (ret := (some .int)) (by decide) rfl ?_
  intro p e s m args below meth c s₁ B hml hnt hv
  obtain ⟨rfl, hsz, hP, hK, hD0, hN, hT⟩ := hv
  have hx := B.exec
  have hb := B.bytes
  have hr := B.returns
  have hts := atoms_spec (ws := wv_f_stretched) B.pre
  have hown : s.vm.findClass RX11 = some m.cls := findClass_of_methodNamed B.named
  have hlocks := B.notSynchronized
  subst hsz
  have hD := hD0.self (sz := s.heap.size)
  generalize hAe : va_A [(h0, .inr (11, fs_h0)), (qC, .inr (2, fs_qC))] s.heap.size = A at hD hT ⊢
  have hA : ∀ q : Nat, s.heap.size ≤ q → A q := fun q h => by rw [← hAe]; exact Or.inr h
  obtain ⟨H, hHe, hP, hS⟩ : ∃ H : Heap, H = s.heap ∧ va_P (dC, dI) vwCl [(h0, .inr (11, fs_h0)), (qC, .inr (2, fs_qC))] H ∧ va_S A s.heap H [] := ⟨s.heap, rfl, hP, va_S.rf⟩
  have hl := lv_entry ([.ref h0, .int x0, .int x1]) (n := 4) (Nat.le_of_ble_eq_true rfl)
  rw [lg_entry_eq]
  generalize (lg_sl ([.ref h0, .int x0, .int x1]) ++ List.replicate (4 - (lg_sl ([.ref h0, .int x0, .int x1])).length) Slot.unset).toArray = ls at hl ⊢
  have hl : lv_has ls 4 [(0, .ref h0), (1, .int x0), (2, .int x1)] := hl
  rw [← hHe]; clear hHe
  refine lv_aload_n hx hb dX11_stretched_0 rfl (lv_at hl 0 rfl) ?_
  have hPc := hP.sub (ws' := [(h0, .inr (11, fs_h0)), (qC, .inr (2, fs_qC))]) [0, 1] rfl
  have hDc := hD.sub (ws' := [(h0, .inr (11, fs_h0)), (qC, .inr (2, fs_qC))]) [0, 1] (by decide) rfl
  have hKc := hK.sub (tys' := []) [] rfl
  have hFc := va_free (wc := [(h0, .inr (11, fs_h0)), (qC, .inr (2, fs_qC))]) hD hS hA [0, 1] rfl
  refine vx_callv (vx_runV (As := []) (rest := []) ⟨hx, hb, hml, hown, hts⟩ (c_f_needEquation l hlt dC dI h0 qC fs_h0 fs_qC (mF.sub hF_h0 [0] rfl) (mF.sub hF_qC [0] rfl) H.size) (cwV 0 hts g_f_stretched_f_needEquation_159 rfl rfl rfl hv_X11_needEquation ⟨Nat.le_of_ble_eq_true rfl, Nat.le_of_ble_eq_true rfl⟩) ⟨fun a U g mk q => by obtain ⟨q0, q1, qP, qK, qD, qE0, qE1⟩ := q; exact ⟨q0, q1, qP, va_K.moved (u := U) (U := U.calling g mk a) (Vm.Alike.refl U.vm) qK, qD, w_N.same rfl qE0, w_T.same rfl rfl qE1⟩, va_recv hKc hPc (ci := 11) (q0 := 0) rfl rfl, fun U hU hW => ⟨rfl, by rw [hU], by rw [hU]; exact hPc, va_K.moved hW.alike hKc, hDc.weaken (fun _ _ _ _ => trivial), w_N.warm hW hN, w_T.go hT hW hS.2.1 hFc hU⟩⟩ rfl rfl hl.1 rfl (lv_room (Nat.le_of_ble_eq_true rfl)) dX11_stretched_1 ⟨(Nat.le_of_ble_eq_true rfl), (Nat.le_of_ble_eq_true rfl)⟩) hS (fun q _ h => hFc q h) hFc (fun q _ h => hFc q h) (fun E9 ce9 q9 u t H1 locs1 ht hvm hpx hBX hz1 hk1 hS1 hcell9 hv9 hcl9 => ?_) (fun u t H1 locs1 ht hvm hw hB hz1 hk1 hS1 => ?_)
  · skip
    obtain rfl : E9 = "java/lang/IllegalStateException" := hBX
    exact vx_out (fun x hx9 => (hnt x hx9).elim) hlocks hcell9 hv9 hcl9 (fun t9 ht9 _ => ⟨(), trivial, rfl, hS1.F ht9⟩) hS1.2.2 (Nat.le_of_ble_eq_true rfl) (Nat.le_of_ble_eq_true rfl)
  · skip
    exact (hw : False).elim
def wv_f_wave : List Cond := .code yX11_wave cX11_wave 5 (some .int) :: ([.methodLink RX11 159 yX11_needEquation, .instanceMethod yX11_needEquation, .selects RX11 yX11_needEquation yX11_needEquation, .initialized RX11] ++ (wv_f_needEquation ++ ([])))
theorem gw_f_wave : wv_f_wave.all goodWord = true := by decide +kernel
theorem g_f_wave_f_needEquation_159 : GoodIn wv_f_wave (wsV RX11 159 RX11 yX11_needEquation wv_f_needEquation) := goodIn_app (goodIn_of _ (by decide +kernel)) (goodIn_sub (fun _ h => List.mem_cons_of_mem _ (List.mem_append_right _ (List.mem_append_left _ h))) gw_f_needEquation)
set_option maxHeartbeats 4000000 in
set_option maxRecDepth 100000 in
/-- wave on a fresh object: it throws -/
theorem c_f_wave (l : Launch) (hlt : l.stackTraces = false) (dC : Nat → ClassId) (dI : Nat → Nat → Nat) (h0 : Nat) (qC : Nat) (x0 : Int32) (x1 : Int32) (fs_h0 : List Value) (fs_qC : List Value) (hF_h0 : mF 19 [(7, .ref qC)] fs_h0) (hF_qC : mF 13 [(8, .int 0)] fs_qC) (sz : Nat) : vx_Met l yX11_wave wv_f_wave ({ frames := 7, cells := 1, slots := 6, locals := 110 }) (va_Pc [.ref h0, .int x0, .int x1] (fun U => U.heap.size = sz ∧ va_P (dC, dI) vwCl [(h0, .inr (11, fs_h0)), (qC, .inr (2, fs_qC))] U.heap ∧ va_K (dC, dI) vwCl [] U ∧ va_D (fun _ => True) [(h0, .inr (11, fs_h0)), (qC, .inr (2, fs_qC))] ∧ w_N U ∧ w_T (va_A [(h0, .inr (11, fs_h0)), (qC, .inr (2, fs_qC))] sz) U U.heap)) (va_Qi (fun (r : Int32) (_ : Unit) => False) (fun _ t => va_P (dC, dI) vwCl [] t.heap ∧ va_K (dC, dI) vwCl [] t ∧ va_D (va_A [(h0, .inr (11, fs_h0)), (qC, .inr (2, fs_qC))] sz) []) (va_A [(h0, .inr (11, fs_h0)), (qC, .inr (2, fs_qC))] sz)) (vx_X (fun _ : Unit => True) (fun E _ _ => E = "java/lang/IllegalStateException") (va_A [(h0, .inr (11, fs_h0)), (qC, .inr (2, fs_qC))] sz)) 1 6 (va_A [(h0, .inr (11, fs_h0)), (qC, .inr (2, fs_qC))] sz) := by
  refine vx_ofW (cc := cX11_wave) (maxL := 5) (ret := (some .int)) (by decide) rfl ?_
  intro p e s m args below meth c s₁ B hml hnt hv
  obtain ⟨rfl, hsz, hP, hK, hD0, hN, hT⟩ := hv
  have hx := B.exec
  have hb := B.bytes
  have hr := B.returns
  have hts := atoms_spec (ws := wv_f_wave) B.pre
  have hown : s.vm.findClass RX11 = some m.cls := findClass_of_methodNamed B.named
  have hlocks := B.notSynchronized
  subst hsz
  have hD := hD0.self (sz := s.heap.size)
  generalize hAe : va_A [(h0, .inr (11, fs_h0)), (qC, .inr (2, fs_qC))] s.heap.size = A at hD hT ⊢
  have hA : ∀ q : Nat, s.heap.size ≤ q → A q := fun q h => by rw [← hAe]; exact Or.inr h
  obtain ⟨H, hHe, hP, hS⟩ : ∃ H : Heap, H = s.heap ∧ va_P (dC, dI) vwCl [(h0, .inr (11, fs_h0)), (qC, .inr (2, fs_qC))] H ∧ va_S A s.heap H [] := ⟨s.heap, rfl, hP, va_S.rf⟩
  have hl := lv_entry ([.ref h0, .int x0, .int x1]) (n := 5) (Nat.le_of_ble_eq_true rfl)
  rw [lg_entry_eq]
  generalize (lg_sl ([.ref h0, .int x0, .int x1]) ++ List.replicate (5 - (lg_sl ([.ref h0, .int x0, .int x1])).length) Slot.unset).toArray = ls at hl ⊢
  have hl : lv_has ls 5 [(0, .ref h0), (1, .int x0), (2, .int x1)] := hl
  rw [← hHe]; clear hHe
  refine lv_aload_n hx hb dX11_wave_0 rfl (lv_at hl 0 rfl) ?_
  have hPc := hP.sub (ws' := [(h0, .inr (11, fs_h0)), (qC, .inr (2, fs_qC))]) [0, 1] rfl
  have hDc := hD.sub (ws' := [(h0, .inr (11, fs_h0)), (qC, .inr (2, fs_qC))]) [0, 1] (by decide) rfl
  have hKc := hK.sub (tys' := []) [] rfl
  have hFc := va_free (wc := [(h0, .inr (11, fs_h0)), (qC, .inr (2, fs_qC))]) hD hS hA [0, 1] rfl
  refine vx_callv (vx_runV (As := []) (rest := []) ⟨hx, hb, hml, hown, hts⟩ (c_f_needEquation l hlt dC dI h0 qC fs_h0 fs_qC (mF.sub hF_h0 [0] rfl) (mF.sub hF_qC [0] rfl) H.size) (cwV 0 hts g_f_wave_f_needEquation_159 rfl rfl rfl hv_X11_needEquation ⟨Nat.le_of_ble_eq_true rfl, Nat.le_of_ble_eq_true rfl⟩) ⟨fun a U g mk q => by obtain ⟨q0, q1, qP, qK, qD, qE0, qE1⟩ := q; exact ⟨q0, q1, qP, va_K.moved (u := U) (U := U.calling g mk a) (Vm.Alike.refl U.vm) qK, qD, w_N.same rfl qE0, w_T.same rfl rfl qE1⟩, va_recv hKc hPc (ci := 11) (q0 := 0) rfl rfl, fun U hU hW => ⟨rfl, by rw [hU], by rw [hU]; exact hPc, va_K.moved hW.alike hKc, hDc.weaken (fun _ _ _ _ => trivial), w_N.warm hW hN, w_T.go hT hW hS.2.1 hFc hU⟩⟩ rfl rfl hl.1 rfl (lv_room (Nat.le_of_ble_eq_true rfl)) dX11_wave_1 ⟨(Nat.le_of_ble_eq_true rfl), (Nat.le_of_ble_eq_true rfl)⟩) hS (fun q _ h => hFc q h) hFc (fun q _ h => hFc q h) (fun E9 ce9 q9 u t H1 locs1 ht hvm hpx hBX hz1 hk1 hS1 hcell9 hv9 hcl9 => ?_) (fun u t H1 locs1 ht hvm hw hB hz1 hk1 hS1 => ?_)
  · skip
    obtain rfl : E9 = "java/lang/IllegalStateException" := hBX
    exact vx_out (fun x hx9 => (hnt x hx9).elim) hlocks hcell9 hv9 hcl9 (fun t9 ht9 _ => ⟨(), trivial, rfl, hS1.F ht9⟩) hS1.2.2 (Nat.le_of_ble_eq_true rfl) (Nat.le_of_ble_eq_true rfl)
  · skip
    exact (hw : False).elim
def wv_f_lines : List Cond := .code yX11_lines cX11_lines 2 (some .int) :: ([.methodLink RX11 159 yX11_needEquation, .instanceMethod yX11_needEquation, .selects RX11 yX11_needEquation yX11_needEquation, .initialized RX11] ++ (wv_f_needEquation ++ ([])))
theorem gw_f_lines : wv_f_lines.all goodWord = true := by decide +kernel
theorem g_f_lines_f_needEquation_159 : GoodIn wv_f_lines (wsV RX11 159 RX11 yX11_needEquation wv_f_needEquation) := goodIn_app (goodIn_of _ (by decide +kernel)) (goodIn_sub (fun _ h => List.mem_cons_of_mem _ (List.mem_append_right _ (List.mem_append_left _ h))) gw_f_needEquation)
set_option maxHeartbeats 4000000 in
set_option maxRecDepth 100000 in
/-- lines on a fresh object: it throws -/
theorem c_f_lines (l : Launch) (hlt : l.stackTraces = false) (dC : Nat → ClassId) (dI : Nat → Nat → Nat) (h0 : Nat) (qC : Nat) (x0 : Int32) (fs_h0 : List Value) (fs_qC : List Value) (hF_h0 : mF 19 [(7, .ref qC)] fs_h0) (hF_qC : mF 13 [(8, .int 0)] fs_qC) (sz : Nat) : vx_Met l yX11_lines wv_f_lines ({ frames := 7, cells := 1, slots := 6, locals := 110 }) (va_Pc [.ref h0, .int x0] (fun U => U.heap.size = sz ∧ va_P (dC, dI) vwCl [(h0, .inr (11, fs_h0)), (qC, .inr (2, fs_qC))] U.heap ∧ va_K (dC, dI) vwCl [] U ∧ va_D (fun _ => True) [(h0, .inr (11, fs_h0)), (qC, .inr (2, fs_qC))] ∧ w_N U ∧ w_T (va_A [(h0, .inr (11, fs_h0)), (qC, .inr (2, fs_qC))] sz) U U.heap)) (va_Qi (fun (r : Int32) (_ : Unit) => False) (fun _ t => va_P (dC, dI) vwCl [] t.heap ∧ va_K (dC, dI) vwCl [] t ∧ va_D (va_A [(h0, .inr (11, fs_h0)), (qC, .inr (2, fs_qC))] sz) []) (va_A [(h0, .inr (11, fs_h0)), (qC, .inr (2, fs_qC))] sz)) (vx_X (fun _ : Unit => True) (fun E _ _ => E = "java/lang/IllegalStateException") (va_A [(h0, .inr (11, fs_h0)), (qC, .inr (2, fs_qC))] sz)) 1 6 (va_A [(h0, .inr (11, fs_h0)), (qC, .inr (2, fs_qC))] sz) := by
  refine vx_ofW (cc := cX11_lines) (maxL := 2) (ret := (some .int)) (by decide) rfl ?_
  intro p e s m args below meth c s₁ B hml hnt hv
  obtain ⟨rfl, hsz, hP, hK, hD0, hN, hT⟩ := hv
  have hx := B.exec
  have hb := B.bytes
  have hr := B.returns
  have hts := atoms_spec (ws := wv_f_lines) B.pre
  have hown : s.vm.findClass RX11 = some m.cls := findClass_of_methodNamed B.named
  have hlocks := B.notSynchronized
  subst hsz
  have hD := hD0.self (sz := s.heap.size)
  generalize hAe : va_A [(h0, .inr (11, fs_h0)), (qC, .inr (2, fs_qC))] s.heap.size = A at hD hT ⊢
  have hA : ∀ q : Nat, s.heap.size ≤ q → A q := fun q h => by rw [← hAe]; exact Or.inr h
  obtain ⟨H, hHe, hP, hS⟩ : ∃ H : Heap, H = s.heap ∧ va_P (dC, dI) vwCl [(h0, .inr (11, fs_h0)), (qC, .inr (2, fs_qC))] H ∧ va_S A s.heap H [] := ⟨s.heap, rfl, hP, va_S.rf⟩
  have hl := lv_entry ([.ref h0, .int x0]) (n := 2) (Nat.le_of_ble_eq_true rfl)
  rw [lg_entry_eq]
  generalize (lg_sl ([.ref h0, .int x0]) ++ List.replicate (2 - (lg_sl ([.ref h0, .int x0])).length) Slot.unset).toArray = ls at hl ⊢
  have hl : lv_has ls 2 [(0, .ref h0), (1, .int x0)] := hl
  rw [← hHe]; clear hHe
  refine lv_aload_n hx hb dX11_lines_0 rfl (lv_at hl 0 rfl) ?_
  have hPc := hP.sub (ws' := [(h0, .inr (11, fs_h0)), (qC, .inr (2, fs_qC))]) [0, 1] rfl
  have hDc := hD.sub (ws' := [(h0, .inr (11, fs_h0)), (qC, .inr (2, fs_qC))]) [0, 1] (by decide) rfl
  have hKc := hK.sub (tys' := []) [] rfl
  have hFc := va_free (wc := [(h0, .inr (11, fs_h0)), (qC, .inr (2, fs_qC))]) hD hS hA [0, 1] rfl
  refine vx_callv (vx_runV (As := []) (rest := []) ⟨hx, hb, hml, hown, hts⟩ (c_f_needEquation l hlt dC dI h0 qC fs_h0 fs_qC (mF.sub hF_h0 [0] rfl) (mF.sub hF_qC [0] rfl) H.size) (cwV 0 hts g_f_lines_f_needEquation_159 rfl rfl rfl hv_X11_needEquation ⟨Nat.le_of_ble_eq_true rfl, Nat.le_of_ble_eq_true rfl⟩) ⟨fun a U g mk q => by obtain ⟨q0, q1, qP, qK, qD, qE0, qE1⟩ := q; exact ⟨q0, q1, qP, va_K.moved (u := U) (U := U.calling g mk a) (Vm.Alike.refl U.vm) qK, qD, w_N.same rfl qE0, w_T.same rfl rfl qE1⟩, va_recv hKc hPc (ci := 11) (q0 := 0) rfl rfl, fun U hU hW => ⟨rfl, by rw [hU], by rw [hU]; exact hPc, va_K.moved hW.alike hKc, hDc.weaken (fun _ _ _ _ => trivial), w_N.warm hW hN, w_T.go hT hW hS.2.1 hFc hU⟩⟩ rfl rfl hl.1 rfl (lv_room (Nat.le_of_ble_eq_true rfl)) dX11_lines_1 ⟨(Nat.le_of_ble_eq_true rfl), (Nat.le_of_ble_eq_true rfl)⟩) hS (fun q _ h => hFc q h) hFc (fun q _ h => hFc q h) (fun E9 ce9 q9 u t H1 locs1 ht hvm hpx hBX hz1 hk1 hS1 hcell9 hv9 hcl9 => ?_) (fun u t H1 locs1 ht hvm hw hB hz1 hk1 hS1 => ?_)
  · skip
    obtain rfl : E9 = "java/lang/IllegalStateException" := hBX
    exact vx_out (fun x hx9 => (hnt x hx9).elim) hlocks hcell9 hv9 hcl9 (fun t9 ht9 _ => ⟨(), trivial, rfl, hS1.F ht9⟩) hS1.2.2 (Nat.le_of_ble_eq_true rfl) (Nat.le_of_ble_eq_true rfl)
  · skip
    exact (hw : False).elim
def wv_f_fault : List Cond := .code yX11_fault cX11_fault 1 (some .int) :: ([.fieldLink RX11 13 "MotionSigns" "faultPlace" "I"] ++ (wsX110 ++ ([])))
theorem gw_f_fault : wv_f_fault.all goodWord = true := by decide +kernel
theorem in_f_fault_X11 : ∀ w ∈ wsX110, w ∈ wv_f_fault := fun _ h => List.mem_cons_of_mem _ (List.mem_append_right _ (List.mem_append_left _ h))
set_option maxHeartbeats 4000000 in
set_option maxRecDepth 100000 in
/-- fault on a fresh object -/
theorem c_f_fault (l : Launch) (dC : Nat → ClassId) (dI : Nat → Nat → Nat) (h0 : Nat) (fs_h0 : List Value) (hF_h0 : mF 19 [(2, .int (-1))] fs_h0) (sz : Nat) : Met l yX11_fault wv_f_fault ({ frames := 0, cells := 0, slots := 0, locals := 0 }) (va_Pc [.ref h0] (fun U => U.heap.size = sz ∧ va_P (dC, dI) vwCl [(h0, .inr (11, fs_h0))] U.heap ∧ va_K (dC, dI) vwCl [] U ∧ va_D (fun _ => True) [(h0, .inr (11, fs_h0))] ∧ w_N U)) (va_Qi (fun (r : Int32) (_ : Unit) => r = (-1)) (fun _ t => va_P (dC, dI) vwCl [] t.heap ∧ va_K (dC, dI) vwCl [] t ∧ va_D (va_A [(h0, .inr (11, fs_h0))] sz) []) (va_A [(h0, .inr (11, fs_h0))] sz)) 0 0 (va_A [(h0, .inr (11, fs_h0))] sz) := by
  refine Met.ofW (cc := cX11_fault) (maxL := 1) (ret := (some .int)) (by decide) rfl ?_
  intro p e s m args below meth c s₁ B hml hv
  obtain ⟨rfl, hsz, hP, hK, hD0, hN⟩ := hv
  have hx := B.exec
  have hb := B.bytes
  have hr := B.returns
  have hts := atoms_spec (ws := wv_f_fault) B.pre
  have hown : s.vm.findClass RX11 = some m.cls := findClass_of_methodNamed B.named
  have hlocks := B.notSynchronized
  subst hsz
  have hD := hD0.self (sz := s.heap.size)
  generalize hAe : va_A [(h0, .inr (11, fs_h0))] s.heap.size = A at hD ⊢
  have hA : ∀ q : Nat, s.heap.size ≤ q → A q := fun q h => by rw [← hAe]; exact Or.inr h
  obtain ⟨H, hHe, hP, hS⟩ : ∃ H : Heap, H = s.heap ∧ va_P (dC, dI) vwCl [(h0, .inr (11, fs_h0))] H ∧ va_S A s.heap H [] := ⟨s.heap, rfl, hP, va_S.rf⟩
  have hl := lv_entry ([.ref h0]) (n := 1) (Nat.le_of_ble_eq_true rfl)
  rw [lg_entry_eq]
  generalize (lg_sl ([.ref h0]) ++ List.replicate (1 - (lg_sl ([.ref h0])).length) Slot.unset).toArray = ls at hl ⊢
  have hl : lv_has ls 1 [(0, .ref h0)] := hl
  rw [← hHe]; clear hHe
  refine lv_aload_n hx hb dX11_fault_0 rfl (lv_at hl 0 rfl) ?_
  refine va_get (D := (dC, dI)) (ci := 11) (v := .int (-1)) (C := RX11) (T := TX11) (N := 19) hx hb hts (in_f_fault_X11) hown hK hP 0 rfl rfl 2 (by decide) (hts (.fieldLink RX11 13 "MotionSigns" "faultPlace" "I") (List.mem_of_getElem? (i := 1) rfl)) (fun _ h9 => h9) (mF.get hF_h0 0 rfl) dX11_fault_1 ?_
  have hP9 := hP.sub (ws' := []) [] rfl
  have hD9 := hD.sub (ws' := []) [] (by decide) rfl
  have hK9 := hK.sub (tys' := []) [] rfl
  rw [← hAe] at hD9
  refine W.widen (k := 0) (n := 0) (Nat.le_of_ble_eq_true rfl) (Nat.le_of_ble_eq_true rfl) ?_
  subst hAe
  exact (W.iret (v := (-1)) hx hb hr (fun t ht hW => ⟨⟨(-1), (), rfl, rfl, by rw [ht]; exact hP9, va_K.moved hW.alike hK9, hD9⟩, hS.F ht⟩) hS.2.2 dX11_fault_4)
def wv_f_restore : List Cond := .code yX11_restore cX11_restore 1 (some .int) :: ([.fieldLink RX11 146 "MotionSigns" "images" "I"] ++ (wsX110 ++ ([])))
theorem gw_f_restore : wv_f_restore.all goodWord = true := by decide +kernel
theorem in_f_restore_X11 : ∀ w ∈ wsX110, w ∈ wv_f_restore := fun _ h => List.mem_cons_of_mem _ (List.mem_append_right _ (List.mem_append_left _ h))
set_option maxHeartbeats 4000000 in
set_option maxRecDepth 100000 in
/-- restore on a fresh object -/
theorem c_f_restore (l : Launch) (dC : Nat → ClassId) (dI : Nat → Nat → Nat) (h0 : Nat) (fs_h0 : List Value) (hF_h0 : mF 19 [(16, .int 0)] fs_h0) (sz : Nat) : Met l yX11_restore wv_f_restore ({ frames := 0, cells := 0, slots := 0, locals := 0 }) (va_Pc [.ref h0] (fun U => U.heap.size = sz ∧ va_P (dC, dI) vwCl [(h0, .inr (11, fs_h0))] U.heap ∧ va_K (dC, dI) vwCl [] U ∧ va_D (fun _ => True) [(h0, .inr (11, fs_h0))] ∧ w_N U)) (va_Qi (fun (r : Int32) (_ : Unit) => r = (-1)) (fun _ t => va_P (dC, dI) vwCl [] t.heap ∧ va_K (dC, dI) vwCl [] t ∧ va_D (va_A [(h0, .inr (11, fs_h0))] sz) []) (va_A [(h0, .inr (11, fs_h0))] sz)) 0 0 (va_A [(h0, .inr (11, fs_h0))] sz) := by
  refine Met.ofW (cc := cX11_restore) (maxL := 1) (ret := (some .int)) (by decide) rfl ?_
  intro p e s m args below meth c s₁ B hml hv
  obtain ⟨rfl, hsz, hP, hK, hD0, hN⟩ := hv
  have hx := B.exec
  have hb := B.bytes
  have hr := B.returns
  have hts := atoms_spec (ws := wv_f_restore) B.pre
  have hown : s.vm.findClass RX11 = some m.cls := findClass_of_methodNamed B.named
  have hlocks := B.notSynchronized
  subst hsz
  have hD := hD0.self (sz := s.heap.size)
  generalize hAe : va_A [(h0, .inr (11, fs_h0))] s.heap.size = A at hD ⊢
  have hA : ∀ q : Nat, s.heap.size ≤ q → A q := fun q h => by rw [← hAe]; exact Or.inr h
  obtain ⟨H, hHe, hP, hS⟩ : ∃ H : Heap, H = s.heap ∧ va_P (dC, dI) vwCl [(h0, .inr (11, fs_h0))] H ∧ va_S A s.heap H [] := ⟨s.heap, rfl, hP, va_S.rf⟩
  have hl := lv_entry ([.ref h0]) (n := 1) (Nat.le_of_ble_eq_true rfl)
  rw [lg_entry_eq]
  generalize (lg_sl ([.ref h0]) ++ List.replicate (1 - (lg_sl ([.ref h0])).length) Slot.unset).toArray = ls at hl ⊢
  have hl : lv_has ls 1 [(0, .ref h0)] := hl
  rw [← hHe]; clear hHe
  refine lv_aload_n hx hb dX11_restore_0 rfl (lv_at hl 0 rfl) ?_
  refine va_get (D := (dC, dI)) (ci := 11) (v := .int 0) (C := RX11) (T := TX11) (N := 19) hx hb hts (in_f_restore_X11) hown hK hP 0 rfl rfl 16 (by decide) (hts (.fieldLink RX11 146 "MotionSigns" "images" "I") (List.mem_of_getElem? (i := 1) rfl)) (fun _ h9 => h9) (mF.get hF_h0 0 rfl) dX11_restore_1 ?_
  refine lv_if_le (tgt := 15) hx hb dX11_restore_4 (by decide) (fun _ => ?_) (fun hc => absurd (by decide) hc)
  refine lv_iconst (v := -1) hx hb dX11_restore_15 (by decide) ?_
  have hP9 := hP.sub (ws' := []) [] rfl
  have hD9 := hD.sub (ws' := []) [] (by decide) rfl
  have hK9 := hK.sub (tys' := []) [] rfl
  rw [← hAe] at hD9
  refine W.widen (k := 0) (n := 0) (Nat.le_of_ble_eq_true rfl) (Nat.le_of_ble_eq_true rfl) ?_
  subst hAe
  exact (W.iret (v := (-1)) hx hb hr (fun t ht hW => ⟨⟨(-1), (), rfl, rfl, by rw [ht]; exact hP9, va_K.moved hW.alike hK9, hD9⟩, hS.F ht⟩) hS.2.2 dX11_restore_16)
def wv_f_count : List Cond := .code yX11_count cX11_count 2 (some .int) :: ([.fieldLink RX11 112 "MotionSigns" "tapeSize" "I", .fieldLink RX11 146 "MotionSigns" "images" "I"] ++ (wsX110 ++ ([])))
theorem gw_f_count : wv_f_count.all goodWord = true := by decide +kernel
theorem in_f_count_X11 : ∀ w ∈ wsX110, w ∈ wv_f_count := fun _ h => List.mem_cons_of_mem _ (List.mem_append_right _ (List.mem_append_left _ h))
set_option maxHeartbeats 4000000 in
set_option maxRecDepth 100000 in
/-- count on a fresh object -/
theorem c_f_count (l : Launch) (dC : Nat → ClassId) (dI : Nat → Nat → Nat) (h0 : Nat) (x0 : Int32) (fs_h0 : List Value) (hF_h0 : mF 19 [(1, .int 0), (16, .int 0)] fs_h0) (sz : Nat) : Met l yX11_count wv_f_count ({ frames := 0, cells := 0, slots := 0, locals := 0 }) (va_Pc [.ref h0, .int x0] (fun U => U.heap.size = sz ∧ va_P (dC, dI) vwCl [(h0, .inr (11, fs_h0))] U.heap ∧ va_K (dC, dI) vwCl [] U ∧ va_D (fun _ => True) [(h0, .inr (11, fs_h0))] ∧ w_N U)) (va_Qi (fun (r : Int32) (_ : Unit) => r = kCount x0) (fun _ t => va_P (dC, dI) vwCl [] t.heap ∧ va_K (dC, dI) vwCl [] t ∧ va_D (va_A [(h0, .inr (11, fs_h0))] sz) []) (va_A [(h0, .inr (11, fs_h0))] sz)) 0 0 (va_A [(h0, .inr (11, fs_h0))] sz) := by
  refine Met.ofW (cc := cX11_count) (maxL := 2) (ret := (some .int)) (by decide) rfl ?_
  intro p e s m args below meth c s₁ B hml hv
  obtain ⟨rfl, hsz, hP, hK, hD0, hN⟩ := hv
  have hx := B.exec
  have hb := B.bytes
  have hr := B.returns
  have hts := atoms_spec (ws := wv_f_count) B.pre
  have hown : s.vm.findClass RX11 = some m.cls := findClass_of_methodNamed B.named
  have hlocks := B.notSynchronized
  subst hsz
  have hD := hD0.self (sz := s.heap.size)
  generalize hAe : va_A [(h0, .inr (11, fs_h0))] s.heap.size = A at hD ⊢
  have hA : ∀ q : Nat, s.heap.size ≤ q → A q := fun q h => by rw [← hAe]; exact Or.inr h
  obtain ⟨H, hHe, hP, hS⟩ : ∃ H : Heap, H = s.heap ∧ va_P (dC, dI) vwCl [(h0, .inr (11, fs_h0))] H ∧ va_S A s.heap H [] := ⟨s.heap, rfl, hP, va_S.rf⟩
  have hl := lv_entry ([.ref h0, .int x0]) (n := 2) (Nat.le_of_ble_eq_true rfl)
  rw [lg_entry_eq]
  generalize (lg_sl ([.ref h0, .int x0]) ++ List.replicate (2 - (lg_sl ([.ref h0, .int x0])).length) Slot.unset).toArray = ls at hl ⊢
  have hl : lv_has ls 2 [(0, .ref h0), (1, .int x0)] := hl
  rw [← hHe]; clear hHe
  refine lv_iload_n hx hb dX11_count_0 rfl (lv_at hl 1 rfl) ?_
  refine lv_if_ne (tgt := 9) hx hb dX11_count_1 (by decide) (fun hc_1 => ?_) (fun hc_1 => ?_)
  · skip
    refine lv_iload_n hx hb dX11_count_9 rfl (lv_at hl 1 rfl) ?_
    refine lv_iconst (v := 1) hx hb dX11_count_10 (by decide) ?_
    refine lv_icmp_ne (tgt := 21) hx hb dX11_count_11 (by decide) (fun hc_2 => ?_) (fun hc_2 => ?_)
    · skip
      refine lv_iconst (v := -1) hx hb dX11_count_21 (by decide) ?_
      have hP9 := hP.sub (ws' := []) [] rfl
      have hD9 := hD.sub (ws' := []) [] (by decide) rfl
      have hK9 := hK.sub (tys' := []) [] rfl
      rw [← hAe] at hD9
      refine W.widen (k := 0) (n := 0) (Nat.le_of_ble_eq_true rfl) (Nat.le_of_ble_eq_true rfl) ?_
      subst hAe
      exact (W.iret (v := (-1)) hx hb hr (fun t ht hW => ⟨⟨(-1), (), rfl, (by simp [kCount, hc_1, hc_2]), by rw [ht]; exact hP9, va_K.moved hW.alike hK9, hD9⟩, hS.F ht⟩) hS.2.2 dX11_count_22)
    · skip
      refine lv_aload_n hx hb dX11_count_14 rfl (lv_at hl 0 rfl) ?_
      refine va_get (D := (dC, dI)) (ci := 11) (v := .int 0) (C := RX11) (T := TX11) (N := 19) hx hb hts (in_f_count_X11) hown hK hP 0 rfl rfl 1 (by decide) (hts (.fieldLink RX11 112 "MotionSigns" "tapeSize" "I") (List.mem_of_getElem? (i := 1) rfl)) (fun _ h9 => h9) (mF.get hF_h0 0 rfl) dX11_count_15 ?_
      refine lv_goto (tgt := 22) hx hb dX11_count_18 (by decide) ?_
      have hP9 := hP.sub (ws' := []) [] rfl
      have hD9 := hD.sub (ws' := []) [] (by decide) rfl
      have hK9 := hK.sub (tys' := []) [] rfl
      rw [← hAe] at hD9
      refine W.widen (k := 0) (n := 0) (Nat.le_of_ble_eq_true rfl) (Nat.le_of_ble_eq_true rfl) ?_
      subst hAe
      exact (W.iret (v := 0) hx hb hr (fun t ht hW => ⟨⟨0, (), rfl, (by simp [kCount, hc_1, hc_2]), by rw [ht]; exact hP9, va_K.moved hW.alike hK9, hD9⟩, hS.F ht⟩) hS.2.2 dX11_count_22)
  · skip
    refine lv_aload_n hx hb dX11_count_4 rfl (lv_at hl 0 rfl) ?_
    refine va_get (D := (dC, dI)) (ci := 11) (v := .int 0) (C := RX11) (T := TX11) (N := 19) hx hb hts (in_f_count_X11) hown hK hP 0 rfl rfl 16 (by decide) (hts (.fieldLink RX11 146 "MotionSigns" "images" "I") (List.mem_of_getElem? (i := 2) rfl)) (fun _ h9 => h9) (mF.get hF_h0 1 rfl) dX11_count_5 ?_
    have hP9 := hP.sub (ws' := []) [] rfl
    have hD9 := hD.sub (ws' := []) [] (by decide) rfl
    have hK9 := hK.sub (tys' := []) [] rfl
    rw [← hAe] at hD9
    refine W.widen (k := 0) (n := 0) (Nat.le_of_ble_eq_true rfl) (Nat.le_of_ble_eq_true rfl) ?_
    subst hAe
    exact (W.iret (v := 0) hx hb hr (fun t ht hW => ⟨⟨0, (), rfl, (by simp [kCount, hc_1]), by rw [ht]; exact hP9, va_K.moved hW.alike hK9, hD9⟩, hS.F ht⟩) hS.2.2 dX11_count_8)
def wv_f_needWhat : List Cond := .code yX11_needWhat cX11_needWhat 2 none :: ([.classLink RX11 218 "java/lang/IllegalArgumentException", .initialized "java/lang/IllegalArgumentException"] ++ (wt_IAE ++ ([])))
theorem gw_f_needWhat : wv_f_needWhat.all goodWord = true := by decide +kernel
set_option maxHeartbeats 4000000 in
set_option maxRecDepth 100000 in
/-- needWhat -/
theorem c_f_needWhat (l : Launch) (hlt : l.stackTraces = false) (dC : Nat → ClassId) (dI : Nat → Nat → Nat) (v : Int32) (sz : Nat) : vx_Met l yX11_needWhat wv_f_needWhat ({ frames := 6, cells := 1, slots := 6, locals := 90 }) (va_Pc [.int v, .int 2] (fun U => U.heap.size = sz ∧ va_P (dC, dI) vwCl [] U.heap ∧ va_K (dC, dI) vwCl [] U ∧ va_D (fun _ => True) [] ∧ w_N U ∧ w_T (va_A [] sz) U U.heap)) (va_Qv (fun (_ : Unit) => kWhat v) (fun _ t => va_P (dC, dI) vwCl [] t.heap ∧ va_K (dC, dI) vwCl [] t ∧ va_D (va_A [] sz) []) (va_A [] sz)) (vx_X (fun _ : Unit => ¬ kWhat v) (fun E _ _ => E = "java/lang/IllegalArgumentException") (va_A [] sz)) 1 6 (va_A [] sz) := by
  refine vx_ofW (cc := cX11_needWhat) (maxL := 2) (ret := none) (by decide) rfl ?_
  intro p e s m args below meth c s₁ B hml hnt hv
  obtain ⟨rfl, hsz, hP, hK, hD0, hN, hT⟩ := hv
  have hx := B.exec
  have hb := B.bytes
  have hr := B.returns
  have hts := atoms_spec (ws := wv_f_needWhat) B.pre
  have hown : s.vm.findClass RX11 = some m.cls := findClass_of_methodNamed B.named
  have hlocks := B.notSynchronized
  subst hsz
  have hD := hD0.self (sz := s.heap.size)
  generalize hAe : va_A [] s.heap.size = A at hD hT ⊢
  have hA : ∀ q : Nat, s.heap.size ≤ q → A q := fun q h => by rw [← hAe]; exact Or.inr h
  obtain ⟨H, hHe, hP, hS⟩ : ∃ H : Heap, H = s.heap ∧ va_P (dC, dI) vwCl [] H ∧ va_S A s.heap H [] := ⟨s.heap, rfl, hP, va_S.rf⟩
  have hl := lv_entry ([.int v, .int 2]) (n := 2) (Nat.le_of_ble_eq_true rfl)
  rw [lg_entry_eq]
  generalize (lg_sl ([.int v, .int 2]) ++ List.replicate (2 - (lg_sl ([.int v, .int 2])).length) Slot.unset).toArray = ls at hl ⊢
  have hl : lv_has ls 2 [(0, .int v), (1, .int 2)] := hl
  rw [← hHe]; clear hHe
  refine lv_iload_n hx hb dX11_needWhat_0 rfl (lv_at hl 0 rfl) ?_
  refine lv_if_lt (tgt := 9) hx hb dX11_needWhat_1 (by decide) (fun hc_1 => ?_) (fun hc_1 => ?_)
  · skip
    obtain ⟨sa9, hsa9⟩ := hT.2.2.1 (325, "no such what") (List.mem_of_getElem? (i := 1) rfl)
    exact vx_throwSW hx hb hlt (own := RX11) (cls := "java/lang/IllegalArgumentException") (text := "no such what") (names := exn) (ik := 218) (is := 325) (ic := 222) (sa := sa9) hown (by decide +kernel) exn_fit (hts (.classLink RX11 218 "java/lang/IllegalArgumentException") (List.mem_of_getElem? (i := 1) rfl)) (hts (.initialized "java/lang/IllegalArgumentException") (List.mem_of_getElem? (i := 2) rfl)) hsa9 (vx_hat (fun w h => hts w (List.mem_cons_of_mem _ (List.mem_append_right _ (List.mem_append_left _ h)))) tb_IAE (tc_IAE hT)) tg_IAE hT.1 hT.2.1 hS (by rw [hml]; exact hl.1) dX11_needWhat_9 dX11_needWhat_12 dX11_needWhat_13 dX11_needWhat_16 dX11_needWhat_19 (fun x hx9 => (hnt x hx9).elim) (Nat.le_of_ble_eq_true rfl) (Nat.le_of_ble_eq_true rfl) (Nat.le_of_ble_eq_true rfl) (Nat.le_of_ble_eq_true rfl) hlocks (fun t9 hW9 hz9 hk9 => ⟨(), (fun h9 => h9.1 hc_1), rfl, Nat.le_trans hS.1 hz9, fun q9 hq9 hA9 => (hk9 q9 (Nat.lt_of_lt_of_le hq9 hS.1)).trans (hS.2.1 q9 hq9 hA9)⟩) hS.2.2 (Nat.le_of_ble_eq_true rfl) (Nat.le_of_ble_eq_true rfl)
  · skip
    refine lv_iload_n hx hb dX11_needWhat_4 rfl (lv_at hl 0 rfl) ?_
    refine lv_iload_n hx hb dX11_needWhat_5 rfl (lv_at hl 1 rfl) ?_
    refine lv_icmp_le (tgt := 20) hx hb dX11_needWhat_6 (by decide) (fun hc_2 => ?_) (fun hc_2 => ?_)
    · skip
      have hP9 := hP.sub (ws' := []) [] rfl
      have hD9 := hD.sub (ws' := []) [] (by decide) rfl
      have hK9 := hK.sub (tys' := []) [] rfl
      rw [← hAe] at hD9
      refine W.widen (k := 1) (n := 6) (Nat.le_of_ble_eq_true rfl) (Nat.le_of_ble_eq_true rfl) ?_
      subst hAe
      exact vx_ret (W.vret hx hb hr (fun t ht hW => ⟨⟨(), rfl, ⟨hc_1, hc_2⟩, by rw [ht]; exact hP9, va_K.moved hW.alike hK9, hD9⟩, hS.F ht⟩) hS.2.2 dX11_needWhat_20)
    · skip
      obtain ⟨sa9, hsa9⟩ := hT.2.2.1 (325, "no such what") (List.mem_of_getElem? (i := 1) rfl)
      exact vx_throwSW hx hb hlt (own := RX11) (cls := "java/lang/IllegalArgumentException") (text := "no such what") (names := exn) (ik := 218) (is := 325) (ic := 222) (sa := sa9) hown (by decide +kernel) exn_fit (hts (.classLink RX11 218 "java/lang/IllegalArgumentException") (List.mem_of_getElem? (i := 1) rfl)) (hts (.initialized "java/lang/IllegalArgumentException") (List.mem_of_getElem? (i := 2) rfl)) hsa9 (vx_hat (fun w h => hts w (List.mem_cons_of_mem _ (List.mem_append_right _ (List.mem_append_left _ h)))) tb_IAE (tc_IAE hT)) tg_IAE hT.1 hT.2.1 hS (by rw [hml]; exact hl.1) dX11_needWhat_9 dX11_needWhat_12 dX11_needWhat_13 dX11_needWhat_16 dX11_needWhat_19 (fun x hx9 => (hnt x hx9).elim) (Nat.le_of_ble_eq_true rfl) (Nat.le_of_ble_eq_true rfl) (Nat.le_of_ble_eq_true rfl) (Nat.le_of_ble_eq_true rfl) hlocks (fun t9 hW9 hz9 hk9 => ⟨(), (fun h9 => hc_2 h9.2), rfl, Nat.le_trans hS.1 hz9, fun q9 hq9 hA9 => (hk9 q9 (Nat.lt_of_lt_of_le hq9 hS.1)).trans (hS.2.1 q9 hq9 hA9)⟩) hS.2.2 (Nat.le_of_ble_eq_true rfl) (Nat.le_of_ble_eq_true rfl)
def wv_p_length : List Cond := .code yX6_length cX6_length 1 (some .int) :: ([.fieldLink RX6 16 "MotionSigns$Poly" "size" "I", .fieldLink RX6 7 "MotionSigns$Poly" "key" "[J", .fieldLink RX6 13 "MotionSigns$Poly" "val" "[J", .methodLink RX6 20 Lib.Math.min.name, .static Lib.Math.min.name, .initialized "java/lang/Math", .code Lib.Math.min.name Lib.Math.min.code 2 (some .int)] ++ (wsX60 ++ ([])))
theorem gw_p_length : wv_p_length.all goodWord = true := by decide +kernel
theorem in_p_length_X6 : ∀ w ∈ wsX60, w ∈ wv_p_length := fun _ h => List.mem_cons_of_mem _ (List.mem_append_right _ (List.mem_append_left _ h))
set_option maxHeartbeats 4000000 in
set_option maxRecDepth 100000 in
/-- length -/
theorem c_p_length (l : Launch) (dC : Nat → ClassId) (dI : Nat → Nat → Nat) (h0 : Nat) (h0a : Nat) (h0b : Nat) (k1a : Nat) (k1b : Nat) (fs_h0 : List Value) (hF_h0 : mF 3 [(0, .ref h0a), (1, .ref h0b), (2, .int 0)] fs_h0) (sz : Nat) : Met l yX6_length wv_p_length ({ frames := 1, cells := 0, slots := 0, locals := 14 }) (va_Pc [.ref h0] (fun U => U.heap.size = sz ∧ va_P (dC, dI) vwCl [(h0, .inr (6, fs_h0)), (h0a, .inl (k1a, 16, .inr (.inl (fun _ => 0)))), (h0b, .inl (k1b, 16, .inr (.inl (fun _ => 0))))] U.heap ∧ va_K (dC, dI) vwCl [(k1a, .long), (k1b, .long)] U ∧ va_D (fun _ => True) [(h0, .inr (6, fs_h0)), (h0a, .inl (k1a, 16, .inr (.inl (fun _ => 0)))), (h0b, .inl (k1b, 16, .inr (.inl (fun _ => 0))))] ∧ w_N U)) (va_Qi (fun (r : Int32) (_ : Unit) => r = 0) (fun _ t => va_P (dC, dI) vwCl [(h0, .inr (6, fs_h0)), (h0a, .inl (k1a, 16, .inr (.inl (fun _ => 0)))), (h0b, .inl (k1b, 16, .inr (.inl (fun _ => 0))))] t.heap ∧ va_K (dC, dI) vwCl [(k1a, .long), (k1b, .long)] t ∧ va_D (va_A [(h0, .inr (6, fs_h0)), (h0a, .inl (k1a, 16, .inr (.inl (fun _ => 0)))), (h0b, .inl (k1b, 16, .inr (.inl (fun _ => 0))))] sz) [(h0, .inr (6, fs_h0)), (h0a, .inl (k1a, 16, .inr (.inl (fun _ => 0)))), (h0b, .inl (k1b, 16, .inr (.inl (fun _ => 0))))]) (va_A [(h0, .inr (6, fs_h0)), (h0a, .inl (k1a, 16, .inr (.inl (fun _ => 0)))), (h0b, .inl (k1b, 16, .inr (.inl (fun _ => 0))))] sz)) 0 0 (va_A [(h0, .inr (6, fs_h0)), (h0a, .inl (k1a, 16, .inr (.inl (fun _ => 0)))), (h0b, .inl (k1b, 16, .inr (.inl (fun _ => 0))))] sz) := by
  refine Met.ofW (cc := cX6_length) (maxL := 1) (ret := (some .int)) (by decide) rfl ?_
  intro p e s m args below meth c s₁ B hml hv
  obtain ⟨rfl, hsz, hP, hK, hD0, hN⟩ := hv
  have hx := B.exec
  have hb := B.bytes
  have hr := B.returns
  have hts := atoms_spec (ws := wv_p_length) B.pre
  have hown : s.vm.findClass RX6 = some m.cls := findClass_of_methodNamed B.named
  have hlocks := B.notSynchronized
  subst hsz
  have hD := hD0.self (sz := s.heap.size)
  generalize hAe : va_A [(h0, .inr (6, fs_h0)), (h0a, .inl (k1a, 16, .inr (.inl (fun _ => 0)))), (h0b, .inl (k1b, 16, .inr (.inl (fun _ => 0))))] s.heap.size = A at hD ⊢
  have hA : ∀ q : Nat, s.heap.size ≤ q → A q := fun q h => by rw [← hAe]; exact Or.inr h
  obtain ⟨H, hHe, hP, hS⟩ : ∃ H : Heap, H = s.heap ∧ va_P (dC, dI) vwCl [(h0, .inr (6, fs_h0)), (h0a, .inl (k1a, 16, .inr (.inl (fun _ => 0)))), (h0b, .inl (k1b, 16, .inr (.inl (fun _ => 0))))] H ∧ va_S A s.heap H [] := ⟨s.heap, rfl, hP, va_S.rf⟩
  have hl := lv_entry ([.ref h0]) (n := 1) (Nat.le_of_ble_eq_true rfl)
  rw [lg_entry_eq]
  generalize (lg_sl ([.ref h0]) ++ List.replicate (1 - (lg_sl ([.ref h0])).length) Slot.unset).toArray = ls at hl ⊢
  have hl : lv_has ls 1 [(0, .ref h0)] := hl
  rw [← hHe]; clear hHe
  refine lv_aload_n hx hb dX6_length_0 rfl (lv_at hl 0 rfl) ?_
  refine va_get (D := (dC, dI)) (ci := 6) (v := .int 0) (C := RX6) (T := TX6) (N := 3) hx hb hts (in_p_length_X6) hown hK hP 0 rfl rfl 2 (by decide) (hts (.fieldLink RX6 16 "MotionSigns$Poly" "size" "I") (List.mem_of_getElem? (i := 1) rfl)) (fun _ h9 => h9) (mF.get hF_h0 2 rfl) dX6_length_1 ?_
  refine lv_aload_n hx hb dX6_length_4 rfl (lv_at hl 0 rfl) ?_
  refine va_get (D := (dC, dI)) (ci := 6) (v := .ref h0a) (C := RX6) (T := TX6) (N := 3) hx hb hts (in_p_length_X6) hown hK hP 0 rfl rfl 0 (by decide) (hts (.fieldLink RX6 7 "MotionSigns$Poly" "key" "[J") (List.mem_of_getElem? (i := 2) rfl)) (fun _ h9 => h9) (mF.get hF_h0 0 rfl) dX6_length_5 ?_
  refine va_alen (v := 16) hx hb hK hP 1 0 rfl rfl rfl dX6_length_8 ?_
  refine lv_aload_n hx hb dX6_length_9 rfl (lv_at hl 0 rfl) ?_
  refine va_get (D := (dC, dI)) (ci := 6) (v := .ref h0b) (C := RX6) (T := TX6) (N := 3) hx hb hts (in_p_length_X6) hown hK hP 0 rfl rfl 1 (by decide) (hts (.fieldLink RX6 13 "MotionSigns$Poly" "val" "[J") (List.mem_of_getElem? (i := 3) rfl)) (fun _ h9 => h9) (mF.get hF_h0 1 rfl) dX6_length_10 ?_
  refine va_alen (v := 16) hx hb hK hP 2 1 rfl rfl rfl dX6_length_13 ?_
  refine va_mmin hx hb (by rw [hml]; exact hl.1.symm) hown (hts (.methodLink RX6 20 Lib.Math.min.name) (List.mem_of_getElem? (i := 4) rfl)) (hts (.static Lib.Math.min.name) (List.mem_of_getElem? (i := 5) rfl)) (hts (.initialized "java/lang/Math") (List.mem_of_getElem? (i := 6) rfl)) (hts (.code Lib.Math.min.name Lib.Math.min.code 2 (some .int)) (List.mem_of_getElem? (i := 7) rfl)) (Nat.le_of_ble_eq_true rfl) (Nat.le_of_ble_eq_true rfl) (Nat.le_of_ble_eq_true rfl) (Nat.le_of_ble_eq_true rfl) dX6_length_14 ?_
  refine lv_topi (fun v_1 ev_1 => ?_)
  have ev_1 : v_1 = 16 := ev_1.trans (by decide)
  subst ev_1
  refine va_mmin hx hb (by rw [hml]; exact hl.1.symm) hown (hts (.methodLink RX6 20 Lib.Math.min.name) (List.mem_of_getElem? (i := 4) rfl)) (hts (.static Lib.Math.min.name) (List.mem_of_getElem? (i := 5) rfl)) (hts (.initialized "java/lang/Math") (List.mem_of_getElem? (i := 6) rfl)) (hts (.code Lib.Math.min.name Lib.Math.min.code 2 (some .int)) (List.mem_of_getElem? (i := 7) rfl)) (Nat.le_of_ble_eq_true rfl) (Nat.le_of_ble_eq_true rfl) (Nat.le_of_ble_eq_true rfl) (Nat.le_of_ble_eq_true rfl) dX6_length_17 ?_
  refine lv_topi (fun v_2 ev_2 => ?_)
  have ev_2 : v_2 = 0 := ev_2.trans (by decide)
  subst ev_2
  have hP9 := hP.sub (ws' := [(h0, .inr (6, fs_h0)), (h0a, .inl (k1a, 16, .inr (.inl (fun _ => 0)))), (h0b, .inl (k1b, 16, .inr (.inl (fun _ => 0))))]) [0, 1, 2] rfl
  have hD9 := hD.sub (ws' := [(h0, .inr (6, fs_h0)), (h0a, .inl (k1a, 16, .inr (.inl (fun _ => 0)))), (h0b, .inl (k1b, 16, .inr (.inl (fun _ => 0))))]) [0, 1, 2] (by decide) rfl
  have hK9 := hK.sub (tys' := [(k1a, .long), (k1b, .long)]) [0, 1] rfl
  rw [← hAe] at hD9
  refine W.widen (k := 0) (n := 0) (Nat.le_of_ble_eq_true rfl) (Nat.le_of_ble_eq_true rfl) ?_
  subst hAe
  exact (W.iret (v := 0) hx hb hr (fun t ht hW => ⟨⟨0, (), rfl, rfl, by rw [ht]; exact hP9, va_K.moved hW.alike hK9, hD9⟩, hS.F ht⟩) hS.2.2 dX6_length_20)
def wv_p_clear : List Cond := .code yX6_clear cX6_clear 1 none :: ([.fieldLink RX6 16 "MotionSigns$Poly" "size" "I"] ++ (wsX60 ++ ([])))
theorem gw_p_clear : wv_p_clear.all goodWord = true := by decide +kernel
theorem in_p_clear_X6 : ∀ w ∈ wsX60, w ∈ wv_p_clear := fun _ h => List.mem_cons_of_mem _ (List.mem_append_right _ (List.mem_append_left _ h))
set_option maxHeartbeats 4000000 in
set_option maxRecDepth 100000 in
/-- clear -/
theorem c_p_clear (l : Launch) (dC : Nat → ClassId) (dI : Nat → Nat → Nat) (h0 : Nat) (h0a : Nat) (h0b : Nat) (fs_h0 : List Value) (hF_h0 : mF 3 [(0, .ref h0a), (1, .ref h0b), (2, .int 0)] fs_h0) (sz : Nat) : Met l yX6_clear wv_p_clear ({ frames := 0, cells := 0, slots := 0, locals := 0 }) (va_Pc [.ref h0] (fun U => U.heap.size = sz ∧ va_P (dC, dI) vwCl [(h0, .inr (6, fs_h0))] U.heap ∧ va_K (dC, dI) vwCl [] U ∧ va_D (fun _ => True) [(h0, .inr (6, fs_h0))] ∧ w_N U)) (va_Qv (fun (_ : Unit) => True) (fun _ t => ∃ (fs_h02 : List Value), va_P (dC, dI) vwCl [(h0, .inr (6, fs_h02))] t.heap ∧ va_K (dC, dI) vwCl [] t ∧ va_D (va_A [(h0, .inr (6, fs_h0))] sz) [(h0, .inr (6, fs_h02))] ∧ mF 3 [(0, .ref h0a), (1, .ref h0b), (2, .int 0)] fs_h02) (va_A [(h0, .inr (6, fs_h0))] sz)) 0 0 (va_A [(h0, .inr (6, fs_h0))] sz) := by
  refine Met.ofW (cc := cX6_clear) (maxL := 1) (ret := none) (by decide) rfl ?_
  intro p e s m args below meth c s₁ B hml hv
  obtain ⟨rfl, hsz, hP, hK, hD0, hN⟩ := hv
  have hx := B.exec
  have hb := B.bytes
  have hr := B.returns
  have hts := atoms_spec (ws := wv_p_clear) B.pre
  have hown : s.vm.findClass RX6 = some m.cls := findClass_of_methodNamed B.named
  have hlocks := B.notSynchronized
  subst hsz
  have hD := hD0.self (sz := s.heap.size)
  generalize hAe : va_A [(h0, .inr (6, fs_h0))] s.heap.size = A at hD ⊢
  have hA : ∀ q : Nat, s.heap.size ≤ q → A q := fun q h => by rw [← hAe]; exact Or.inr h
  obtain ⟨H, hHe, hP, hS⟩ : ∃ H : Heap, H = s.heap ∧ va_P (dC, dI) vwCl [(h0, .inr (6, fs_h0))] H ∧ va_S A s.heap H [] := ⟨s.heap, rfl, hP, va_S.rf⟩
  have hl := lv_entry ([.ref h0]) (n := 1) (Nat.le_of_ble_eq_true rfl)
  rw [lg_entry_eq]
  generalize (lg_sl ([.ref h0]) ++ List.replicate (1 - (lg_sl ([.ref h0])).length) Slot.unset).toArray = ls at hl ⊢
  have hl : lv_has ls 1 [(0, .ref h0)] := hl
  rw [← hHe]; clear hHe
  refine lv_aload_n hx hb dX6_clear_0 rfl (lv_at hl 0 rfl) ?_
  refine lv_iconst (v := 0) hx hb dX6_clear_1 (by decide) ?_
  refine va_put (D := (dC, dI)) (ci := 6) (v := .int 0) (ty := .int) (C := RX6) (T := TX6) (N := 3) hx hb hts (in_p_clear_X6) tyX6 tyX6_ok nmX6 hown hK hP hD hS 0 rfl rfl 2 (by decide) (hts (.fieldLink RX6 16 "MotionSigns$Poly" "size" "I") (List.mem_of_getElem? (i := 1) rfl)) (fun _ h9 => h9) rfl (tyX6_ok 2 (by decide)) rfl rfl (mF.lt hF_h0 (by decide)) dX6_clear_2 ?_
  clear hP hD hS; try clear H
  intro H locs hP hD hS
  have hF0 := mF.sub (L' := [(0, .ref h0a), (1, .ref h0b)]) hF_h0 [0, 1] rfl
  have hF1 := mF.put hF0 2 (.int 0) (by decide) rfl
  replace hP : va_P (dC, dI) vwCl [(h0, .inr (6, (fs_h0.set 2 (.int 0))))] H := hP
  replace hD : va_D A [(h0, .inr (6, (fs_h0.set 2 (.int 0))))] := hD
  generalize fs_h0.set 2 (.int 0) = fs_1 at hP hD hF1
  replace hF_h0 : mF 3 [(2, .int 0), (0, .ref h0a), (1, .ref h0b)] fs_1 := hF1
  clear hF1 hF0
  replace hP : va_P (dC, dI) vwCl [(h0, .inr (6, fs_1))] H := hP
  replace hD : va_D A [(h0, .inr (6, fs_1))] := hD
  have hP9 := hP.sub (ws' := [(h0, .inr (6, fs_1))]) [0] rfl
  have hD9 := hD.sub (ws' := [(h0, .inr (6, fs_1))]) [0] (by decide) rfl
  have hK9 := hK.sub (tys' := []) [] rfl
  rw [← hAe] at hD9
  refine W.widen (k := 0) (n := 0) (Nat.le_of_ble_eq_true rfl) (Nat.le_of_ble_eq_true rfl) ?_
  subst hAe
  exact (W.vret hx hb hr (fun t ht hW => ⟨⟨(), rfl, trivial, fs_1, by rw [ht]; exact hP9, va_K.moved hW.alike hK9, hD9, (mF.sub hF_h0 [1, 2, 0] rfl)⟩, hS.F ht⟩) hS.2.2 dX6_clear_5)
def wv_p_copy : List Cond := .code yX6_copy cX6_copy 4 none :: ([.methodLink RX6 37 yX6_length, .instanceMethod yX6_length, .selects RX6 yX6_length yX6_length, .initialized RX6, .fieldLink RX6 16 "MotionSigns$Poly" "size" "I"] ++ (wv_p_length ++ (wsX60 ++ ([]))))
theorem gw_p_copy : wv_p_copy.all goodWord = true := by decide +kernel
theorem in_p_copy_X6 : ∀ w ∈ wsX60, w ∈ wv_p_copy := fun _ h => List.mem_cons_of_mem _ (List.mem_append_right _ (List.mem_append_right _ (List.mem_append_left _ h)))
theorem g_p_copy_p_length_37 : GoodIn wv_p_copy (wsV RX6 37 RX6 yX6_length wv_p_length) := goodIn_app (goodIn_of _ (by decide +kernel)) (goodIn_sub (fun _ h => List.mem_cons_of_mem _ (List.mem_append_right _ (List.mem_append_left _ h))) gw_p_length)
set_option maxHeartbeats 4000000 in
set_option maxRecDepth 100000 in
/-- copy -/
theorem c_p_copy (l : Launch) (dC : Nat → ClassId) (dI : Nat → Nat → Nat) (h0 : Nat) (h0a : Nat) (h0b : Nat) (h1 : Nat) (h1a : Nat) (h1b : Nat) (k1a : Nat) (k1b : Nat) (fs_h0 : List Value) (fs_h1 : List Value) (hF_h0 : mF 3 [(0, .ref h0a), (1, .ref h0b), (2, .int 0)] fs_h0) (hF_h1 : mF 3 [(0, .ref h1a), (1, .ref h1b), (2, .int 0)] fs_h1) (sz : Nat) : Met l yX6_copy wv_p_copy ({ frames := 2, cells := 0, slots := 0, locals := 34 }) (va_Pc [.ref h0, .ref h1] (fun U => U.heap.size = sz ∧ va_P (dC, dI) vwCl [(h0, .inr (6, fs_h0)), (h1, .inr (6, fs_h1)), (h1a, .inl (k1a, 16, .inr (.inl (fun _ => 0)))), (h1b, .inl (k1b, 16, .inr (.inl (fun _ => 0))))] U.heap ∧ va_K (dC, dI) vwCl [(k1a, .long), (k1b, .long)] U ∧ va_D (fun _ => True) [(h0, .inr (6, fs_h0)), (h1, .inr (6, fs_h1)), (h1a, .inl (k1a, 16, .inr (.inl (fun _ => 0)))), (h1b, .inl (k1b, 16, .inr (.inl (fun _ => 0))))] ∧ w_N U)) (va_Qv (fun (_ : Unit) => True) (fun _ t => ∃ (fs_h02 : List Value), va_P (dC, dI) vwCl [(h0, .inr (6, fs_h02)), (h1, .inr (6, fs_h1)), (h1a, .inl (k1a, 16, .inr (.inl (fun _ => 0)))), (h1b, .inl (k1b, 16, .inr (.inl (fun _ => 0))))] t.heap ∧ va_K (dC, dI) vwCl [(k1a, .long), (k1b, .long)] t ∧ va_D (va_A [(h0, .inr (6, fs_h0)), (h1, .inr (6, fs_h1)), (h1a, .inl (k1a, 16, .inr (.inl (fun _ => 0)))), (h1b, .inl (k1b, 16, .inr (.inl (fun _ => 0))))] sz) [(h0, .inr (6, fs_h02)), (h1, .inr (6, fs_h1)), (h1a, .inl (k1a, 16, .inr (.inl (fun _ => 0)))), (h1b, .inl (k1b, 16, .inr (.inl (fun _ => 0))))] ∧ mF 3 [(0, .ref h0a), (1, .ref h0b), (2, .int 0)] fs_h02) (va_A [(h0, .inr (6, fs_h0)), (h1, .inr (6, fs_h1)), (h1a, .inl (k1a, 16, .inr (.inl (fun _ => 0)))), (h1b, .inl (k1b, 16, .inr (.inl (fun _ => 0))))] sz)) 0 0 (va_A [(h0, .inr (6, fs_h0)), (h1, .inr (6, fs_h1)), (h1a, .inl (k1a, 16, .inr (.inl (fun _ => 0)))), (h1b, .inl (k1b, 16, .inr (.inl (fun _ => 0))))] sz) := by
  refine Met.ofW (cc := cX6_copy) (maxL := 4) (ret := none) (by decide) rfl ?_
  intro p e s m args below meth c s₁ B hml hv
  obtain ⟨rfl, hsz, hP, hK, hD0, hN⟩ := hv
  have hx := B.exec
  have hb := B.bytes
  have hr := B.returns
  have hts := atoms_spec (ws := wv_p_copy) B.pre
  have hown : s.vm.findClass RX6 = some m.cls := findClass_of_methodNamed B.named
  have hlocks := B.notSynchronized
  subst hsz
  have hD := hD0.self (sz := s.heap.size)
  generalize hAe : va_A [(h0, .inr (6, fs_h0)), (h1, .inr (6, fs_h1)), (h1a, .inl (k1a, 16, .inr (.inl (fun _ => 0)))), (h1b, .inl (k1b, 16, .inr (.inl (fun _ => 0))))] s.heap.size = A at hD ⊢
  have hA : ∀ q : Nat, s.heap.size ≤ q → A q := fun q h => by rw [← hAe]; exact Or.inr h
  obtain ⟨H, hHe, hP, hS⟩ : ∃ H : Heap, H = s.heap ∧ va_P (dC, dI) vwCl [(h0, .inr (6, fs_h0)), (h1, .inr (6, fs_h1)), (h1a, .inl (k1a, 16, .inr (.inl (fun _ => 0)))), (h1b, .inl (k1b, 16, .inr (.inl (fun _ => 0))))] H ∧ va_S A s.heap H [] := ⟨s.heap, rfl, hP, va_S.rf⟩
  have hl := lv_entry ([.ref h0, .ref h1]) (n := 4) (Nat.le_of_ble_eq_true rfl)
  rw [lg_entry_eq]
  generalize (lg_sl ([.ref h0, .ref h1]) ++ List.replicate (4 - (lg_sl ([.ref h0, .ref h1])).length) Slot.unset).toArray = ls at hl ⊢
  have hl : lv_has ls 4 [(0, .ref h0), (1, .ref h1)] := hl
  rw [← hHe]; clear hHe
  refine lv_aload_n hx hb dX6_copy_0 rfl (lv_at hl 1 rfl) ?_
  have hPc := hP.sub (ws' := [(h1, .inr (6, fs_h1)), (h1a, .inl (k1a, 16, .inr (.inl (fun _ => 0)))), (h1b, .inl (k1b, 16, .inr (.inl (fun _ => 0))))]) [1, 2, 3] rfl
  have hDc := hD.sub (ws' := [(h1, .inr (6, fs_h1)), (h1a, .inl (k1a, 16, .inr (.inl (fun _ => 0)))), (h1b, .inl (k1b, 16, .inr (.inl (fun _ => 0))))]) [1, 2, 3] (by decide) rfl
  have hKc := hK.sub (tys' := [(k1a, .long), (k1b, .long)]) [0, 1] rfl
  have hFc := va_free (wc := [(h1, .inr (6, fs_h1)), (h1a, .inl (k1a, 16, .inr (.inl (fun _ => 0)))), (h1b, .inl (k1b, 16, .inr (.inl (fun _ => 0))))]) hD hS hA [1, 2, 3] rfl
  refine va_calli (va_runV (As := []) (rest := []) ⟨hx, hb, hml, hown, hts⟩ (c_p_length l dC dI h1 h1a h1b k1a k1b fs_h1 (mF.sub hF_h1 [0, 1, 2] rfl) H.size) (cwV 0 hts g_p_copy_p_length_37 rfl rfl rfl hv_X6_length ⟨Nat.le_of_ble_eq_true rfl, Nat.le_of_ble_eq_true rfl⟩) ⟨fun a U g mk q => by obtain ⟨q0, q1, qP, qK, qD, qE0⟩ := q; exact ⟨q0, q1, qP, va_K.moved (u := U) (U := U.calling g mk a) (Vm.Alike.refl U.vm) qK, qD, w_N.same rfl qE0⟩, va_recv hKc hPc (ci := 6) (q0 := 0) rfl rfl, fun U hU hW => ⟨rfl, by rw [hU], by rw [hU]; exact hPc, va_K.moved hW.alike hKc, hDc.weaken (fun _ _ _ _ => trivial), w_N.warm hW hN⟩⟩ rfl rfl hl.1 rfl (lv_room (Nat.le_of_ble_eq_true rfl)) dX6_copy_1 ⟨(Nat.le_of_ble_eq_true rfl), (Nat.le_of_ble_eq_true rfl)⟩) hS (fun q _ h => hFc q h) hFc (fun r_1 u t H1 locs1 ht hvm hw hB hz1 hk1 hS1 => ?_)
  obtain ⟨hP1, hK1, hD1⟩ := hB
  rw [ht] at hP1
  have hK1 := va_K.moved hvm.symm hK1
  have hJ := va_join (wr := [(h0, .inr (6, fs_h0))]) (w1 := [(h1, .inr (6, fs_h1)), (h1a, .inl (k1a, 16, .inr (.inl (fun _ => 0)))), (h1b, .inl (k1b, 16, .inr (.inl (fun _ => 0))))]) hP hD [1, 2, 3] [0] rfl rfl (by decide) (by decide) hk1 hFc hP1 hD1
  clear hP hD hPc hDc hKc hFc hz1; try clear hk1
  obtain ⟨hP, hD⟩ := hJ
  replace hK := (hK.sub (tys' := [(k1a, .long), (k1b, .long)]) [0, 1] rfl).app (hK1.sub (tys' := []) [] rfl)
  clear hP1 hK1 hD1 hvm ht hS; try clear t
  try clear H
  revert hS1
  intro hS
  generalize H1 = H at hP hS ⊢; try clear H1
  replace hP : va_P (dC, dI) vwCl [(h0, .inr (6, fs_h0)), (h1, .inr (6, fs_h1)), (h1a, .inl (k1a, 16, .inr (.inl (fun _ => 0)))), (h1b, .inl (k1b, 16, .inr (.inl (fun _ => 0))))] H := hP
  replace hD : va_D A [(h0, .inr (6, fs_h0)), (h1, .inr (6, fs_h1)), (h1a, .inl (k1a, 16, .inr (.inl (fun _ => 0)))), (h1b, .inl (k1b, 16, .inr (.inl (fun _ => 0))))] := hD
  replace hK : va_K (dC, dI) vwCl [(k1a, .long), (k1b, .long)] s := hK
  have hw_2 : r_1 = 0 := hw; clear hw
  subst hw_2
  refine lv_istore_n (lv' := [(2, .int 0), (0, .ref h0), (1, .ref h1)]) hx hb dX6_copy_4 rfl hl (by decide) rfl (fun ls hl => ?_)
  refine lv_aload_n hx hb dX6_copy_5 rfl (lv_at hl 1 rfl) ?_
  refine lv_iconst (v := 0) hx hb dX6_copy_6 (by decide) ?_
  refine va_put (D := (dC, dI)) (ci := 6) (v := .int 0) (ty := .int) (C := RX6) (T := TX6) (N := 3) hx hb hts (in_p_copy_X6) tyX6 tyX6_ok nmX6 hown hK hP hD hS 0 rfl rfl 2 (by decide) (hts (.fieldLink RX6 16 "MotionSigns$Poly" "size" "I") (List.mem_of_getElem? (i := 5) rfl)) (fun _ h9 => h9) rfl (tyX6_ok 2 (by decide)) rfl rfl (mF.lt hF_h0 (by decide)) dX6_copy_7 ?_
  clear hP hD hS; try clear H
  intro H locs hP hD hS
  have hF0 := mF.sub (L' := [(0, .ref h0a), (1, .ref h0b)]) hF_h0 [0, 1] rfl
  have hF1 := mF.put hF0 2 (.int 0) (by decide) rfl
  replace hP : va_P (dC, dI) vwCl [(h0, .inr (6, (fs_h0.set 2 (.int 0)))), (h1, .inr (6, fs_h1)), (h1a, .inl (k1a, 16, .inr (.inl (fun _ => 0)))), (h1b, .inl (k1b, 16, .inr (.inl (fun _ => 0))))] H := hP
  replace hD : va_D A [(h0, .inr (6, (fs_h0.set 2 (.int 0)))), (h1, .inr (6, fs_h1)), (h1a, .inl (k1a, 16, .inr (.inl (fun _ => 0)))), (h1b, .inl (k1b, 16, .inr (.inl (fun _ => 0))))] := hD
  generalize fs_h0.set 2 (.int 0) = fs_3 at hP hD hF1
  replace hF_h0 : mF 3 [(2, .int 0), (0, .ref h0a), (1, .ref h0b)] fs_3 := hF1
  clear hF1 hF0
  replace hP : va_P (dC, dI) vwCl [(h0, .inr (6, fs_3)), (h1, .inr (6, fs_h1)), (h1a, .inl (k1a, 16, .inr (.inl (fun _ => 0)))), (h1b, .inl (k1b, 16, .inr (.inl (fun _ => 0))))] H := hP
  replace hD : va_D A [(h0, .inr (6, fs_3)), (h1, .inr (6, fs_h1)), (h1a, .inl (k1a, 16, .inr (.inl (fun _ => 0)))), (h1b, .inl (k1b, 16, .inr (.inl (fun _ => 0))))] := hD
  refine lv_iconst (v := 0) hx hb dX6_copy_10 (by decide) ?_
  refine lv_istore_n (lv' := [(3, .int 0), (2, .int 0), (0, .ref h0), (1, .ref h1)]) hx hb dX6_copy_11 rfl hl (by decide) rfl (fun ls hl => ?_)
  refine lv_iload_n hx hb dX6_copy_12 rfl (lv_at hl 0 rfl) ?_
  refine lv_iload_n hx hb dX6_copy_13 rfl (lv_at hl 1 rfl) ?_
  refine lv_icmp_ge (tgt := 39) hx hb dX6_copy_14 (by decide) (fun _ => ?_) (fun hc => absurd (by decide) hc)
  have hP9 := hP.sub (ws' := [(h0, .inr (6, fs_3)), (h1, .inr (6, fs_h1)), (h1a, .inl (k1a, 16, .inr (.inl (fun _ => 0)))), (h1b, .inl (k1b, 16, .inr (.inl (fun _ => 0))))]) [0, 1, 2, 3] rfl
  have hD9 := hD.sub (ws' := [(h0, .inr (6, fs_3)), (h1, .inr (6, fs_h1)), (h1a, .inl (k1a, 16, .inr (.inl (fun _ => 0)))), (h1b, .inl (k1b, 16, .inr (.inl (fun _ => 0))))]) [0, 1, 2, 3] (by decide) rfl
  have hK9 := hK.sub (tys' := [(k1a, .long), (k1b, .long)]) [0, 1] rfl
  rw [← hAe] at hD9
  refine W.widen (k := 0) (n := 0) (Nat.le_of_ble_eq_true rfl) (Nat.le_of_ble_eq_true rfl) ?_
  subst hAe
  exact (W.vret hx hb hr (fun t ht hW => ⟨⟨(), rfl, trivial, fs_3, by rw [ht]; exact hP9, va_K.moved hW.alike hK9, hD9, (mF.sub hF_h0 [1, 2, 0] rfl)⟩, hS.F ht⟩) hS.2.2 dX6_copy_39)
def wv_p_at : List Cond := .code yX6_at cX6_at 5 (some .long) :: ([.methodLink RX6 37 yX6_length, .instanceMethod yX6_length, .selects RX6 yX6_length yX6_length, .initialized RX6] ++ (wv_p_length ++ ([])))
theorem gw_p_at : wv_p_at.all goodWord = true := by decide +kernel
theorem g_p_at_p_length_37 : GoodIn wv_p_at (wsV RX6 37 RX6 yX6_length wv_p_length) := goodIn_app (goodIn_of _ (by decide +kernel)) (goodIn_sub (fun _ h => List.mem_cons_of_mem _ (List.mem_append_right _ (List.mem_append_left _ h))) gw_p_length)
set_option maxHeartbeats 4000000 in
set_option maxRecDepth 100000 in
/-- at -/
theorem c_p_at (l : Launch) (dC : Nat → ClassId) (dI : Nat → Nat → Nat) (h0 : Nat) (h0a : Nat) (h0b : Nat) (k1a : Nat) (k1b : Nat) (k : Int64) (fs_h0 : List Value) (hF_h0 : mF 3 [(0, .ref h0a), (1, .ref h0b), (2, .int 0)] fs_h0) (sz : Nat) : Met l yX6_at wv_p_at ({ frames := 2, cells := 0, slots := 0, locals := 34 }) (va_Pc [.ref h0, .long k] (fun U => U.heap.size = sz ∧ va_P (dC, dI) vwCl [(h0, .inr (6, fs_h0)), (h0a, .inl (k1a, 16, .inr (.inl (fun _ => 0)))), (h0b, .inl (k1b, 16, .inr (.inl (fun _ => 0))))] U.heap ∧ va_K (dC, dI) vwCl [(k1a, .long), (k1b, .long)] U ∧ va_D (fun _ => True) [(h0, .inr (6, fs_h0)), (h0a, .inl (k1a, 16, .inr (.inl (fun _ => 0)))), (h0b, .inl (k1b, 16, .inr (.inl (fun _ => 0))))] ∧ w_N U)) (va_Ql (fun (r : Int64) (_ : Unit) => r = 0) (fun _ t => va_P (dC, dI) vwCl [(h0, .inr (6, fs_h0)), (h0a, .inl (k1a, 16, .inr (.inl (fun _ => 0)))), (h0b, .inl (k1b, 16, .inr (.inl (fun _ => 0))))] t.heap ∧ va_K (dC, dI) vwCl [(k1a, .long), (k1b, .long)] t ∧ va_D (va_A [(h0, .inr (6, fs_h0)), (h0a, .inl (k1a, 16, .inr (.inl (fun _ => 0)))), (h0b, .inl (k1b, 16, .inr (.inl (fun _ => 0))))] sz) [(h0, .inr (6, fs_h0)), (h0a, .inl (k1a, 16, .inr (.inl (fun _ => 0)))), (h0b, .inl (k1b, 16, .inr (.inl (fun _ => 0))))]) (va_A [(h0, .inr (6, fs_h0)), (h0a, .inl (k1a, 16, .inr (.inl (fun _ => 0)))), (h0b, .inl (k1b, 16, .inr (.inl (fun _ => 0))))] sz)) 0 0 (va_A [(h0, .inr (6, fs_h0)), (h0a, .inl (k1a, 16, .inr (.inl (fun _ => 0)))), (h0b, .inl (k1b, 16, .inr (.inl (fun _ => 0))))] sz) := by
  refine Met.ofW (cc := cX6_at) (maxL := 5) (ret := (some .long)) (by decide) rfl ?_
  intro p e s m args below meth c s₁ B hml hv
  obtain ⟨rfl, hsz, hP, hK, hD0, hN⟩ := hv
  have hx := B.exec
  have hb := B.bytes
  have hr := B.returns
  have hts := atoms_spec (ws := wv_p_at) B.pre
  have hown : s.vm.findClass RX6 = some m.cls := findClass_of_methodNamed B.named
  have hlocks := B.notSynchronized
  subst hsz
  have hD := hD0.self (sz := s.heap.size)
  generalize hAe : va_A [(h0, .inr (6, fs_h0)), (h0a, .inl (k1a, 16, .inr (.inl (fun _ => 0)))), (h0b, .inl (k1b, 16, .inr (.inl (fun _ => 0))))] s.heap.size = A at hD ⊢
  have hA : ∀ q : Nat, s.heap.size ≤ q → A q := fun q h => by rw [← hAe]; exact Or.inr h
  obtain ⟨H, hHe, hP, hS⟩ : ∃ H : Heap, H = s.heap ∧ va_P (dC, dI) vwCl [(h0, .inr (6, fs_h0)), (h0a, .inl (k1a, 16, .inr (.inl (fun _ => 0)))), (h0b, .inl (k1b, 16, .inr (.inl (fun _ => 0))))] H ∧ va_S A s.heap H [] := ⟨s.heap, rfl, hP, va_S.rf⟩
  have hl := lv_entry ([.ref h0, .long k]) (n := 5) (Nat.le_of_ble_eq_true rfl)
  rw [lg_entry_eq]
  generalize (lg_sl ([.ref h0, .long k]) ++ List.replicate (5 - (lg_sl ([.ref h0, .long k])).length) Slot.unset).toArray = ls at hl ⊢
  have hl : lv_has ls 5 [(0, .ref h0), (1, .long k)] := hl
  rw [← hHe]; clear hHe
  refine lv_aload_n hx hb dX6_at_0 rfl (lv_at hl 0 rfl) ?_
  have hPc := hP.sub (ws' := [(h0, .inr (6, fs_h0)), (h0a, .inl (k1a, 16, .inr (.inl (fun _ => 0)))), (h0b, .inl (k1b, 16, .inr (.inl (fun _ => 0))))]) [0, 1, 2] rfl
  have hDc := hD.sub (ws' := [(h0, .inr (6, fs_h0)), (h0a, .inl (k1a, 16, .inr (.inl (fun _ => 0)))), (h0b, .inl (k1b, 16, .inr (.inl (fun _ => 0))))]) [0, 1, 2] (by decide) rfl
  have hKc := hK.sub (tys' := [(k1a, .long), (k1b, .long)]) [0, 1] rfl
  have hFc := va_free (wc := [(h0, .inr (6, fs_h0)), (h0a, .inl (k1a, 16, .inr (.inl (fun _ => 0)))), (h0b, .inl (k1b, 16, .inr (.inl (fun _ => 0))))]) hD hS hA [0, 1, 2] rfl
  refine va_calli (va_runV (As := []) (rest := []) ⟨hx, hb, hml, hown, hts⟩ (c_p_length l dC dI h0 h0a h0b k1a k1b fs_h0 (mF.sub hF_h0 [0, 1, 2] rfl) H.size) (cwV 0 hts g_p_at_p_length_37 rfl rfl rfl hv_X6_length ⟨Nat.le_of_ble_eq_true rfl, Nat.le_of_ble_eq_true rfl⟩) ⟨fun a U g mk q => by obtain ⟨q0, q1, qP, qK, qD, qE0⟩ := q; exact ⟨q0, q1, qP, va_K.moved (u := U) (U := U.calling g mk a) (Vm.Alike.refl U.vm) qK, qD, w_N.same rfl qE0⟩, va_recv hKc hPc (ci := 6) (q0 := 0) rfl rfl, fun U hU hW => ⟨rfl, by rw [hU], by rw [hU]; exact hPc, va_K.moved hW.alike hKc, hDc.weaken (fun _ _ _ _ => trivial), w_N.warm hW hN⟩⟩ rfl rfl hl.1 rfl (lv_room (Nat.le_of_ble_eq_true rfl)) dX6_at_1 ⟨(Nat.le_of_ble_eq_true rfl), (Nat.le_of_ble_eq_true rfl)⟩) hS (fun q _ h => hFc q h) hFc (fun r_1 u t H1 locs1 ht hvm hw hB hz1 hk1 hS1 => ?_)
  obtain ⟨hP1, hK1, hD1⟩ := hB
  rw [ht] at hP1
  have hK1 := va_K.moved hvm.symm hK1
  have hJ := va_join (wr := []) (w1 := [(h0, .inr (6, fs_h0)), (h0a, .inl (k1a, 16, .inr (.inl (fun _ => 0)))), (h0b, .inl (k1b, 16, .inr (.inl (fun _ => 0))))]) hP hD [0, 1, 2] [] rfl rfl (by decide) (by decide) hk1 hFc hP1 hD1
  clear hP hD hPc hDc hKc hFc hz1; try clear hk1
  obtain ⟨hP, hD⟩ := hJ
  replace hK := (hK.sub (tys' := [(k1a, .long), (k1b, .long)]) [0, 1] rfl).app (hK1.sub (tys' := []) [] rfl)
  clear hP1 hK1 hD1 hvm ht hS; try clear t
  try clear H
  revert hS1
  intro hS
  generalize H1 = H at hP hS ⊢; try clear H1
  replace hP : va_P (dC, dI) vwCl [(h0, .inr (6, fs_h0)), (h0a, .inl (k1a, 16, .inr (.inl (fun _ => 0)))), (h0b, .inl (k1b, 16, .inr (.inl (fun _ => 0))))] H := hP
  replace hD : va_D A [(h0, .inr (6, fs_h0)), (h0a, .inl (k1a, 16, .inr (.inl (fun _ => 0)))), (h0b, .inl (k1b, 16, .inr (.inl (fun _ => 0))))] := hD
  replace hK : va_K (dC, dI) vwCl [(k1a, .long), (k1b, .long)] s := hK
  have hw_2 : r_1 = 0 := hw; clear hw
  subst hw_2
  refine lv_istore_n (lv' := [(3, .int 0), (0, .ref h0), (1, .long k)]) hx hb dX6_at_4 rfl hl (by decide) rfl (fun ls hl => ?_)
  refine lv_iconst (v := 0) hx hb dX6_at_5 (by decide) ?_
  refine lv_istore (lv' := [(4, .int 0), (3, .int 0), (0, .ref h0), (1, .long k)]) hx hb dX6_at_6 hl (by decide) rfl (fun ls hl => ?_)
  refine lv_iload hx hb dX6_at_8 (lv_at hl 0 rfl) ?_
  refine lv_iload_n hx hb dX6_at_10 rfl (lv_at hl 1 rfl) ?_
  refine lv_icmp_ge (tgt := 40) hx hb dX6_at_11 (by decide) (fun _ => ?_) (fun hc => absurd (by decide) hc)
  refine lv_lconst (v := 0) hx hb dX6_at_40 (by decide) ?_
  have hP9 := hP.sub (ws' := [(h0, .inr (6, fs_h0)), (h0a, .inl (k1a, 16, .inr (.inl (fun _ => 0)))), (h0b, .inl (k1b, 16, .inr (.inl (fun _ => 0))))]) [0, 1, 2] rfl
  have hD9 := hD.sub (ws' := [(h0, .inr (6, fs_h0)), (h0a, .inl (k1a, 16, .inr (.inl (fun _ => 0)))), (h0b, .inl (k1b, 16, .inr (.inl (fun _ => 0))))]) [0, 1, 2] (by decide) rfl
  have hK9 := hK.sub (tys' := [(k1a, .long), (k1b, .long)]) [0, 1] rfl
  rw [← hAe] at hD9
  refine W.widen (k := 0) (n := 0) (Nat.le_of_ble_eq_true rfl) (Nat.le_of_ble_eq_true rfl) ?_
  subst hAe
  exact (W.lret (v := 0) hx hb hr (fun t ht hW => ⟨⟨0, (), rfl, rfl, by rw [ht]; exact hP9, va_K.moved hW.alike hK9, hD9⟩, hS.F ht⟩) hS.2.2 dX6_at_41)
def wv_f_has : List Cond := .code yX2_has cX2_has 4 (some .boolean) :: ([.fieldLink RX2 12 "MotionSigns$Change" "right" "LMotionSigns$Poly;", .methodLink RX2 60 yX6_length, .instanceMethod yX6_length, .selects RX6 yX6_length yX6_length, .initialized RX6] ++ (wsX20 ++ (wv_p_length ++ ([]))))
theorem gw_f_has : wv_f_has.all goodWord = true := by decide +kernel
theorem in_f_has_X2 : ∀ w ∈ wsX20, w ∈ wv_f_has := fun _ h => List.mem_cons_of_mem _ (List.mem_append_right _ (List.mem_append_left _ h))
theorem g_f_has_p_length_60 : GoodIn wv_f_has (wsV RX2 60 RX6 yX6_length wv_p_length) := goodIn_app (goodIn_of _ (by decide +kernel)) (goodIn_sub (fun _ h => List.mem_cons_of_mem _ (List.mem_append_right _ (List.mem_append_right _ (List.mem_append_left _ h)))) gw_p_length)
set_option maxHeartbeats 4000000 in
set_option maxRecDepth 100000 in
/-- has -/
theorem c_f_has (l : Launch) (dC : Nat → ClassId) (dI : Nat → Nat → Nat) (h0 : Nat) (qr : Nat) (qra : Nat) (qrb : Nat) (k1a : Nat) (k1b : Nat) (i : Int32) (fs_h0 : List Value) (fs_qr : List Value) (hF_h0 : mF 13 [(2, .ref qr), (8, .int 0)] fs_h0) (hF_qr : mF 3 [(0, .ref qra), (1, .ref qrb), (2, .int 0)] fs_qr) (sz : Nat) : Met l yX2_has wv_f_has ({ frames := 2, cells := 0, slots := 0, locals := 34 }) (va_Pc [.ref h0, .int i] (fun U => U.heap.size = sz ∧ va_P (dC, dI) vwCl [(h0, .inr (2, fs_h0)), (qr, .inr (6, fs_qr)), (qra, .inl (k1a, 16, .inr (.inl (fun _ => 0)))), (qrb, .inl (k1b, 16, .inr (.inl (fun _ => 0))))] U.heap ∧ va_K (dC, dI) vwCl [(k1a, .long), (k1b, .long)] U ∧ va_D (fun _ => True) [(h0, .inr (2, fs_h0)), (qr, .inr (6, fs_qr)), (qra, .inl (k1a, 16, .inr (.inl (fun _ => 0)))), (qrb, .inl (k1b, 16, .inr (.inl (fun _ => 0))))] ∧ w_N U)) (va_Qi (fun (r : Int32) (_ : Unit) => r = 0) (fun _ t => va_P (dC, dI) vwCl [(h0, .inr (2, fs_h0)), (qr, .inr (6, fs_qr)), (qra, .inl (k1a, 16, .inr (.inl (fun _ => 0)))), (qrb, .inl (k1b, 16, .inr (.inl (fun _ => 0))))] t.heap ∧ va_K (dC, dI) vwCl [(k1a, .long), (k1b, .long)] t ∧ va_D (va_A [(h0, .inr (2, fs_h0)), (qr, .inr (6, fs_qr)), (qra, .inl (k1a, 16, .inr (.inl (fun _ => 0)))), (qrb, .inl (k1b, 16, .inr (.inl (fun _ => 0))))] sz) [(h0, .inr (2, fs_h0)), (qr, .inr (6, fs_qr)), (qra, .inl (k1a, 16, .inr (.inl (fun _ => 0)))), (qrb, .inl (k1b, 16, .inr (.inl (fun _ => 0))))]) (va_A [(h0, .inr (2, fs_h0)), (qr, .inr (6, fs_qr)), (qra, .inl (k1a, 16, .inr (.inl (fun _ => 0)))), (qrb, .inl (k1b, 16, .inr (.inl (fun _ => 0))))] sz)) 0 0 (va_A [(h0, .inr (2, fs_h0)), (qr, .inr (6, fs_qr)), (qra, .inl (k1a, 16, .inr (.inl (fun _ => 0)))), (qrb, .inl (k1b, 16, .inr (.inl (fun _ => 0))))] sz) := by
  refine Met.ofW (cc := cX2_has) (maxL := 4) (ret := (some .boolean)) (by decide) rfl ?_
  intro p e s m args below meth c s₁ B hml hv
  obtain ⟨rfl, hsz, hP, hK, hD0, hN⟩ := hv
  have hx := B.exec
  have hb := B.bytes
  have hr := B.returns
  have hts := atoms_spec (ws := wv_f_has) B.pre
  have hown : s.vm.findClass RX2 = some m.cls := findClass_of_methodNamed B.named
  have hlocks := B.notSynchronized
  subst hsz
  have hD := hD0.self (sz := s.heap.size)
  generalize hAe : va_A [(h0, .inr (2, fs_h0)), (qr, .inr (6, fs_qr)), (qra, .inl (k1a, 16, .inr (.inl (fun _ => 0)))), (qrb, .inl (k1b, 16, .inr (.inl (fun _ => 0))))] s.heap.size = A at hD ⊢
  have hA : ∀ q : Nat, s.heap.size ≤ q → A q := fun q h => by rw [← hAe]; exact Or.inr h
  obtain ⟨H, hHe, hP, hS⟩ : ∃ H : Heap, H = s.heap ∧ va_P (dC, dI) vwCl [(h0, .inr (2, fs_h0)), (qr, .inr (6, fs_qr)), (qra, .inl (k1a, 16, .inr (.inl (fun _ => 0)))), (qrb, .inl (k1b, 16, .inr (.inl (fun _ => 0))))] H ∧ va_S A s.heap H [] := ⟨s.heap, rfl, hP, va_S.rf⟩
  have hl := lv_entry ([.ref h0, .int i]) (n := 4) (Nat.le_of_ble_eq_true rfl)
  rw [lg_entry_eq]
  generalize (lg_sl ([.ref h0, .int i]) ++ List.replicate (4 - (lg_sl ([.ref h0, .int i])).length) Slot.unset).toArray = ls at hl ⊢
  have hl : lv_has ls 4 [(0, .ref h0), (1, .int i)] := hl
  rw [← hHe]; clear hHe
  refine lv_iconst (v := 0) hx hb dX2_has_0 (by decide) ?_
  refine lv_istore_n (lv' := [(2, .int 0), (0, .ref h0), (1, .int i)]) hx hb dX2_has_1 rfl hl (by decide) rfl (fun ls hl => ?_)
  refine lv_iconst (v := 0) hx hb dX2_has_2 (by decide) ?_
  refine lv_istore_n (lv' := [(3, .int 0), (2, .int 0), (0, .ref h0), (1, .int i)]) hx hb dX2_has_3 rfl hl (by decide) rfl (fun ls hl => ?_)
  refine lv_iload_n hx hb dX2_has_4 rfl (lv_at hl 0 rfl) ?_
  refine lv_aload_n hx hb dX2_has_5 rfl (lv_at hl 2 rfl) ?_
  refine va_get (D := (dC, dI)) (ci := 2) (v := .ref qr) (C := RX2) (T := TX2) (N := 13) hx hb hts (in_f_has_X2) hown hK hP 0 rfl rfl 2 (by decide) (hts (.fieldLink RX2 12 "MotionSigns$Change" "right" "LMotionSigns$Poly;") (List.mem_of_getElem? (i := 1) rfl)) (fun _ h9 => h9) (mF.get hF_h0 0 rfl) dX2_has_6 ?_
  have hPc := hP.sub (ws' := [(qr, .inr (6, fs_qr)), (qra, .inl (k1a, 16, .inr (.inl (fun _ => 0)))), (qrb, .inl (k1b, 16, .inr (.inl (fun _ => 0))))]) [1, 2, 3] rfl
  have hDc := hD.sub (ws' := [(qr, .inr (6, fs_qr)), (qra, .inl (k1a, 16, .inr (.inl (fun _ => 0)))), (qrb, .inl (k1b, 16, .inr (.inl (fun _ => 0))))]) [1, 2, 3] (by decide) rfl
  have hKc := hK.sub (tys' := [(k1a, .long), (k1b, .long)]) [0, 1] rfl
  have hFc := va_free (wc := [(qr, .inr (6, fs_qr)), (qra, .inl (k1a, 16, .inr (.inl (fun _ => 0)))), (qrb, .inl (k1b, 16, .inr (.inl (fun _ => 0))))]) hD hS hA [1, 2, 3] rfl
  refine va_calli (va_runV (As := []) (rest := [.int 0]) ⟨hx, hb, hml, hown, hts⟩ (c_p_length l dC dI qr qra qrb k1a k1b fs_qr (mF.sub hF_qr [0, 1, 2] rfl) H.size) (cwV 0 hts g_f_has_p_length_60 rfl rfl rfl hv_X6_length ⟨Nat.le_of_ble_eq_true rfl, Nat.le_of_ble_eq_true rfl⟩) ⟨fun a U g mk q => by obtain ⟨q0, q1, qP, qK, qD, qE0⟩ := q; exact ⟨q0, q1, qP, va_K.moved (u := U) (U := U.calling g mk a) (Vm.Alike.refl U.vm) qK, qD, w_N.same rfl qE0⟩, va_recv hKc hPc (ci := 6) (q0 := 0) rfl rfl, fun U hU hW => ⟨rfl, by rw [hU], by rw [hU]; exact hPc, va_K.moved hW.alike hKc, hDc.weaken (fun _ _ _ _ => trivial), w_N.warm hW hN⟩⟩ rfl rfl hl.1 rfl (lv_room (Nat.le_of_ble_eq_true rfl)) dX2_has_9 ⟨(Nat.le_of_ble_eq_true rfl), (Nat.le_of_ble_eq_true rfl)⟩) hS (fun q _ h => hFc q h) hFc (fun r_1 u t H1 locs1 ht hvm hw hB hz1 hk1 hS1 => ?_)
  obtain ⟨hP1, hK1, hD1⟩ := hB
  rw [ht] at hP1
  have hK1 := va_K.moved hvm.symm hK1
  have hJ := va_join (wr := [(h0, .inr (2, fs_h0))]) (w1 := [(qr, .inr (6, fs_qr)), (qra, .inl (k1a, 16, .inr (.inl (fun _ => 0)))), (qrb, .inl (k1b, 16, .inr (.inl (fun _ => 0))))]) hP hD [1, 2, 3] [0] rfl rfl (by decide) (by decide) hk1 hFc hP1 hD1
  clear hP hD hPc hDc hKc hFc hz1; try clear hk1
  obtain ⟨hP, hD⟩ := hJ
  replace hK := (hK.sub (tys' := [(k1a, .long), (k1b, .long)]) [0, 1] rfl).app (hK1.sub (tys' := []) [] rfl)
  clear hP1 hK1 hD1 hvm ht hS; try clear t
  try clear H
  revert hS1
  intro hS
  generalize H1 = H at hP hS ⊢; try clear H1
  replace hP : va_P (dC, dI) vwCl [(h0, .inr (2, fs_h0)), (qr, .inr (6, fs_qr)), (qra, .inl (k1a, 16, .inr (.inl (fun _ => 0)))), (qrb, .inl (k1b, 16, .inr (.inl (fun _ => 0))))] H := hP
  replace hD : va_D A [(h0, .inr (2, fs_h0)), (qr, .inr (6, fs_qr)), (qra, .inl (k1a, 16, .inr (.inl (fun _ => 0)))), (qrb, .inl (k1b, 16, .inr (.inl (fun _ => 0))))] := hD
  replace hK : va_K (dC, dI) vwCl [(k1a, .long), (k1b, .long)] s := hK
  have hw_2 : r_1 = 0 := hw; clear hw
  subst hw_2
  refine lv_icmp_ge (tgt := 47) hx hb dX2_has_12 (by decide) (fun _ => ?_) (fun hc => absurd (by decide) hc)
  refine lv_iload_n hx hb dX2_has_47 rfl (lv_at hl 1 rfl) ?_
  have hP9 := hP.sub (ws' := [(h0, .inr (2, fs_h0)), (qr, .inr (6, fs_qr)), (qra, .inl (k1a, 16, .inr (.inl (fun _ => 0)))), (qrb, .inl (k1b, 16, .inr (.inl (fun _ => 0))))]) [0, 1, 2, 3] rfl
  have hD9 := hD.sub (ws' := [(h0, .inr (2, fs_h0)), (qr, .inr (6, fs_qr)), (qra, .inl (k1a, 16, .inr (.inl (fun _ => 0)))), (qrb, .inl (k1b, 16, .inr (.inl (fun _ => 0))))]) [0, 1, 2, 3] (by decide) rfl
  have hK9 := hK.sub (tys' := [(k1a, .long), (k1b, .long)]) [0, 1] rfl
  rw [← hAe] at hD9
  refine W.widen (k := 0) (n := 0) (Nat.le_of_ble_eq_true rfl) (Nat.le_of_ble_eq_true rfl) ?_
  subst hAe
  exact (W.zret (v := 0) hx hb hr (by decide) (fun t ht hW => ⟨⟨0, (), rfl, rfl, by rw [ht]; exact hP9, va_K.moved hW.alike hK9, hD9⟩, hS.F ht⟩) hS.2.2 dX2_has_48)
def wv_f_order : List Cond := .code yX2_order cX2_order 1 (some .int) :: ([.methodLink RX2 72 yX2_has, .instanceMethod yX2_has, .selects RX2 yX2_has yX2_has, .initialized RX2] ++ (wv_f_has ++ ([])))
theorem gw_f_order : wv_f_order.all goodWord = true := by decide +kernel
theorem g_f_order_f_has_72 : GoodIn wv_f_order (wsV RX2 72 RX2 yX2_has wv_f_has) := goodIn_app (goodIn_of _ (by decide +kernel)) (goodIn_sub (fun _ h => List.mem_cons_of_mem _ (List.mem_append_right _ (List.mem_append_left _ h))) gw_f_has)
set_option maxHeartbeats 4000000 in
set_option maxRecDepth 100000 in
/-- order -/
theorem c_f_order (l : Launch) (dC : Nat → ClassId) (dI : Nat → Nat → Nat) (h0 : Nat) (qr : Nat) (qra : Nat) (qrb : Nat) (k1a : Nat) (k1b : Nat) (fs_h0 : List Value) (fs_qr : List Value) (hF_h0 : mF 13 [(2, .ref qr), (8, .int 0)] fs_h0) (hF_qr : mF 3 [(0, .ref qra), (1, .ref qrb), (2, .int 0)] fs_qr) (sz : Nat) : Met l yX2_order wv_f_order ({ frames := 3, cells := 0, slots := 0, locals := 57 }) (va_Pc [.ref h0] (fun U => U.heap.size = sz ∧ va_P (dC, dI) vwCl [(h0, .inr (2, fs_h0)), (qr, .inr (6, fs_qr)), (qra, .inl (k1a, 16, .inr (.inl (fun _ => 0)))), (qrb, .inl (k1b, 16, .inr (.inl (fun _ => 0))))] U.heap ∧ va_K (dC, dI) vwCl [(k1a, .long), (k1b, .long)] U ∧ va_D (fun _ => True) [(h0, .inr (2, fs_h0)), (qr, .inr (6, fs_qr)), (qra, .inl (k1a, 16, .inr (.inl (fun _ => 0)))), (qrb, .inl (k1b, 16, .inr (.inl (fun _ => 0))))] ∧ w_N U)) (va_Qi (fun (r : Int32) (_ : Unit) => r = 0) (fun _ t => va_P (dC, dI) vwCl [(h0, .inr (2, fs_h0)), (qr, .inr (6, fs_qr)), (qra, .inl (k1a, 16, .inr (.inl (fun _ => 0)))), (qrb, .inl (k1b, 16, .inr (.inl (fun _ => 0))))] t.heap ∧ va_K (dC, dI) vwCl [(k1a, .long), (k1b, .long)] t ∧ va_D (va_A [(h0, .inr (2, fs_h0)), (qr, .inr (6, fs_qr)), (qra, .inl (k1a, 16, .inr (.inl (fun _ => 0)))), (qrb, .inl (k1b, 16, .inr (.inl (fun _ => 0))))] sz) [(h0, .inr (2, fs_h0)), (qr, .inr (6, fs_qr)), (qra, .inl (k1a, 16, .inr (.inl (fun _ => 0)))), (qrb, .inl (k1b, 16, .inr (.inl (fun _ => 0))))]) (va_A [(h0, .inr (2, fs_h0)), (qr, .inr (6, fs_qr)), (qra, .inl (k1a, 16, .inr (.inl (fun _ => 0)))), (qrb, .inl (k1b, 16, .inr (.inl (fun _ => 0))))] sz)) 0 0 (va_A [(h0, .inr (2, fs_h0)), (qr, .inr (6, fs_qr)), (qra, .inl (k1a, 16, .inr (.inl (fun _ => 0)))), (qrb, .inl (k1b, 16, .inr (.inl (fun _ => 0))))] sz) := by
  refine Met.ofW (cc := cX2_order) (maxL := 1) (ret := (some .int)) (by decide) rfl ?_
  intro p e s m args below meth c s₁ B hml hv
  obtain ⟨rfl, hsz, hP, hK, hD0, hN⟩ := hv
  have hx := B.exec
  have hb := B.bytes
  have hr := B.returns
  have hts := atoms_spec (ws := wv_f_order) B.pre
  have hown : s.vm.findClass RX2 = some m.cls := findClass_of_methodNamed B.named
  have hlocks := B.notSynchronized
  subst hsz
  have hD := hD0.self (sz := s.heap.size)
  generalize hAe : va_A [(h0, .inr (2, fs_h0)), (qr, .inr (6, fs_qr)), (qra, .inl (k1a, 16, .inr (.inl (fun _ => 0)))), (qrb, .inl (k1b, 16, .inr (.inl (fun _ => 0))))] s.heap.size = A at hD ⊢
  have hA : ∀ q : Nat, s.heap.size ≤ q → A q := fun q h => by rw [← hAe]; exact Or.inr h
  obtain ⟨H, hHe, hP, hS⟩ : ∃ H : Heap, H = s.heap ∧ va_P (dC, dI) vwCl [(h0, .inr (2, fs_h0)), (qr, .inr (6, fs_qr)), (qra, .inl (k1a, 16, .inr (.inl (fun _ => 0)))), (qrb, .inl (k1b, 16, .inr (.inl (fun _ => 0))))] H ∧ va_S A s.heap H [] := ⟨s.heap, rfl, hP, va_S.rf⟩
  have hl := lv_entry ([.ref h0]) (n := 1) (Nat.le_of_ble_eq_true rfl)
  rw [lg_entry_eq]
  generalize (lg_sl ([.ref h0]) ++ List.replicate (1 - (lg_sl ([.ref h0])).length) Slot.unset).toArray = ls at hl ⊢
  have hl : lv_has ls 1 [(0, .ref h0)] := hl
  rw [← hHe]; clear hHe
  refine lv_aload_n hx hb dX2_order_0 rfl (lv_at hl 0 rfl) ?_
  refine lv_iconst (v := 5) hx hb dX2_order_1 (by decide) ?_
  have hPc := hP.sub (ws' := [(h0, .inr (2, fs_h0)), (qr, .inr (6, fs_qr)), (qra, .inl (k1a, 16, .inr (.inl (fun _ => 0)))), (qrb, .inl (k1b, 16, .inr (.inl (fun _ => 0))))]) [0, 1, 2, 3] rfl
  have hDc := hD.sub (ws' := [(h0, .inr (2, fs_h0)), (qr, .inr (6, fs_qr)), (qra, .inl (k1a, 16, .inr (.inl (fun _ => 0)))), (qrb, .inl (k1b, 16, .inr (.inl (fun _ => 0))))]) [0, 1, 2, 3] (by decide) rfl
  have hKc := hK.sub (tys' := [(k1a, .long), (k1b, .long)]) [0, 1] rfl
  have hFc := va_free (wc := [(h0, .inr (2, fs_h0)), (qr, .inr (6, fs_qr)), (qra, .inl (k1a, 16, .inr (.inl (fun _ => 0)))), (qrb, .inl (k1b, 16, .inr (.inl (fun _ => 0))))]) hD hS hA [0, 1, 2, 3] rfl
  refine va_calli (va_runV (As := [.int 5]) (rest := []) ⟨hx, hb, hml, hown, hts⟩ (c_f_has l dC dI h0 qr qra qrb k1a k1b 5 fs_h0 fs_qr (mF.sub hF_h0 [0, 1] rfl) (mF.sub hF_qr [0, 1, 2] rfl) H.size) (cwV 1 hts g_f_order_f_has_72 rfl rfl rfl hv_X2_has ⟨Nat.le_of_ble_eq_true rfl, Nat.le_of_ble_eq_true rfl⟩) ⟨fun a U g mk q => by obtain ⟨q0, q1, qP, qK, qD, qE0⟩ := q; exact ⟨q0, q1, qP, va_K.moved (u := U) (U := U.calling g mk a) (Vm.Alike.refl U.vm) qK, qD, w_N.same rfl qE0⟩, va_recv hKc hPc (ci := 2) (q0 := 0) rfl rfl, fun U hU hW => ⟨rfl, by rw [hU], by rw [hU]; exact hPc, va_K.moved hW.alike hKc, hDc.weaken (fun _ _ _ _ => trivial), w_N.warm hW hN⟩⟩ rfl rfl hl.1 rfl (lv_room (Nat.le_of_ble_eq_true rfl)) dX2_order_2 ⟨(Nat.le_of_ble_eq_true rfl), (Nat.le_of_ble_eq_true rfl)⟩) hS (fun q _ h => hFc q h) hFc (fun r_1 u t H1 locs1 ht hvm hw hB hz1 hk1 hS1 => ?_)
  obtain ⟨hP1, hK1, hD1⟩ := hB
  rw [ht] at hP1
  have hK1 := va_K.moved hvm.symm hK1
  have hJ := va_join (wr := []) (w1 := [(h0, .inr (2, fs_h0)), (qr, .inr (6, fs_qr)), (qra, .inl (k1a, 16, .inr (.inl (fun _ => 0)))), (qrb, .inl (k1b, 16, .inr (.inl (fun _ => 0))))]) hP hD [0, 1, 2, 3] [] rfl rfl (by decide) (by decide) hk1 hFc hP1 hD1
  clear hP hD hPc hDc hKc hFc hz1; try clear hk1
  obtain ⟨hP, hD⟩ := hJ
  replace hK := (hK.sub (tys' := [(k1a, .long), (k1b, .long)]) [0, 1] rfl).app (hK1.sub (tys' := []) [] rfl)
  clear hP1 hK1 hD1 hvm ht hS; try clear t
  try clear H
  revert hS1
  intro hS
  generalize H1 = H at hP hS ⊢; try clear H1
  replace hP : va_P (dC, dI) vwCl [(h0, .inr (2, fs_h0)), (qr, .inr (6, fs_qr)), (qra, .inl (k1a, 16, .inr (.inl (fun _ => 0)))), (qrb, .inl (k1b, 16, .inr (.inl (fun _ => 0))))] H := hP
  replace hD : va_D A [(h0, .inr (2, fs_h0)), (qr, .inr (6, fs_qr)), (qra, .inl (k1a, 16, .inr (.inl (fun _ => 0)))), (qrb, .inl (k1b, 16, .inr (.inl (fun _ => 0))))] := hD
  replace hK : va_K (dC, dI) vwCl [(k1a, .long), (k1b, .long)] s := hK
  have hw_2 : r_1 = 0 := hw; clear hw
  subst hw_2
  refine lv_if_eq (tgt := 12) hx hb dX2_order_5 (by decide) (fun _ => ?_) (fun hc => absurd (by decide) hc)
  refine lv_aload_n hx hb dX2_order_12 rfl (lv_at hl 0 rfl) ?_
  refine lv_iconst (v := 4) hx hb dX2_order_13 (by decide) ?_
  have hPc := hP.sub (ws' := [(h0, .inr (2, fs_h0)), (qr, .inr (6, fs_qr)), (qra, .inl (k1a, 16, .inr (.inl (fun _ => 0)))), (qrb, .inl (k1b, 16, .inr (.inl (fun _ => 0))))]) [0, 1, 2, 3] rfl
  have hDc := hD.sub (ws' := [(h0, .inr (2, fs_h0)), (qr, .inr (6, fs_qr)), (qra, .inl (k1a, 16, .inr (.inl (fun _ => 0)))), (qrb, .inl (k1b, 16, .inr (.inl (fun _ => 0))))]) [0, 1, 2, 3] (by decide) rfl
  have hKc := hK.sub (tys' := [(k1a, .long), (k1b, .long)]) [0, 1] rfl
  have hFc := va_free (wc := [(h0, .inr (2, fs_h0)), (qr, .inr (6, fs_qr)), (qra, .inl (k1a, 16, .inr (.inl (fun _ => 0)))), (qrb, .inl (k1b, 16, .inr (.inl (fun _ => 0))))]) hD hS hA [0, 1, 2, 3] rfl
  refine va_calli (va_runV (As := [.int 4]) (rest := []) ⟨hx, hb, hml, hown, hts⟩ (c_f_has l dC dI h0 qr qra qrb k1a k1b 4 fs_h0 fs_qr (mF.sub hF_h0 [0, 1] rfl) (mF.sub hF_qr [0, 1, 2] rfl) H.size) (cwV 1 hts g_f_order_f_has_72 rfl rfl rfl hv_X2_has ⟨Nat.le_of_ble_eq_true rfl, Nat.le_of_ble_eq_true rfl⟩) ⟨fun a U g mk q => by obtain ⟨q0, q1, qP, qK, qD, qE0⟩ := q; exact ⟨q0, q1, qP, va_K.moved (u := U) (U := U.calling g mk a) (Vm.Alike.refl U.vm) qK, qD, w_N.same rfl qE0⟩, va_recv hKc hPc (ci := 2) (q0 := 0) rfl rfl, fun U hU hW => ⟨rfl, by rw [hU], by rw [hU]; exact hPc, va_K.moved hW.alike hKc, hDc.weaken (fun _ _ _ _ => trivial), w_N.warm hW hN⟩⟩ rfl rfl hl.1 rfl (lv_room (Nat.le_of_ble_eq_true rfl)) dX2_order_14 ⟨(Nat.le_of_ble_eq_true rfl), (Nat.le_of_ble_eq_true rfl)⟩) hS (fun q _ h => hFc q h) hFc (fun r_3 u t H1 locs1 ht hvm hw hB hz1 hk1 hS1 => ?_)
  obtain ⟨hP1, hK1, hD1⟩ := hB
  rw [ht] at hP1
  have hK1 := va_K.moved hvm.symm hK1
  have hJ := va_join (wr := []) (w1 := [(h0, .inr (2, fs_h0)), (qr, .inr (6, fs_qr)), (qra, .inl (k1a, 16, .inr (.inl (fun _ => 0)))), (qrb, .inl (k1b, 16, .inr (.inl (fun _ => 0))))]) hP hD [0, 1, 2, 3] [] rfl rfl (by decide) (by decide) hk1 hFc hP1 hD1
  clear hP hD hPc hDc hKc hFc hz1; try clear hk1
  obtain ⟨hP, hD⟩ := hJ
  replace hK := (hK.sub (tys' := [(k1a, .long), (k1b, .long)]) [0, 1] rfl).app (hK1.sub (tys' := []) [] rfl)
  clear hP1 hK1 hD1 hvm ht hS; try clear t
  try clear H
  revert hS1
  intro hS
  generalize H1 = H at hP hS ⊢; try clear H1
  replace hP : va_P (dC, dI) vwCl [(h0, .inr (2, fs_h0)), (qr, .inr (6, fs_qr)), (qra, .inl (k1a, 16, .inr (.inl (fun _ => 0)))), (qrb, .inl (k1b, 16, .inr (.inl (fun _ => 0))))] H := hP
  replace hD : va_D A [(h0, .inr (2, fs_h0)), (qr, .inr (6, fs_qr)), (qra, .inl (k1a, 16, .inr (.inl (fun _ => 0)))), (qrb, .inl (k1b, 16, .inr (.inl (fun _ => 0))))] := hD
  replace hK : va_K (dC, dI) vwCl [(k1a, .long), (k1b, .long)] s := hK
  have hw_4 : r_3 = 0 := hw; clear hw
  subst hw_4
  refine lv_if_eq (tgt := 24) hx hb dX2_order_17 (by decide) (fun _ => ?_) (fun hc => absurd (by decide) hc)
  refine lv_aload_n hx hb dX2_order_24 rfl (lv_at hl 0 rfl) ?_
  refine lv_iconst (v := 3) hx hb dX2_order_25 (by decide) ?_
  have hPc := hP.sub (ws' := [(h0, .inr (2, fs_h0)), (qr, .inr (6, fs_qr)), (qra, .inl (k1a, 16, .inr (.inl (fun _ => 0)))), (qrb, .inl (k1b, 16, .inr (.inl (fun _ => 0))))]) [0, 1, 2, 3] rfl
  have hDc := hD.sub (ws' := [(h0, .inr (2, fs_h0)), (qr, .inr (6, fs_qr)), (qra, .inl (k1a, 16, .inr (.inl (fun _ => 0)))), (qrb, .inl (k1b, 16, .inr (.inl (fun _ => 0))))]) [0, 1, 2, 3] (by decide) rfl
  have hKc := hK.sub (tys' := [(k1a, .long), (k1b, .long)]) [0, 1] rfl
  have hFc := va_free (wc := [(h0, .inr (2, fs_h0)), (qr, .inr (6, fs_qr)), (qra, .inl (k1a, 16, .inr (.inl (fun _ => 0)))), (qrb, .inl (k1b, 16, .inr (.inl (fun _ => 0))))]) hD hS hA [0, 1, 2, 3] rfl
  refine va_calli (va_runV (As := [.int 3]) (rest := []) ⟨hx, hb, hml, hown, hts⟩ (c_f_has l dC dI h0 qr qra qrb k1a k1b 3 fs_h0 fs_qr (mF.sub hF_h0 [0, 1] rfl) (mF.sub hF_qr [0, 1, 2] rfl) H.size) (cwV 1 hts g_f_order_f_has_72 rfl rfl rfl hv_X2_has ⟨Nat.le_of_ble_eq_true rfl, Nat.le_of_ble_eq_true rfl⟩) ⟨fun a U g mk q => by obtain ⟨q0, q1, qP, qK, qD, qE0⟩ := q; exact ⟨q0, q1, qP, va_K.moved (u := U) (U := U.calling g mk a) (Vm.Alike.refl U.vm) qK, qD, w_N.same rfl qE0⟩, va_recv hKc hPc (ci := 2) (q0 := 0) rfl rfl, fun U hU hW => ⟨rfl, by rw [hU], by rw [hU]; exact hPc, va_K.moved hW.alike hKc, hDc.weaken (fun _ _ _ _ => trivial), w_N.warm hW hN⟩⟩ rfl rfl hl.1 rfl (lv_room (Nat.le_of_ble_eq_true rfl)) dX2_order_26 ⟨(Nat.le_of_ble_eq_true rfl), (Nat.le_of_ble_eq_true rfl)⟩) hS (fun q _ h => hFc q h) hFc (fun r_5 u t H1 locs1 ht hvm hw hB hz1 hk1 hS1 => ?_)
  obtain ⟨hP1, hK1, hD1⟩ := hB
  rw [ht] at hP1
  have hK1 := va_K.moved hvm.symm hK1
  have hJ := va_join (wr := []) (w1 := [(h0, .inr (2, fs_h0)), (qr, .inr (6, fs_qr)), (qra, .inl (k1a, 16, .inr (.inl (fun _ => 0)))), (qrb, .inl (k1b, 16, .inr (.inl (fun _ => 0))))]) hP hD [0, 1, 2, 3] [] rfl rfl (by decide) (by decide) hk1 hFc hP1 hD1
  clear hP hD hPc hDc hKc hFc hz1; try clear hk1
  obtain ⟨hP, hD⟩ := hJ
  replace hK := (hK.sub (tys' := [(k1a, .long), (k1b, .long)]) [0, 1] rfl).app (hK1.sub (tys' := []) [] rfl)
  clear hP1 hK1 hD1 hvm ht hS; try clear t
  try clear H
  revert hS1
  intro hS
  generalize H1 = H at hP hS ⊢; try clear H1
  replace hP : va_P (dC, dI) vwCl [(h0, .inr (2, fs_h0)), (qr, .inr (6, fs_qr)), (qra, .inl (k1a, 16, .inr (.inl (fun _ => 0)))), (qrb, .inl (k1b, 16, .inr (.inl (fun _ => 0))))] H := hP
  replace hD : va_D A [(h0, .inr (2, fs_h0)), (qr, .inr (6, fs_qr)), (qra, .inl (k1a, 16, .inr (.inl (fun _ => 0)))), (qrb, .inl (k1b, 16, .inr (.inl (fun _ => 0))))] := hD
  replace hK : va_K (dC, dI) vwCl [(k1a, .long), (k1b, .long)] s := hK
  have hw_6 : r_5 = 0 := hw; clear hw
  subst hw_6
  refine lv_if_eq (tgt := 36) hx hb dX2_order_29 (by decide) (fun _ => ?_) (fun hc => absurd (by decide) hc)
  refine lv_iconst (v := 0) hx hb dX2_order_36 (by decide) ?_
  have hP9 := hP.sub (ws' := [(h0, .inr (2, fs_h0)), (qr, .inr (6, fs_qr)), (qra, .inl (k1a, 16, .inr (.inl (fun _ => 0)))), (qrb, .inl (k1b, 16, .inr (.inl (fun _ => 0))))]) [0, 1, 2, 3] rfl
  have hD9 := hD.sub (ws' := [(h0, .inr (2, fs_h0)), (qr, .inr (6, fs_qr)), (qra, .inl (k1a, 16, .inr (.inl (fun _ => 0)))), (qrb, .inl (k1b, 16, .inr (.inl (fun _ => 0))))]) [0, 1, 2, 3] (by decide) rfl
  have hK9 := hK.sub (tys' := [(k1a, .long), (k1b, .long)]) [0, 1] rfl
  rw [← hAe] at hD9
  refine W.widen (k := 0) (n := 0) (Nat.le_of_ble_eq_true rfl) (Nat.le_of_ble_eq_true rfl) ?_
  subst hAe
  exact (W.iret (v := 0) hx hb hr (fun t ht hW => ⟨⟨0, (), rfl, rfl, by rw [ht]; exact hP9, va_K.moved hW.alike hK9, hD9⟩, hS.F ht⟩) hS.2.2 dX2_order_37)
def wv_f_told : List Cond := .code yX11_told cX11_told 2 (some .int) :: ([.methodLink RX11 180 yX11_needWhat, .static yX11_needWhat, .initialized RX11, .fieldLink RX11 50 "MotionSigns" "change" "LMotionSigns$Change;", .methodLink RX11 183 yX2_order, .instanceMethod yX2_order, .selects RX2 yX2_order yX2_order, .initialized RX2, .methodLink RX11 155 yX6_length, .instanceMethod yX6_length, .selects RX6 yX6_length yX6_length, .initialized RX6] ++ (wv_f_needWhat ++ (wsX110 ++ (wv_f_order ++ (wsX20 ++ (wv_p_length ++ ([])))))))
theorem gw_f_told : wv_f_told.all goodWord = true := by decide +kernel
theorem in_f_told_X11 : ∀ w ∈ wsX110, w ∈ wv_f_told := fun _ h => List.mem_cons_of_mem _ (List.mem_append_right _ (List.mem_append_right _ (List.mem_append_left _ h)))
theorem in_f_told_X2 : ∀ w ∈ wsX20, w ∈ wv_f_told := fun _ h => List.mem_cons_of_mem _ (List.mem_append_right _ (List.mem_append_right _ (List.mem_append_right _ (List.mem_append_right _ (List.mem_append_left _ h)))))
theorem g_f_told_f_needWhat_180 : GoodIn wv_f_told (va_wsS RX11 180 yX11_needWhat wv_f_needWhat) := goodIn_app (goodIn_of _ (by decide +kernel)) (goodIn_sub (fun _ h => List.mem_cons_of_mem _ (List.mem_append_right _ (List.mem_append_left _ h))) gw_f_needWhat)
theorem g_f_told_f_order_183 : GoodIn wv_f_told (wsV RX11 183 RX2 yX2_order wv_f_order) := goodIn_app (goodIn_of _ (by decide +kernel)) (goodIn_sub (fun _ h => List.mem_cons_of_mem _ (List.mem_append_right _ (List.mem_append_right _ (List.mem_append_right _ (List.mem_append_left _ h))))) gw_f_order)
theorem g_f_told_p_length_155 : GoodIn wv_f_told (wsV RX11 155 RX6 yX6_length wv_p_length) := goodIn_app (goodIn_of _ (by decide +kernel)) (goodIn_sub (fun _ h => List.mem_cons_of_mem _ (List.mem_append_right _ (List.mem_append_right _ (List.mem_append_right _ (List.mem_append_right _ (List.mem_append_right _ (List.mem_append_left _ h))))))) gw_p_length)
set_option maxHeartbeats 4000000 in
set_option maxRecDepth 100000 in
/-- told -/
theorem c_f_told (l : Launch) (hlt : l.stackTraces = false) (dC : Nat → ClassId) (dI : Nat → Nat → Nat) (h0 : Nat) (qC : Nat) (qr : Nat) (qra : Nat) (qrb : Nat) (k1a : Nat) (k1b : Nat) (x0 : Int32) (fs_h0 : List Value) (fs_qC : List Value) (fs_qr : List Value) (hF_h0 : mF 19 [(7, .ref qC)] fs_h0) (hF_qC : mF 13 [(2, .ref qr), (8, .int 0)] fs_qC) (hF_qr : mF 3 [(0, .ref qra), (1, .ref qrb), (2, .int 0)] fs_qr) (sz : Nat) : vx_Met l yX11_told wv_f_told ({ frames := 7, cells := 1, slots := 6, locals := 111 }) (va_Pc [.ref h0, .int x0] (fun U => U.heap.size = sz ∧ va_P (dC, dI) vwCl [(h0, .inr (11, fs_h0)), (qC, .inr (2, fs_qC)), (qr, .inr (6, fs_qr)), (qra, .inl (k1a, 16, .inr (.inl (fun _ => 0)))), (qrb, .inl (k1b, 16, .inr (.inl (fun _ => 0))))] U.heap ∧ va_K (dC, dI) vwCl [(k1a, .long), (k1b, .long)] U ∧ va_D (fun _ => True) [(h0, .inr (11, fs_h0)), (qC, .inr (2, fs_qC)), (qr, .inr (6, fs_qr)), (qra, .inl (k1a, 16, .inr (.inl (fun _ => 0)))), (qrb, .inl (k1b, 16, .inr (.inl (fun _ => 0))))] ∧ w_N U ∧ w_T (va_A [(h0, .inr (11, fs_h0)), (qC, .inr (2, fs_qC)), (qr, .inr (6, fs_qr)), (qra, .inl (k1a, 16, .inr (.inl (fun _ => 0)))), (qrb, .inl (k1b, 16, .inr (.inl (fun _ => 0))))] sz) U U.heap)) (va_Qi (fun (r : Int32) (_ : Unit) => r = 0 ∧ kWhat x0) (fun _ t => va_P (dC, dI) vwCl [] t.heap ∧ va_K (dC, dI) vwCl [] t ∧ va_D (va_A [(h0, .inr (11, fs_h0)), (qC, .inr (2, fs_qC)), (qr, .inr (6, fs_qr)), (qra, .inl (k1a, 16, .inr (.inl (fun _ => 0)))), (qrb, .inl (k1b, 16, .inr (.inl (fun _ => 0))))] sz) []) (va_A [(h0, .inr (11, fs_h0)), (qC, .inr (2, fs_qC)), (qr, .inr (6, fs_qr)), (qra, .inl (k1a, 16, .inr (.inl (fun _ => 0)))), (qrb, .inl (k1b, 16, .inr (.inl (fun _ => 0))))] sz)) (vx_X (fun _ : Unit => ¬ kWhat x0) (fun E _ _ => E = "java/lang/IllegalArgumentException") (va_A [(h0, .inr (11, fs_h0)), (qC, .inr (2, fs_qC)), (qr, .inr (6, fs_qr)), (qra, .inl (k1a, 16, .inr (.inl (fun _ => 0)))), (qrb, .inl (k1b, 16, .inr (.inl (fun _ => 0))))] sz)) 1 6 (va_A [(h0, .inr (11, fs_h0)), (qC, .inr (2, fs_qC)), (qr, .inr (6, fs_qr)), (qra, .inl (k1a, 16, .inr (.inl (fun _ => 0)))), (qrb, .inl (k1b, 16, .inr (.inl (fun _ => 0))))] sz) := by
  refine vx_ofW (cc := cX11_told) (maxL := 2) (ret := (some .int)) (by decide) rfl ?_
  intro p e s m args below meth c s₁ B hml hnt hv
  obtain ⟨rfl, hsz, hP, hK, hD0, hN, hT⟩ := hv
  have hx := B.exec
  have hb := B.bytes
  have hr := B.returns
  have hts := atoms_spec (ws := wv_f_told) B.pre
  have hown : s.vm.findClass RX11 = some m.cls := findClass_of_methodNamed B.named
  have hlocks := B.notSynchronized
  subst hsz
  have hD := hD0.self (sz := s.heap.size)
  generalize hAe : va_A [(h0, .inr (11, fs_h0)), (qC, .inr (2, fs_qC)), (qr, .inr (6, fs_qr)), (qra, .inl (k1a, 16, .inr (.inl (fun _ => 0)))), (qrb, .inl (k1b, 16, .inr (.inl (fun _ => 0))))] s.heap.size = A at hD hT ⊢
  have hA : ∀ q : Nat, s.heap.size ≤ q → A q := fun q h => by rw [← hAe]; exact Or.inr h
  obtain ⟨H, hHe, hP, hS⟩ : ∃ H : Heap, H = s.heap ∧ va_P (dC, dI) vwCl [(h0, .inr (11, fs_h0)), (qC, .inr (2, fs_qC)), (qr, .inr (6, fs_qr)), (qra, .inl (k1a, 16, .inr (.inl (fun _ => 0)))), (qrb, .inl (k1b, 16, .inr (.inl (fun _ => 0))))] H ∧ va_S A s.heap H [] := ⟨s.heap, rfl, hP, va_S.rf⟩
  have hl := lv_entry ([.ref h0, .int x0]) (n := 2) (Nat.le_of_ble_eq_true rfl)
  rw [lg_entry_eq]
  generalize (lg_sl ([.ref h0, .int x0]) ++ List.replicate (2 - (lg_sl ([.ref h0, .int x0])).length) Slot.unset).toArray = ls at hl ⊢
  have hl : lv_has ls 2 [(0, .ref h0), (1, .int x0)] := hl
  rw [← hHe]; clear hHe
  refine lv_iload_n hx hb dX11_told_0 rfl (lv_at hl 1 rfl) ?_
  refine lv_iconst (v := 2) hx hb dX11_told_1 (by decide) ?_
  have hPc := hP.sub (ws' := []) [] rfl
  have hDc := hD.sub (ws' := []) [] (by decide) rfl
  have hKc := hK.sub (tys' := []) [] rfl
  have hFc := va_free (wc := []) hD hS hA [] rfl
  refine vx_callv (vx_runS (As := [.int x0, .int 2]) (rest := []) ⟨hx, hb, hml, hown, hts⟩ (c_f_needWhat l hlt dC dI x0 H.size) (va_cwS 2 hts g_f_told_f_needWhat_180 rfl rfl rfl hd_X11_needWhat ⟨Nat.le_of_ble_eq_true rfl, Nat.le_of_ble_eq_true rfl⟩) ⟨fun a U g mk q => by obtain ⟨q0, q1, qP, qK, qD, qE0, qE1⟩ := q; exact ⟨q0, q1, qP, va_K.moved (u := U) (U := U.calling g mk a) (Vm.Alike.refl U.vm) qK, qD, w_N.same rfl qE0, w_T.same rfl rfl qE1⟩, fun U hU hW => ⟨rfl, by rw [hU], by rw [hU]; exact hPc, va_K.moved hW.alike hKc, hDc.weaken (fun _ _ _ _ => trivial), w_N.warm hW hN, w_T.go hT hW hS.2.1 hFc hU⟩⟩ rfl rfl hl.1 rfl (lv_room (Nat.le_of_ble_eq_true rfl)) dX11_told_2 ⟨(Nat.le_of_ble_eq_true rfl), (Nat.le_of_ble_eq_true rfl)⟩) hS (fun q _ h => hFc q h) hFc (fun q _ h => hFc q h) (fun E9 ce9 q9 u t H1 locs1 ht hvm hpx hBX hz1 hk1 hS1 hcell9 hv9 hcl9 => ?_) (fun u t H1 locs1 ht hvm hw hB hz1 hk1 hS1 => ?_)
  · skip
    obtain rfl : E9 = "java/lang/IllegalArgumentException" := hBX
    exact vx_out (fun x hx9 => (hnt x hx9).elim) hlocks hcell9 hv9 hcl9 (fun t9 ht9 _ => ⟨(), hpx, rfl, hS1.F ht9⟩) hS1.2.2 (Nat.le_of_ble_eq_true rfl) (Nat.le_of_ble_eq_true rfl)
  · skip
    obtain ⟨hP1, hK1, hD1⟩ := hB
    rw [ht] at hP1
    have hK1 := va_K.moved hvm.symm hK1
    have hJ := va_join (wr := [(h0, .inr (11, fs_h0)), (qC, .inr (2, fs_qC)), (qr, .inr (6, fs_qr)), (qra, .inl (k1a, 16, .inr (.inl (fun _ => 0)))), (qrb, .inl (k1b, 16, .inr (.inl (fun _ => 0))))]) (w1 := []) hP hD [] [0, 1, 2, 3, 4] rfl rfl (by decide) (by decide) hk1 hFc hP1 hD1
    clear hP hD hPc hDc hKc hFc hz1; try clear hk1
    obtain ⟨hP, hD⟩ := hJ
    replace hK := (hK.sub (tys' := [(k1a, .long), (k1b, .long)]) [0, 1] rfl).app (hK1.sub (tys' := []) [] rfl)
    clear hP1 hK1 hD1 hvm ht hS; try clear t
    try clear H
    revert hS1
    intro hS
    generalize H1 = H at hP hS ⊢; try clear H1
    replace hP : va_P (dC, dI) vwCl [(h0, .inr (11, fs_h0)), (qC, .inr (2, fs_qC)), (qr, .inr (6, fs_qr)), (qra, .inl (k1a, 16, .inr (.inl (fun _ => 0)))), (qrb, .inl (k1b, 16, .inr (.inl (fun _ => 0))))] H := hP
    replace hD : va_D A [(h0, .inr (11, fs_h0)), (qC, .inr (2, fs_qC)), (qr, .inr (6, fs_qr)), (qra, .inl (k1a, 16, .inr (.inl (fun _ => 0)))), (qrb, .inl (k1b, 16, .inr (.inl (fun _ => 0))))] := hD
    replace hK : va_K (dC, dI) vwCl [(k1a, .long), (k1b, .long)] s := hK
    have hw_1 : kWhat x0 := hw; clear hw
    refine lv_iload_n hx hb dX11_told_5 rfl (lv_at hl 1 rfl) ?_
    refine lv_if_ne (tgt := 17) hx hb dX11_told_6 (by decide) (fun hc_2 => ?_) (fun hc_2 => ?_)
    · skip
      refine lv_iload_n hx hb dX11_told_17 rfl (lv_at hl 1 rfl) ?_
      refine lv_iconst (v := 1) hx hb dX11_told_18 (by decide) ?_
      refine lv_icmp_ne (tgt := 35) hx hb dX11_told_19 (by decide) (fun hc_3 => ?_) (fun hc_3 => ?_)
      · skip
        refine lv_aload_n hx hb dX11_told_35 rfl (lv_at hl 0 rfl) ?_
        refine va_get (D := (dC, dI)) (ci := 11) (v := .ref qC) (C := RX11) (T := TX11) (N := 19) hx hb hts (in_f_told_X11) hown hK hP 0 rfl rfl 7 (by decide) (hts (.fieldLink RX11 50 "MotionSigns" "change" "LMotionSigns$Change;") (List.mem_of_getElem? (i := 4) rfl)) (fun _ h9 => h9) (mF.get hF_h0 0 rfl) dX11_told_36 ?_
        have hPc := hP.sub (ws' := [(qC, .inr (2, fs_qC)), (qr, .inr (6, fs_qr)), (qra, .inl (k1a, 16, .inr (.inl (fun _ => 0)))), (qrb, .inl (k1b, 16, .inr (.inl (fun _ => 0))))]) [1, 2, 3, 4] rfl
        have hDc := hD.sub (ws' := [(qC, .inr (2, fs_qC)), (qr, .inr (6, fs_qr)), (qra, .inl (k1a, 16, .inr (.inl (fun _ => 0)))), (qrb, .inl (k1b, 16, .inr (.inl (fun _ => 0))))]) [1, 2, 3, 4] (by decide) rfl
        have hKc := hK.sub (tys' := [(k1a, .long), (k1b, .long)]) [0, 1] rfl
        have hFc := va_free (wc := [(qC, .inr (2, fs_qC)), (qr, .inr (6, fs_qr)), (qra, .inl (k1a, 16, .inr (.inl (fun _ => 0)))), (qrb, .inl (k1b, 16, .inr (.inl (fun _ => 0))))]) hD hS hA [1, 2, 3, 4] rfl
        refine va_calli (va_runV (As := []) (rest := []) ⟨hx, hb, hml, hown, hts⟩ (c_f_order l dC dI qC qr qra qrb k1a k1b fs_qC fs_qr (mF.sub hF_qC [0, 1] rfl) (mF.sub hF_qr [0, 1, 2] rfl) H.size) (cwV 0 hts g_f_told_f_order_183 rfl rfl rfl hv_X2_order ⟨Nat.le_of_ble_eq_true rfl, Nat.le_of_ble_eq_true rfl⟩) ⟨fun a U g mk q => by obtain ⟨q0, q1, qP, qK, qD, qE0⟩ := q; exact ⟨q0, q1, qP, va_K.moved (u := U) (U := U.calling g mk a) (Vm.Alike.refl U.vm) qK, qD, w_N.same rfl qE0⟩, va_recv hKc hPc (ci := 2) (q0 := 0) rfl rfl, fun U hU hW => ⟨rfl, by rw [hU], by rw [hU]; exact hPc, va_K.moved hW.alike hKc, hDc.weaken (fun _ _ _ _ => trivial), w_N.warm hW hN⟩⟩ rfl rfl hl.1 rfl (lv_room (Nat.le_of_ble_eq_true rfl)) dX11_told_39 ⟨(Nat.le_of_ble_eq_true rfl), (Nat.le_of_ble_eq_true rfl)⟩) hS (fun q _ h => hFc q h) hFc (fun r_4 u t H1 locs1 ht hvm hw hB hz1 hk1 hS1 => ?_)
        obtain ⟨hP1, hK1, hD1⟩ := hB
        rw [ht] at hP1
        have hK1 := va_K.moved hvm.symm hK1
        have hJ := va_join (wr := [(h0, .inr (11, fs_h0))]) (w1 := [(qC, .inr (2, fs_qC)), (qr, .inr (6, fs_qr)), (qra, .inl (k1a, 16, .inr (.inl (fun _ => 0)))), (qrb, .inl (k1b, 16, .inr (.inl (fun _ => 0))))]) hP hD [1, 2, 3, 4] [0] rfl rfl (by decide) (by decide) hk1 hFc hP1 hD1
        clear hP hD hPc hDc hKc hFc hz1; try clear hk1
        obtain ⟨hP, hD⟩ := hJ
        replace hK := (hK.sub (tys' := [(k1a, .long), (k1b, .long)]) [0, 1] rfl).app (hK1.sub (tys' := []) [] rfl)
        clear hP1 hK1 hD1 hvm ht hS; try clear t
        try clear H
        revert hS1
        intro hS
        generalize H1 = H at hP hS ⊢; try clear H1
        replace hP : va_P (dC, dI) vwCl [(h0, .inr (11, fs_h0)), (qC, .inr (2, fs_qC)), (qr, .inr (6, fs_qr)), (qra, .inl (k1a, 16, .inr (.inl (fun _ => 0)))), (qrb, .inl (k1b, 16, .inr (.inl (fun _ => 0))))] H := hP
        replace hD : va_D A [(h0, .inr (11, fs_h0)), (qC, .inr (2, fs_qC)), (qr, .inr (6, fs_qr)), (qra, .inl (k1a, 16, .inr (.inl (fun _ => 0)))), (qrb, .inl (k1b, 16, .inr (.inl (fun _ => 0))))] := hD
        replace hK : va_K (dC, dI) vwCl [(k1a, .long), (k1b, .long)] s := hK
        have hw_5 : r_4 = 0 := hw; clear hw
        subst hw_5
        have hP9 := hP.sub (ws' := []) [] rfl
        have hD9 := hD.sub (ws' := []) [] (by decide) rfl
        have hK9 := hK.sub (tys' := []) [] rfl
        rw [← hAe] at hD9
        refine W.widen (k := 1) (n := 6) (Nat.le_of_ble_eq_true rfl) (Nat.le_of_ble_eq_true rfl) ?_
        subst hAe
        exact vx_ret (W.iret (v := 0) hx hb hr (fun t ht hW => ⟨⟨0, (), rfl, ⟨rfl, hw_1⟩, by rw [ht]; exact hP9, va_K.moved hW.alike hK9, hD9⟩, hS.F ht⟩) hS.2.2 dX11_told_42)
      · skip
        refine lv_aload_n hx hb dX11_told_22 rfl (lv_at hl 0 rfl) ?_
        refine va_get (D := (dC, dI)) (ci := 11) (v := .ref qC) (C := RX11) (T := TX11) (N := 19) hx hb hts (in_f_told_X11) hown hK hP 0 rfl rfl 7 (by decide) (hts (.fieldLink RX11 50 "MotionSigns" "change" "LMotionSigns$Change;") (List.mem_of_getElem? (i := 4) rfl)) (fun _ h9 => h9) (mF.get hF_h0 0 rfl) dX11_told_23 ?_
        refine va_getN (D := (dC, dI)) (ci := 2) (v := .ref qr) (C := RX2) (T := TX2) (N := 13) hx hb hts (in_f_told_X2) hown hK hP 1 rfl rfl 2 (by decide) (va_Nw.use rfl (hN.2.1 (RX11, 152, RX2, "right", "LMotionSigns$Poly;", RX11) (List.mem_of_getElem? (i := 25) rfl))) (fun _ h9 => h9) (mF.get hF_qC 0 rfl) dX11_told_26 ?_
        have hPc := hP.sub (ws' := [(qr, .inr (6, fs_qr)), (qra, .inl (k1a, 16, .inr (.inl (fun _ => 0)))), (qrb, .inl (k1b, 16, .inr (.inl (fun _ => 0))))]) [2, 3, 4] rfl
        have hDc := hD.sub (ws' := [(qr, .inr (6, fs_qr)), (qra, .inl (k1a, 16, .inr (.inl (fun _ => 0)))), (qrb, .inl (k1b, 16, .inr (.inl (fun _ => 0))))]) [2, 3, 4] (by decide) rfl
        have hKc := hK.sub (tys' := [(k1a, .long), (k1b, .long)]) [0, 1] rfl
        have hFc := va_free (wc := [(qr, .inr (6, fs_qr)), (qra, .inl (k1a, 16, .inr (.inl (fun _ => 0)))), (qrb, .inl (k1b, 16, .inr (.inl (fun _ => 0))))]) hD hS hA [2, 3, 4] rfl
        refine va_calli (va_runV (As := []) (rest := []) ⟨hx, hb, hml, hown, hts⟩ (c_p_length l dC dI qr qra qrb k1a k1b fs_qr (mF.sub hF_qr [0, 1, 2] rfl) H.size) (cwV 0 hts g_f_told_p_length_155 rfl rfl rfl hv_X6_length ⟨Nat.le_of_ble_eq_true rfl, Nat.le_of_ble_eq_true rfl⟩) ⟨fun a U g mk q => by obtain ⟨q0, q1, qP, qK, qD, qE0⟩ := q; exact ⟨q0, q1, qP, va_K.moved (u := U) (U := U.calling g mk a) (Vm.Alike.refl U.vm) qK, qD, w_N.same rfl qE0⟩, va_recv hKc hPc (ci := 6) (q0 := 0) rfl rfl, fun U hU hW => ⟨rfl, by rw [hU], by rw [hU]; exact hPc, va_K.moved hW.alike hKc, hDc.weaken (fun _ _ _ _ => trivial), w_N.warm hW hN⟩⟩ rfl rfl hl.1 rfl (lv_room (Nat.le_of_ble_eq_true rfl)) dX11_told_29 ⟨(Nat.le_of_ble_eq_true rfl), (Nat.le_of_ble_eq_true rfl)⟩) hS (fun q _ h => hFc q h) hFc (fun r_6 u t H1 locs1 ht hvm hw hB hz1 hk1 hS1 => ?_)
        obtain ⟨hP1, hK1, hD1⟩ := hB
        rw [ht] at hP1
        have hK1 := va_K.moved hvm.symm hK1
        have hJ := va_join (wr := [(h0, .inr (11, fs_h0)), (qC, .inr (2, fs_qC))]) (w1 := [(qr, .inr (6, fs_qr)), (qra, .inl (k1a, 16, .inr (.inl (fun _ => 0)))), (qrb, .inl (k1b, 16, .inr (.inl (fun _ => 0))))]) hP hD [2, 3, 4] [0, 1] rfl rfl (by decide) (by decide) hk1 hFc hP1 hD1
        clear hP hD hPc hDc hKc hFc hz1; try clear hk1
        obtain ⟨hP, hD⟩ := hJ
        replace hK := (hK.sub (tys' := [(k1a, .long), (k1b, .long)]) [0, 1] rfl).app (hK1.sub (tys' := []) [] rfl)
        clear hP1 hK1 hD1 hvm ht hS; try clear t
        try clear H
        revert hS1
        intro hS
        generalize H1 = H at hP hS ⊢; try clear H1
        replace hP : va_P (dC, dI) vwCl [(h0, .inr (11, fs_h0)), (qC, .inr (2, fs_qC)), (qr, .inr (6, fs_qr)), (qra, .inl (k1a, 16, .inr (.inl (fun _ => 0)))), (qrb, .inl (k1b, 16, .inr (.inl (fun _ => 0))))] H := hP
        replace hD : va_D A [(h0, .inr (11, fs_h0)), (qC, .inr (2, fs_qC)), (qr, .inr (6, fs_qr)), (qra, .inl (k1a, 16, .inr (.inl (fun _ => 0)))), (qrb, .inl (k1b, 16, .inr (.inl (fun _ => 0))))] := hD
        replace hK : va_K (dC, dI) vwCl [(k1a, .long), (k1b, .long)] s := hK
        have hw_7 : r_6 = 0 := hw; clear hw
        subst hw_7
        refine lv_goto (tgt := 42) hx hb dX11_told_32 (by decide) ?_
        have hP9 := hP.sub (ws' := []) [] rfl
        have hD9 := hD.sub (ws' := []) [] (by decide) rfl
        have hK9 := hK.sub (tys' := []) [] rfl
        rw [← hAe] at hD9
        refine W.widen (k := 1) (n := 6) (Nat.le_of_ble_eq_true rfl) (Nat.le_of_ble_eq_true rfl) ?_
        subst hAe
        exact vx_ret (W.iret (v := 0) hx hb hr (fun t ht hW => ⟨⟨0, (), rfl, ⟨rfl, hw_1⟩, by rw [ht]; exact hP9, va_K.moved hW.alike hK9, hD9⟩, hS.F ht⟩) hS.2.2 dX11_told_42)
    · skip
      refine lv_aload_n hx hb dX11_told_9 rfl (lv_at hl 0 rfl) ?_
      refine va_get (D := (dC, dI)) (ci := 11) (v := .ref qC) (C := RX11) (T := TX11) (N := 19) hx hb hts (in_f_told_X11) hown hK hP 0 rfl rfl 7 (by decide) (hts (.fieldLink RX11 50 "MotionSigns" "change" "LMotionSigns$Change;") (List.mem_of_getElem? (i := 4) rfl)) (fun _ h9 => h9) (mF.get hF_h0 0 rfl) dX11_told_10 ?_
      refine va_getN (D := (dC, dI)) (ci := 2) (v := .int 0) (C := RX2) (T := TX2) (N := 13) hx hb hts (in_f_told_X2) hown hK hP 1 rfl rfl 8 (by decide) (va_Nw.use rfl (hN.2.1 (RX11, 162, RX2, "sort", "I", RX11) (List.mem_of_getElem? (i := 28) rfl))) (fun _ h9 => h9) (mF.get hF_qC 1 rfl) dX11_told_13 ?_
      have hP9 := hP.sub (ws' := []) [] rfl
      have hD9 := hD.sub (ws' := []) [] (by decide) rfl
      have hK9 := hK.sub (tys' := []) [] rfl
      rw [← hAe] at hD9
      refine W.widen (k := 1) (n := 6) (Nat.le_of_ble_eq_true rfl) (Nat.le_of_ble_eq_true rfl) ?_
      subst hAe
      exact vx_ret (W.iret (v := 0) hx hb hr (fun t ht hW => ⟨⟨0, (), rfl, ⟨rfl, hw_1⟩, by rw [ht]; exact hP9, va_K.moved hW.alike hK9, hD9⟩, hS.F ht⟩) hS.2.2 dX11_told_16)
def wv_f_unit : List Cond := .code yX11_unit cX11_unit 1 (some .long) :: ([] ++ ([]))
theorem gw_f_unit : wv_f_unit.all goodWord = true := by decide +kernel
set_option maxHeartbeats 4000000 in
set_option maxRecDepth 100000 in
/-- unit -/
theorem c_f_unit (l : Launch) (dC : Nat → ClassId) (dI : Nat → Nat → Nat) (x0 : Int32) (sz : Nat) : Met l yX11_unit wv_f_unit ({ frames := 0, cells := 0, slots := 0, locals := 0 }) (va_Pc [.int x0] (fun U => U.heap.size = sz ∧ va_P (dC, dI) vwCl [] U.heap ∧ va_K (dC, dI) vwCl [] U ∧ va_D (fun _ => True) [] ∧ w_N U)) (va_Ql (fun (r : Int64) (_ : Unit) => True) (fun _ t => va_P (dC, dI) vwCl [] t.heap ∧ va_K (dC, dI) vwCl [] t ∧ va_D (va_A [] sz) []) (va_A [] sz)) 0 0 (va_A [] sz) := by
  refine Met.ofW (cc := cX11_unit) (maxL := 1) (ret := (some .long)) (by decide) rfl ?_
  intro p e s m args below meth c s₁ B hml hv
  obtain ⟨rfl, hsz, hP, hK, hD0, hN⟩ := hv
  have hx := B.exec
  have hb := B.bytes
  have hr := B.returns
  have hts := atoms_spec (ws := wv_f_unit) B.pre
  have hown : s.vm.findClass RX11 = some m.cls := findClass_of_methodNamed B.named
  have hlocks := B.notSynchronized
  subst hsz
  have hD := hD0.self (sz := s.heap.size)
  generalize hAe : va_A [] s.heap.size = A at hD ⊢
  have hA : ∀ q : Nat, s.heap.size ≤ q → A q := fun q h => by rw [← hAe]; exact Or.inr h
  obtain ⟨H, hHe, hP, hS⟩ : ∃ H : Heap, H = s.heap ∧ va_P (dC, dI) vwCl [] H ∧ va_S A s.heap H [] := ⟨s.heap, rfl, hP, va_S.rf⟩
  have hl := lv_entry ([.int x0]) (n := 1) (Nat.le_of_ble_eq_true rfl)
  rw [lg_entry_eq]
  generalize (lg_sl ([.int x0]) ++ List.replicate (1 - (lg_sl ([.int x0])).length) Slot.unset).toArray = ls at hl ⊢
  have hl : lv_has ls 1 [(0, .int x0)] := hl
  rw [← hHe]; clear hHe
  refine lv_lconst (v := 1) hx hb dX11_unit_0 (by decide) ?_
  refine lv_bipush (v := 7) hx hb dX11_unit_1 (by decide) ?_
  refine lv_iload_n hx hb dX11_unit_3 rfl (lv_at hl 0 rfl) ?_
  refine lv_imul hx hb dX11_unit_4 ?_
  refine lv_lshl (v := (1 <<< (((7 * x0) : Int32).toInt64 &&& 63))) hx hb dX11_unit_5 rfl ?_
  have hP9 := hP.sub (ws' := []) [] rfl
  have hD9 := hD.sub (ws' := []) [] (by decide) rfl
  have hK9 := hK.sub (tys' := []) [] rfl
  rw [← hAe] at hD9
  refine W.widen (k := 0) (n := 0) (Nat.le_of_ble_eq_true rfl) (Nat.le_of_ble_eq_true rfl) ?_
  subst hAe
  exact (W.lret (v := (1 <<< (((7 * x0) : Int32).toInt64 &&& 63))) hx hb hr (fun t ht hW => ⟨⟨(1 <<< (((7 * x0) : Int32).toInt64 &&& 63)), (), rfl, trivial, by rw [ht]; exact hP9, va_K.moved hW.alike hK9, hD9⟩, hS.F ht⟩) hS.2.2 dX11_unit_6)
def wv_f_keyOf : List Cond := .code yX11_keyOf cX11_keyOf 7 (some .long) :: ([.methodLink RX11 225 yX11_unit, .static yX11_unit, .initialized RX11] ++ (wv_f_unit ++ ([])))
theorem gw_f_keyOf : wv_f_keyOf.all goodWord = true := by decide +kernel
theorem g_f_keyOf_f_unit_225 : GoodIn wv_f_keyOf (va_wsS RX11 225 yX11_unit wv_f_unit) := goodIn_app (goodIn_of _ (by decide +kernel)) (goodIn_sub (fun _ h => List.mem_cons_of_mem _ (List.mem_append_right _ (List.mem_append_left _ h))) gw_f_unit)
set_option maxHeartbeats 4000000 in
set_option maxRecDepth 100000 in
/-- keyOf -/
theorem c_f_keyOf (l : Launch) (dC : Nat → ClassId) (dI : Nat → Nat → Nat) (x0 : Int32) (sz : Nat) : Met l yX11_keyOf wv_f_keyOf ({ frames := 1, cells := 0, slots := 0, locals := 20 }) (va_Pc [.int x0, .int 6, .int 0] (fun U => U.heap.size = sz ∧ va_P (dC, dI) vwCl [] U.heap ∧ va_K (dC, dI) vwCl [] U ∧ va_D (fun _ => True) [] ∧ w_N U)) (va_Ql (fun (r : Int64) (_ : Unit) => True) (fun _ t => va_P (dC, dI) vwCl [] t.heap ∧ va_K (dC, dI) vwCl [] t ∧ va_D (va_A [] sz) []) (va_A [] sz)) 0 0 (va_A [] sz) := by
  refine Met.ofW (cc := cX11_keyOf) (maxL := 7) (ret := (some .long)) (by decide) rfl ?_
  intro p e s m args below meth c s₁ B hml hv
  obtain ⟨rfl, hsz, hP, hK, hD0, hN⟩ := hv
  have hx := B.exec
  have hb := B.bytes
  have hr := B.returns
  have hts := atoms_spec (ws := wv_f_keyOf) B.pre
  have hown : s.vm.findClass RX11 = some m.cls := findClass_of_methodNamed B.named
  have hlocks := B.notSynchronized
  subst hsz
  have hD := hD0.self (sz := s.heap.size)
  generalize hAe : va_A [] s.heap.size = A at hD ⊢
  have hA : ∀ q : Nat, s.heap.size ≤ q → A q := fun q h => by rw [← hAe]; exact Or.inr h
  obtain ⟨H, hHe, hP, hS⟩ : ∃ H : Heap, H = s.heap ∧ va_P (dC, dI) vwCl [] H ∧ va_S A s.heap H [] := ⟨s.heap, rfl, hP, va_S.rf⟩
  have hl := lv_entry ([.int x0, .int 6, .int 0]) (n := 7) (Nat.le_of_ble_eq_true rfl)
  rw [lg_entry_eq]
  generalize (lg_sl ([.int x0, .int 6, .int 0]) ++ List.replicate (7 - (lg_sl ([.int x0, .int 6, .int 0])).length) Slot.unset).toArray = ls at hl ⊢
  have hl : lv_has ls 7 [(0, .int x0), (1, .int 6), (2, .int 0)] := hl
  rw [← hHe]; clear hHe
  refine lv_lconst (v := 0) hx hb dX11_keyOf_0 (by decide) ?_
  refine lv_lstore_n (lv' := [(3, .long 0), (0, .int x0), (1, .int 6), (2, .int 0)]) hx hb dX11_keyOf_1 rfl hl (by decide) rfl (fun ls hl => ?_)
  refine lv_iload_n hx hb dX11_keyOf_2 rfl (lv_at hl 1 rfl) ?_
  refine lv_istore (lv' := [(5, .int x0), (3, .long 0), (0, .int x0), (1, .int 6), (2, .int 0)]) hx hb dX11_keyOf_3 hl (by decide) rfl (fun ls hl => ?_)
  refine lv_iload_n hx hb dX11_keyOf_5 rfl (lv_at hl 3 rfl) ?_
  refine lv_iconst (v := 1) hx hb dX11_keyOf_6 (by decide) ?_
  refine lv_isub hx hb dX11_keyOf_7 ?_
  refine lv_topi (fun v_1 ev_1 => ?_)
  have ev_1 : v_1 = 5 := ev_1.trans (by decide)
  subst ev_1
  refine lv_istore (lv' := [(6, .int 5), (5, .int x0), (3, .long 0), (0, .int x0), (1, .int 6), (2, .int 0)]) hx hb dX11_keyOf_8 hl (by decide) rfl (fun ls hl => ?_)
  refine lv_iload hx hb dX11_keyOf_10 (lv_at hl 0 rfl) ?_
  refine lv_if_lt (tgt := 45) hx hb dX11_keyOf_12 (by decide) (fun hc => absurd hc (by decide)) (fun _ => ?_)
  refine lv_lload_n hx hb dX11_keyOf_15 rfl (lv_at hl 2 rfl) ?_
  refine lv_iload hx hb dX11_keyOf_16 (lv_at hl 1 rfl) ?_
  refine lv_bipush (v := 10) hx hb dX11_keyOf_18 (by decide) ?_
  refine lv_irem hx hb dX11_keyOf_20 (by decide) ?_
  refine lv_i2l (v := (((x0 - x0 / 10 * 10) : Int32).toInt64)) hx hb dX11_keyOf_21 rfl ?_
  refine lv_iload_n hx hb dX11_keyOf_22 rfl (lv_at hl 5 rfl) ?_
  refine lv_iload hx hb dX11_keyOf_23 (lv_at hl 0 rfl) ?_
  refine lv_iadd hx hb dX11_keyOf_25 ?_
  refine lv_topi (fun v_2 ev_2 => ?_)
  have ev_2 : v_2 = 5 := ev_2.trans (by decide)
  subst ev_2
  have hPc := hP.sub (ws' := []) [] rfl
  have hDc := hD.sub (ws' := []) [] (by decide) rfl
  have hKc := hK.sub (tys' := []) [] rfl
  have hFc := va_free (wc := []) hD hS hA [] rfl
  refine va_calll (va_runS (As := [.int 5]) (rest := [.long (((x0 - x0 / 10 * 10) : Int32).toInt64), .long 0]) ⟨hx, hb, hml, hown, hts⟩ (c_f_unit l dC dI 5 H.size) (va_cwS 1 hts g_f_keyOf_f_unit_225 rfl rfl rfl hd_X11_unit ⟨Nat.le_of_ble_eq_true rfl, Nat.le_of_ble_eq_true rfl⟩) ⟨fun a U g mk q => by obtain ⟨q0, q1, qP, qK, qD, qE0⟩ := q; exact ⟨q0, q1, qP, va_K.moved (u := U) (U := U.calling g mk a) (Vm.Alike.refl U.vm) qK, qD, w_N.same rfl qE0⟩, fun U hU hW => ⟨rfl, by rw [hU], by rw [hU]; exact hPc, va_K.moved hW.alike hKc, hDc.weaken (fun _ _ _ _ => trivial), w_N.warm hW hN⟩⟩ rfl rfl hl.1 rfl (lv_room (Nat.le_of_ble_eq_true rfl)) dX11_keyOf_26 ⟨(Nat.le_of_ble_eq_true rfl), (Nat.le_of_ble_eq_true rfl)⟩) hS (fun q _ h => hFc q h) hFc (fun r_3 u t H1 locs1 ht hvm hw hB hz1 hk1 hS1 => ?_)
  obtain ⟨hP1, hK1, hD1⟩ := hB
  rw [ht] at hP1
  have hK1 := va_K.moved hvm.symm hK1
  have hJ := va_join (wr := []) (w1 := []) hP hD [] [] rfl rfl (by decide) (by decide) hk1 hFc hP1 hD1
  clear hP hD hPc hDc hKc hFc hz1; try clear hk1
  obtain ⟨hP, hD⟩ := hJ
  replace hK := (hK.sub (tys' := []) [] rfl).app (hK1.sub (tys' := []) [] rfl)
  clear hP1 hK1 hD1 hvm ht hS; try clear t
  try clear H
  revert hS1
  intro hS
  generalize H1 = H at hP hS ⊢; try clear H1
  replace hP : va_P (dC, dI) vwCl [] H := hP
  replace hD : va_D A [] := hD
  replace hK : va_K (dC, dI) vwCl [] s := hK
  have hw_4 : True := hw; clear hw
  refine lv_lmul hx hb dX11_keyOf_29 ?_
  refine lv_ladd hx hb dX11_keyOf_30 ?_
  refine lv_lstore_n (lv' := [(3, .long (0 + ((((x0 - x0 / 10 * 10) : Int32).toInt64) * r_3))), (6, .int 5), (5, .int x0), (0, .int x0), (1, .int 6), (2, .int 0)]) hx hb dX11_keyOf_31 rfl hl (by decide) rfl (fun ls hl => ?_)
  refine lv_iload hx hb dX11_keyOf_32 (lv_at hl 2 rfl) ?_
  refine lv_bipush (v := 10) hx hb dX11_keyOf_34 (by decide) ?_
  refine lv_idiv hx hb dX11_keyOf_36 (by decide) ?_
  refine lv_istore (lv' := [(5, .int (x0 / 10)), (3, .long (0 + ((((x0 - x0 / 10 * 10) : Int32).toInt64) * r_3))), (6, .int 5), (0, .int x0), (1, .int 6), (2, .int 0)]) hx hb dX11_keyOf_37 hl (by decide) rfl (fun ls hl => ?_)
  refine lv_iinc (v := 4) (lv' := [(6, .int 4), (5, .int (x0 / 10)), (3, .long (0 + ((((x0 - x0 / 10 * 10) : Int32).toInt64) * r_3))), (0, .int x0), (1, .int 6), (2, .int 0)]) hx hb dX11_keyOf_39 hl (k := 2) rfl (by decide) (by decide) rfl (fun ls hl => ?_)
  refine lv_goto (tgt := 10) hx hb dX11_keyOf_42 (by decide) ?_
  refine lv_iload hx hb dX11_keyOf_10 (lv_at hl 0 rfl) ?_
  refine lv_if_lt (tgt := 45) hx hb dX11_keyOf_12 (by decide) (fun hc => absurd hc (by decide)) (fun _ => ?_)
  refine lv_lload_n hx hb dX11_keyOf_15 rfl (lv_at hl 2 rfl) ?_
  refine lv_iload hx hb dX11_keyOf_16 (lv_at hl 1 rfl) ?_
  refine lv_bipush (v := 10) hx hb dX11_keyOf_18 (by decide) ?_
  refine lv_irem hx hb dX11_keyOf_20 (by decide) ?_
  refine lv_i2l (v := ((((x0 / 10) - (x0 / 10) / 10 * 10) : Int32).toInt64)) hx hb dX11_keyOf_21 rfl ?_
  refine lv_iload_n hx hb dX11_keyOf_22 rfl (lv_at hl 5 rfl) ?_
  refine lv_iload hx hb dX11_keyOf_23 (lv_at hl 0 rfl) ?_
  refine lv_iadd hx hb dX11_keyOf_25 ?_
  refine lv_topi (fun v_5 ev_5 => ?_)
  have ev_5 : v_5 = 4 := ev_5.trans (by decide)
  subst ev_5
  have hPc := hP.sub (ws' := []) [] rfl
  have hDc := hD.sub (ws' := []) [] (by decide) rfl
  have hKc := hK.sub (tys' := []) [] rfl
  have hFc := va_free (wc := []) hD hS hA [] rfl
  refine va_calll (va_runS (As := [.int 4]) (rest := [.long ((((x0 / 10) - (x0 / 10) / 10 * 10) : Int32).toInt64), .long (0 + ((((x0 - x0 / 10 * 10) : Int32).toInt64) * r_3))]) ⟨hx, hb, hml, hown, hts⟩ (c_f_unit l dC dI 4 H.size) (va_cwS 1 hts g_f_keyOf_f_unit_225 rfl rfl rfl hd_X11_unit ⟨Nat.le_of_ble_eq_true rfl, Nat.le_of_ble_eq_true rfl⟩) ⟨fun a U g mk q => by obtain ⟨q0, q1, qP, qK, qD, qE0⟩ := q; exact ⟨q0, q1, qP, va_K.moved (u := U) (U := U.calling g mk a) (Vm.Alike.refl U.vm) qK, qD, w_N.same rfl qE0⟩, fun U hU hW => ⟨rfl, by rw [hU], by rw [hU]; exact hPc, va_K.moved hW.alike hKc, hDc.weaken (fun _ _ _ _ => trivial), w_N.warm hW hN⟩⟩ rfl rfl hl.1 rfl (lv_room (Nat.le_of_ble_eq_true rfl)) dX11_keyOf_26 ⟨(Nat.le_of_ble_eq_true rfl), (Nat.le_of_ble_eq_true rfl)⟩) hS (fun q _ h => hFc q h) hFc (fun r_6 u t H1 locs1 ht hvm hw hB hz1 hk1 hS1 => ?_)
  obtain ⟨hP1, hK1, hD1⟩ := hB
  rw [ht] at hP1
  have hK1 := va_K.moved hvm.symm hK1
  have hJ := va_join (wr := []) (w1 := []) hP hD [] [] rfl rfl (by decide) (by decide) hk1 hFc hP1 hD1
  clear hP hD hPc hDc hKc hFc hz1; try clear hk1
  obtain ⟨hP, hD⟩ := hJ
  replace hK := (hK.sub (tys' := []) [] rfl).app (hK1.sub (tys' := []) [] rfl)
  clear hP1 hK1 hD1 hvm ht hS; try clear t
  try clear H
  revert hS1
  intro hS
  generalize H1 = H at hP hS ⊢; try clear H1
  replace hP : va_P (dC, dI) vwCl [] H := hP
  replace hD : va_D A [] := hD
  replace hK : va_K (dC, dI) vwCl [] s := hK
  have hw_7 : True := hw; clear hw
  refine lv_lmul hx hb dX11_keyOf_29 ?_
  refine lv_ladd hx hb dX11_keyOf_30 ?_
  refine lv_lstore_n (lv' := [(3, .long ((0 + ((((x0 - x0 / 10 * 10) : Int32).toInt64) * r_3)) + (((((x0 / 10) - (x0 / 10) / 10 * 10) : Int32).toInt64) * r_6))), (6, .int 4), (5, .int (x0 / 10)), (0, .int x0), (1, .int 6), (2, .int 0)]) hx hb dX11_keyOf_31 rfl hl (by decide) rfl (fun ls hl => ?_)
  refine lv_iload hx hb dX11_keyOf_32 (lv_at hl 2 rfl) ?_
  refine lv_bipush (v := 10) hx hb dX11_keyOf_34 (by decide) ?_
  refine lv_idiv hx hb dX11_keyOf_36 (by decide) ?_
  refine lv_istore (lv' := [(5, .int ((x0 / 10) / 10)), (3, .long ((0 + ((((x0 - x0 / 10 * 10) : Int32).toInt64) * r_3)) + (((((x0 / 10) - (x0 / 10) / 10 * 10) : Int32).toInt64) * r_6))), (6, .int 4), (0, .int x0), (1, .int 6), (2, .int 0)]) hx hb dX11_keyOf_37 hl (by decide) rfl (fun ls hl => ?_)
  refine lv_iinc (v := 3) (lv' := [(6, .int 3), (5, .int ((x0 / 10) / 10)), (3, .long ((0 + ((((x0 - x0 / 10 * 10) : Int32).toInt64) * r_3)) + (((((x0 / 10) - (x0 / 10) / 10 * 10) : Int32).toInt64) * r_6))), (0, .int x0), (1, .int 6), (2, .int 0)]) hx hb dX11_keyOf_39 hl (k := 2) rfl (by decide) (by decide) rfl (fun ls hl => ?_)
  refine lv_goto (tgt := 10) hx hb dX11_keyOf_42 (by decide) ?_
  refine lv_iload hx hb dX11_keyOf_10 (lv_at hl 0 rfl) ?_
  refine lv_if_lt (tgt := 45) hx hb dX11_keyOf_12 (by decide) (fun hc => absurd hc (by decide)) (fun _ => ?_)
  refine lv_lload_n hx hb dX11_keyOf_15 rfl (lv_at hl 2 rfl) ?_
  refine lv_iload hx hb dX11_keyOf_16 (lv_at hl 1 rfl) ?_
  refine lv_bipush (v := 10) hx hb dX11_keyOf_18 (by decide) ?_
  refine lv_irem hx hb dX11_keyOf_20 (by decide) ?_
  refine lv_i2l (v := (((((x0 / 10) / 10) - ((x0 / 10) / 10) / 10 * 10) : Int32).toInt64)) hx hb dX11_keyOf_21 rfl ?_
  refine lv_iload_n hx hb dX11_keyOf_22 rfl (lv_at hl 5 rfl) ?_
  refine lv_iload hx hb dX11_keyOf_23 (lv_at hl 0 rfl) ?_
  refine lv_iadd hx hb dX11_keyOf_25 ?_
  refine lv_topi (fun v_8 ev_8 => ?_)
  have ev_8 : v_8 = 3 := ev_8.trans (by decide)
  subst ev_8
  have hPc := hP.sub (ws' := []) [] rfl
  have hDc := hD.sub (ws' := []) [] (by decide) rfl
  have hKc := hK.sub (tys' := []) [] rfl
  have hFc := va_free (wc := []) hD hS hA [] rfl
  refine va_calll (va_runS (As := [.int 3]) (rest := [.long (((((x0 / 10) / 10) - ((x0 / 10) / 10) / 10 * 10) : Int32).toInt64), .long ((0 + ((((x0 - x0 / 10 * 10) : Int32).toInt64) * r_3)) + (((((x0 / 10) - (x0 / 10) / 10 * 10) : Int32).toInt64) * r_6))]) ⟨hx, hb, hml, hown, hts⟩ (c_f_unit l dC dI 3 H.size) (va_cwS 1 hts g_f_keyOf_f_unit_225 rfl rfl rfl hd_X11_unit ⟨Nat.le_of_ble_eq_true rfl, Nat.le_of_ble_eq_true rfl⟩) ⟨fun a U g mk q => by obtain ⟨q0, q1, qP, qK, qD, qE0⟩ := q; exact ⟨q0, q1, qP, va_K.moved (u := U) (U := U.calling g mk a) (Vm.Alike.refl U.vm) qK, qD, w_N.same rfl qE0⟩, fun U hU hW => ⟨rfl, by rw [hU], by rw [hU]; exact hPc, va_K.moved hW.alike hKc, hDc.weaken (fun _ _ _ _ => trivial), w_N.warm hW hN⟩⟩ rfl rfl hl.1 rfl (lv_room (Nat.le_of_ble_eq_true rfl)) dX11_keyOf_26 ⟨(Nat.le_of_ble_eq_true rfl), (Nat.le_of_ble_eq_true rfl)⟩) hS (fun q _ h => hFc q h) hFc (fun r_9 u t H1 locs1 ht hvm hw hB hz1 hk1 hS1 => ?_)
  obtain ⟨hP1, hK1, hD1⟩ := hB
  rw [ht] at hP1
  have hK1 := va_K.moved hvm.symm hK1
  have hJ := va_join (wr := []) (w1 := []) hP hD [] [] rfl rfl (by decide) (by decide) hk1 hFc hP1 hD1
  clear hP hD hPc hDc hKc hFc hz1; try clear hk1
  obtain ⟨hP, hD⟩ := hJ
  replace hK := (hK.sub (tys' := []) [] rfl).app (hK1.sub (tys' := []) [] rfl)
  clear hP1 hK1 hD1 hvm ht hS; try clear t
  try clear H
  revert hS1
  intro hS
  generalize H1 = H at hP hS ⊢; try clear H1
  replace hP : va_P (dC, dI) vwCl [] H := hP
  replace hD : va_D A [] := hD
  replace hK : va_K (dC, dI) vwCl [] s := hK
  have hw_10 : True := hw; clear hw
  refine lv_lmul hx hb dX11_keyOf_29 ?_
  refine lv_ladd hx hb dX11_keyOf_30 ?_
  refine lv_lstore_n (lv' := [(3, .long (((0 + ((((x0 - x0 / 10 * 10) : Int32).toInt64) * r_3)) + (((((x0 / 10) - (x0 / 10) / 10 * 10) : Int32).toInt64) * r_6)) + ((((((x0 / 10) / 10) - ((x0 / 10) / 10) / 10 * 10) : Int32).toInt64) * r_9))), (6, .int 3), (5, .int ((x0 / 10) / 10)), (0, .int x0), (1, .int 6), (2, .int 0)]) hx hb dX11_keyOf_31 rfl hl (by decide) rfl (fun ls hl => ?_)
  refine lv_iload hx hb dX11_keyOf_32 (lv_at hl 2 rfl) ?_
  refine lv_bipush (v := 10) hx hb dX11_keyOf_34 (by decide) ?_
  refine lv_idiv hx hb dX11_keyOf_36 (by decide) ?_
  refine lv_istore (lv' := [(5, .int (((x0 / 10) / 10) / 10)), (3, .long (((0 + ((((x0 - x0 / 10 * 10) : Int32).toInt64) * r_3)) + (((((x0 / 10) - (x0 / 10) / 10 * 10) : Int32).toInt64) * r_6)) + ((((((x0 / 10) / 10) - ((x0 / 10) / 10) / 10 * 10) : Int32).toInt64) * r_9))), (6, .int 3), (0, .int x0), (1, .int 6), (2, .int 0)]) hx hb dX11_keyOf_37 hl (by decide) rfl (fun ls hl => ?_)
  refine lv_iinc (v := 2) (lv' := [(6, .int 2), (5, .int (((x0 / 10) / 10) / 10)), (3, .long (((0 + ((((x0 - x0 / 10 * 10) : Int32).toInt64) * r_3)) + (((((x0 / 10) - (x0 / 10) / 10 * 10) : Int32).toInt64) * r_6)) + ((((((x0 / 10) / 10) - ((x0 / 10) / 10) / 10 * 10) : Int32).toInt64) * r_9))), (0, .int x0), (1, .int 6), (2, .int 0)]) hx hb dX11_keyOf_39 hl (k := 2) rfl (by decide) (by decide) rfl (fun ls hl => ?_)
  refine lv_goto (tgt := 10) hx hb dX11_keyOf_42 (by decide) ?_
  refine lv_iload hx hb dX11_keyOf_10 (lv_at hl 0 rfl) ?_
  refine lv_if_lt (tgt := 45) hx hb dX11_keyOf_12 (by decide) (fun hc => absurd hc (by decide)) (fun _ => ?_)
  refine lv_lload_n hx hb dX11_keyOf_15 rfl (lv_at hl 2 rfl) ?_
  refine lv_iload hx hb dX11_keyOf_16 (lv_at hl 1 rfl) ?_
  refine lv_bipush (v := 10) hx hb dX11_keyOf_18 (by decide) ?_
  refine lv_irem hx hb dX11_keyOf_20 (by decide) ?_
  refine lv_i2l (v := ((((((x0 / 10) / 10) / 10) - (((x0 / 10) / 10) / 10) / 10 * 10) : Int32).toInt64)) hx hb dX11_keyOf_21 rfl ?_
  refine lv_iload_n hx hb dX11_keyOf_22 rfl (lv_at hl 5 rfl) ?_
  refine lv_iload hx hb dX11_keyOf_23 (lv_at hl 0 rfl) ?_
  refine lv_iadd hx hb dX11_keyOf_25 ?_
  refine lv_topi (fun v_11 ev_11 => ?_)
  have ev_11 : v_11 = 2 := ev_11.trans (by decide)
  subst ev_11
  have hPc := hP.sub (ws' := []) [] rfl
  have hDc := hD.sub (ws' := []) [] (by decide) rfl
  have hKc := hK.sub (tys' := []) [] rfl
  have hFc := va_free (wc := []) hD hS hA [] rfl
  refine va_calll (va_runS (As := [.int 2]) (rest := [.long ((((((x0 / 10) / 10) / 10) - (((x0 / 10) / 10) / 10) / 10 * 10) : Int32).toInt64), .long (((0 + ((((x0 - x0 / 10 * 10) : Int32).toInt64) * r_3)) + (((((x0 / 10) - (x0 / 10) / 10 * 10) : Int32).toInt64) * r_6)) + ((((((x0 / 10) / 10) - ((x0 / 10) / 10) / 10 * 10) : Int32).toInt64) * r_9))]) ⟨hx, hb, hml, hown, hts⟩ (c_f_unit l dC dI 2 H.size) (va_cwS 1 hts g_f_keyOf_f_unit_225 rfl rfl rfl hd_X11_unit ⟨Nat.le_of_ble_eq_true rfl, Nat.le_of_ble_eq_true rfl⟩) ⟨fun a U g mk q => by obtain ⟨q0, q1, qP, qK, qD, qE0⟩ := q; exact ⟨q0, q1, qP, va_K.moved (u := U) (U := U.calling g mk a) (Vm.Alike.refl U.vm) qK, qD, w_N.same rfl qE0⟩, fun U hU hW => ⟨rfl, by rw [hU], by rw [hU]; exact hPc, va_K.moved hW.alike hKc, hDc.weaken (fun _ _ _ _ => trivial), w_N.warm hW hN⟩⟩ rfl rfl hl.1 rfl (lv_room (Nat.le_of_ble_eq_true rfl)) dX11_keyOf_26 ⟨(Nat.le_of_ble_eq_true rfl), (Nat.le_of_ble_eq_true rfl)⟩) hS (fun q _ h => hFc q h) hFc (fun r_12 u t H1 locs1 ht hvm hw hB hz1 hk1 hS1 => ?_)
  obtain ⟨hP1, hK1, hD1⟩ := hB
  rw [ht] at hP1
  have hK1 := va_K.moved hvm.symm hK1
  have hJ := va_join (wr := []) (w1 := []) hP hD [] [] rfl rfl (by decide) (by decide) hk1 hFc hP1 hD1
  clear hP hD hPc hDc hKc hFc hz1; try clear hk1
  obtain ⟨hP, hD⟩ := hJ
  replace hK := (hK.sub (tys' := []) [] rfl).app (hK1.sub (tys' := []) [] rfl)
  clear hP1 hK1 hD1 hvm ht hS; try clear t
  try clear H
  revert hS1
  intro hS
  generalize H1 = H at hP hS ⊢; try clear H1
  replace hP : va_P (dC, dI) vwCl [] H := hP
  replace hD : va_D A [] := hD
  replace hK : va_K (dC, dI) vwCl [] s := hK
  have hw_13 : True := hw; clear hw
  refine lv_lmul hx hb dX11_keyOf_29 ?_
  refine lv_ladd hx hb dX11_keyOf_30 ?_
  refine lv_lstore_n (lv' := [(3, .long ((((0 + ((((x0 - x0 / 10 * 10) : Int32).toInt64) * r_3)) + (((((x0 / 10) - (x0 / 10) / 10 * 10) : Int32).toInt64) * r_6)) + ((((((x0 / 10) / 10) - ((x0 / 10) / 10) / 10 * 10) : Int32).toInt64) * r_9)) + (((((((x0 / 10) / 10) / 10) - (((x0 / 10) / 10) / 10) / 10 * 10) : Int32).toInt64) * r_12))), (6, .int 2), (5, .int (((x0 / 10) / 10) / 10)), (0, .int x0), (1, .int 6), (2, .int 0)]) hx hb dX11_keyOf_31 rfl hl (by decide) rfl (fun ls hl => ?_)
  refine lv_iload hx hb dX11_keyOf_32 (lv_at hl 2 rfl) ?_
  refine lv_bipush (v := 10) hx hb dX11_keyOf_34 (by decide) ?_
  refine lv_idiv hx hb dX11_keyOf_36 (by decide) ?_
  refine lv_istore (lv' := [(5, .int ((((x0 / 10) / 10) / 10) / 10)), (3, .long ((((0 + ((((x0 - x0 / 10 * 10) : Int32).toInt64) * r_3)) + (((((x0 / 10) - (x0 / 10) / 10 * 10) : Int32).toInt64) * r_6)) + ((((((x0 / 10) / 10) - ((x0 / 10) / 10) / 10 * 10) : Int32).toInt64) * r_9)) + (((((((x0 / 10) / 10) / 10) - (((x0 / 10) / 10) / 10) / 10 * 10) : Int32).toInt64) * r_12))), (6, .int 2), (0, .int x0), (1, .int 6), (2, .int 0)]) hx hb dX11_keyOf_37 hl (by decide) rfl (fun ls hl => ?_)
  refine lv_iinc (v := 1) (lv' := [(6, .int 1), (5, .int ((((x0 / 10) / 10) / 10) / 10)), (3, .long ((((0 + ((((x0 - x0 / 10 * 10) : Int32).toInt64) * r_3)) + (((((x0 / 10) - (x0 / 10) / 10 * 10) : Int32).toInt64) * r_6)) + ((((((x0 / 10) / 10) - ((x0 / 10) / 10) / 10 * 10) : Int32).toInt64) * r_9)) + (((((((x0 / 10) / 10) / 10) - (((x0 / 10) / 10) / 10) / 10 * 10) : Int32).toInt64) * r_12))), (0, .int x0), (1, .int 6), (2, .int 0)]) hx hb dX11_keyOf_39 hl (k := 2) rfl (by decide) (by decide) rfl (fun ls hl => ?_)
  refine lv_goto (tgt := 10) hx hb dX11_keyOf_42 (by decide) ?_
  refine lv_iload hx hb dX11_keyOf_10 (lv_at hl 0 rfl) ?_
  refine lv_if_lt (tgt := 45) hx hb dX11_keyOf_12 (by decide) (fun hc => absurd hc (by decide)) (fun _ => ?_)
  refine lv_lload_n hx hb dX11_keyOf_15 rfl (lv_at hl 2 rfl) ?_
  refine lv_iload hx hb dX11_keyOf_16 (lv_at hl 1 rfl) ?_
  refine lv_bipush (v := 10) hx hb dX11_keyOf_18 (by decide) ?_
  refine lv_irem hx hb dX11_keyOf_20 (by decide) ?_
  refine lv_i2l (v := (((((((x0 / 10) / 10) / 10) / 10) - ((((x0 / 10) / 10) / 10) / 10) / 10 * 10) : Int32).toInt64)) hx hb dX11_keyOf_21 rfl ?_
  refine lv_iload_n hx hb dX11_keyOf_22 rfl (lv_at hl 5 rfl) ?_
  refine lv_iload hx hb dX11_keyOf_23 (lv_at hl 0 rfl) ?_
  refine lv_iadd hx hb dX11_keyOf_25 ?_
  refine lv_topi (fun v_14 ev_14 => ?_)
  have ev_14 : v_14 = 1 := ev_14.trans (by decide)
  subst ev_14
  have hPc := hP.sub (ws' := []) [] rfl
  have hDc := hD.sub (ws' := []) [] (by decide) rfl
  have hKc := hK.sub (tys' := []) [] rfl
  have hFc := va_free (wc := []) hD hS hA [] rfl
  refine va_calll (va_runS (As := [.int 1]) (rest := [.long (((((((x0 / 10) / 10) / 10) / 10) - ((((x0 / 10) / 10) / 10) / 10) / 10 * 10) : Int32).toInt64), .long ((((0 + ((((x0 - x0 / 10 * 10) : Int32).toInt64) * r_3)) + (((((x0 / 10) - (x0 / 10) / 10 * 10) : Int32).toInt64) * r_6)) + ((((((x0 / 10) / 10) - ((x0 / 10) / 10) / 10 * 10) : Int32).toInt64) * r_9)) + (((((((x0 / 10) / 10) / 10) - (((x0 / 10) / 10) / 10) / 10 * 10) : Int32).toInt64) * r_12))]) ⟨hx, hb, hml, hown, hts⟩ (c_f_unit l dC dI 1 H.size) (va_cwS 1 hts g_f_keyOf_f_unit_225 rfl rfl rfl hd_X11_unit ⟨Nat.le_of_ble_eq_true rfl, Nat.le_of_ble_eq_true rfl⟩) ⟨fun a U g mk q => by obtain ⟨q0, q1, qP, qK, qD, qE0⟩ := q; exact ⟨q0, q1, qP, va_K.moved (u := U) (U := U.calling g mk a) (Vm.Alike.refl U.vm) qK, qD, w_N.same rfl qE0⟩, fun U hU hW => ⟨rfl, by rw [hU], by rw [hU]; exact hPc, va_K.moved hW.alike hKc, hDc.weaken (fun _ _ _ _ => trivial), w_N.warm hW hN⟩⟩ rfl rfl hl.1 rfl (lv_room (Nat.le_of_ble_eq_true rfl)) dX11_keyOf_26 ⟨(Nat.le_of_ble_eq_true rfl), (Nat.le_of_ble_eq_true rfl)⟩) hS (fun q _ h => hFc q h) hFc (fun r_15 u t H1 locs1 ht hvm hw hB hz1 hk1 hS1 => ?_)
  obtain ⟨hP1, hK1, hD1⟩ := hB
  rw [ht] at hP1
  have hK1 := va_K.moved hvm.symm hK1
  have hJ := va_join (wr := []) (w1 := []) hP hD [] [] rfl rfl (by decide) (by decide) hk1 hFc hP1 hD1
  clear hP hD hPc hDc hKc hFc hz1; try clear hk1
  obtain ⟨hP, hD⟩ := hJ
  replace hK := (hK.sub (tys' := []) [] rfl).app (hK1.sub (tys' := []) [] rfl)
  clear hP1 hK1 hD1 hvm ht hS; try clear t
  try clear H
  revert hS1
  intro hS
  generalize H1 = H at hP hS ⊢; try clear H1
  replace hP : va_P (dC, dI) vwCl [] H := hP
  replace hD : va_D A [] := hD
  replace hK : va_K (dC, dI) vwCl [] s := hK
  have hw_16 : True := hw; clear hw
  refine lv_lmul hx hb dX11_keyOf_29 ?_
  refine lv_ladd hx hb dX11_keyOf_30 ?_
  refine lv_lstore_n (lv' := [(3, .long (((((0 + ((((x0 - x0 / 10 * 10) : Int32).toInt64) * r_3)) + (((((x0 / 10) - (x0 / 10) / 10 * 10) : Int32).toInt64) * r_6)) + ((((((x0 / 10) / 10) - ((x0 / 10) / 10) / 10 * 10) : Int32).toInt64) * r_9)) + (((((((x0 / 10) / 10) / 10) - (((x0 / 10) / 10) / 10) / 10 * 10) : Int32).toInt64) * r_12)) + ((((((((x0 / 10) / 10) / 10) / 10) - ((((x0 / 10) / 10) / 10) / 10) / 10 * 10) : Int32).toInt64) * r_15))), (6, .int 1), (5, .int ((((x0 / 10) / 10) / 10) / 10)), (0, .int x0), (1, .int 6), (2, .int 0)]) hx hb dX11_keyOf_31 rfl hl (by decide) rfl (fun ls hl => ?_)
  refine lv_iload hx hb dX11_keyOf_32 (lv_at hl 2 rfl) ?_
  refine lv_bipush (v := 10) hx hb dX11_keyOf_34 (by decide) ?_
  refine lv_idiv hx hb dX11_keyOf_36 (by decide) ?_
  refine lv_istore (lv' := [(5, .int (((((x0 / 10) / 10) / 10) / 10) / 10)), (3, .long (((((0 + ((((x0 - x0 / 10 * 10) : Int32).toInt64) * r_3)) + (((((x0 / 10) - (x0 / 10) / 10 * 10) : Int32).toInt64) * r_6)) + ((((((x0 / 10) / 10) - ((x0 / 10) / 10) / 10 * 10) : Int32).toInt64) * r_9)) + (((((((x0 / 10) / 10) / 10) - (((x0 / 10) / 10) / 10) / 10 * 10) : Int32).toInt64) * r_12)) + ((((((((x0 / 10) / 10) / 10) / 10) - ((((x0 / 10) / 10) / 10) / 10) / 10 * 10) : Int32).toInt64) * r_15))), (6, .int 1), (0, .int x0), (1, .int 6), (2, .int 0)]) hx hb dX11_keyOf_37 hl (by decide) rfl (fun ls hl => ?_)
  refine lv_iinc (v := 0) (lv' := [(6, .int 0), (5, .int (((((x0 / 10) / 10) / 10) / 10) / 10)), (3, .long (((((0 + ((((x0 - x0 / 10 * 10) : Int32).toInt64) * r_3)) + (((((x0 / 10) - (x0 / 10) / 10 * 10) : Int32).toInt64) * r_6)) + ((((((x0 / 10) / 10) - ((x0 / 10) / 10) / 10 * 10) : Int32).toInt64) * r_9)) + (((((((x0 / 10) / 10) / 10) - (((x0 / 10) / 10) / 10) / 10 * 10) : Int32).toInt64) * r_12)) + ((((((((x0 / 10) / 10) / 10) / 10) - ((((x0 / 10) / 10) / 10) / 10) / 10 * 10) : Int32).toInt64) * r_15))), (0, .int x0), (1, .int 6), (2, .int 0)]) hx hb dX11_keyOf_39 hl (k := 2) rfl (by decide) (by decide) rfl (fun ls hl => ?_)
  refine lv_goto (tgt := 10) hx hb dX11_keyOf_42 (by decide) ?_
  refine lv_iload hx hb dX11_keyOf_10 (lv_at hl 0 rfl) ?_
  refine lv_if_lt (tgt := 45) hx hb dX11_keyOf_12 (by decide) (fun hc => absurd hc (by decide)) (fun _ => ?_)
  refine lv_lload_n hx hb dX11_keyOf_15 rfl (lv_at hl 2 rfl) ?_
  refine lv_iload hx hb dX11_keyOf_16 (lv_at hl 1 rfl) ?_
  refine lv_bipush (v := 10) hx hb dX11_keyOf_18 (by decide) ?_
  refine lv_irem hx hb dX11_keyOf_20 (by decide) ?_
  refine lv_i2l (v := ((((((((x0 / 10) / 10) / 10) / 10) / 10) - (((((x0 / 10) / 10) / 10) / 10) / 10) / 10 * 10) : Int32).toInt64)) hx hb dX11_keyOf_21 rfl ?_
  refine lv_iload_n hx hb dX11_keyOf_22 rfl (lv_at hl 5 rfl) ?_
  refine lv_iload hx hb dX11_keyOf_23 (lv_at hl 0 rfl) ?_
  refine lv_iadd hx hb dX11_keyOf_25 ?_
  refine lv_topi (fun v_17 ev_17 => ?_)
  have ev_17 : v_17 = 0 := ev_17.trans (by decide)
  subst ev_17
  have hPc := hP.sub (ws' := []) [] rfl
  have hDc := hD.sub (ws' := []) [] (by decide) rfl
  have hKc := hK.sub (tys' := []) [] rfl
  have hFc := va_free (wc := []) hD hS hA [] rfl
  refine va_calll (va_runS (As := [.int 0]) (rest := [.long ((((((((x0 / 10) / 10) / 10) / 10) / 10) - (((((x0 / 10) / 10) / 10) / 10) / 10) / 10 * 10) : Int32).toInt64), .long (((((0 + ((((x0 - x0 / 10 * 10) : Int32).toInt64) * r_3)) + (((((x0 / 10) - (x0 / 10) / 10 * 10) : Int32).toInt64) * r_6)) + ((((((x0 / 10) / 10) - ((x0 / 10) / 10) / 10 * 10) : Int32).toInt64) * r_9)) + (((((((x0 / 10) / 10) / 10) - (((x0 / 10) / 10) / 10) / 10 * 10) : Int32).toInt64) * r_12)) + ((((((((x0 / 10) / 10) / 10) / 10) - ((((x0 / 10) / 10) / 10) / 10) / 10 * 10) : Int32).toInt64) * r_15))]) ⟨hx, hb, hml, hown, hts⟩ (c_f_unit l dC dI 0 H.size) (va_cwS 1 hts g_f_keyOf_f_unit_225 rfl rfl rfl hd_X11_unit ⟨Nat.le_of_ble_eq_true rfl, Nat.le_of_ble_eq_true rfl⟩) ⟨fun a U g mk q => by obtain ⟨q0, q1, qP, qK, qD, qE0⟩ := q; exact ⟨q0, q1, qP, va_K.moved (u := U) (U := U.calling g mk a) (Vm.Alike.refl U.vm) qK, qD, w_N.same rfl qE0⟩, fun U hU hW => ⟨rfl, by rw [hU], by rw [hU]; exact hPc, va_K.moved hW.alike hKc, hDc.weaken (fun _ _ _ _ => trivial), w_N.warm hW hN⟩⟩ rfl rfl hl.1 rfl (lv_room (Nat.le_of_ble_eq_true rfl)) dX11_keyOf_26 ⟨(Nat.le_of_ble_eq_true rfl), (Nat.le_of_ble_eq_true rfl)⟩) hS (fun q _ h => hFc q h) hFc (fun r_18 u t H1 locs1 ht hvm hw hB hz1 hk1 hS1 => ?_)
  obtain ⟨hP1, hK1, hD1⟩ := hB
  rw [ht] at hP1
  have hK1 := va_K.moved hvm.symm hK1
  have hJ := va_join (wr := []) (w1 := []) hP hD [] [] rfl rfl (by decide) (by decide) hk1 hFc hP1 hD1
  clear hP hD hPc hDc hKc hFc hz1; try clear hk1
  obtain ⟨hP, hD⟩ := hJ
  replace hK := (hK.sub (tys' := []) [] rfl).app (hK1.sub (tys' := []) [] rfl)
  clear hP1 hK1 hD1 hvm ht hS; try clear t
  try clear H
  revert hS1
  intro hS
  generalize H1 = H at hP hS ⊢; try clear H1
  replace hP : va_P (dC, dI) vwCl [] H := hP
  replace hD : va_D A [] := hD
  replace hK : va_K (dC, dI) vwCl [] s := hK
  have hw_19 : True := hw; clear hw
  refine lv_lmul hx hb dX11_keyOf_29 ?_
  refine lv_ladd hx hb dX11_keyOf_30 ?_
  refine lv_lstore_n (lv' := [(3, .long ((((((0 + ((((x0 - x0 / 10 * 10) : Int32).toInt64) * r_3)) + (((((x0 / 10) - (x0 / 10) / 10 * 10) : Int32).toInt64) * r_6)) + ((((((x0 / 10) / 10) - ((x0 / 10) / 10) / 10 * 10) : Int32).toInt64) * r_9)) + (((((((x0 / 10) / 10) / 10) - (((x0 / 10) / 10) / 10) / 10 * 10) : Int32).toInt64) * r_12)) + ((((((((x0 / 10) / 10) / 10) / 10) - ((((x0 / 10) / 10) / 10) / 10) / 10 * 10) : Int32).toInt64) * r_15)) + (((((((((x0 / 10) / 10) / 10) / 10) / 10) - (((((x0 / 10) / 10) / 10) / 10) / 10) / 10 * 10) : Int32).toInt64) * r_18))), (6, .int 0), (5, .int (((((x0 / 10) / 10) / 10) / 10) / 10)), (0, .int x0), (1, .int 6), (2, .int 0)]) hx hb dX11_keyOf_31 rfl hl (by decide) rfl (fun ls hl => ?_)
  refine lv_iload hx hb dX11_keyOf_32 (lv_at hl 2 rfl) ?_
  refine lv_bipush (v := 10) hx hb dX11_keyOf_34 (by decide) ?_
  refine lv_idiv hx hb dX11_keyOf_36 (by decide) ?_
  refine lv_istore (lv' := [(5, .int ((((((x0 / 10) / 10) / 10) / 10) / 10) / 10)), (3, .long ((((((0 + ((((x0 - x0 / 10 * 10) : Int32).toInt64) * r_3)) + (((((x0 / 10) - (x0 / 10) / 10 * 10) : Int32).toInt64) * r_6)) + ((((((x0 / 10) / 10) - ((x0 / 10) / 10) / 10 * 10) : Int32).toInt64) * r_9)) + (((((((x0 / 10) / 10) / 10) - (((x0 / 10) / 10) / 10) / 10 * 10) : Int32).toInt64) * r_12)) + ((((((((x0 / 10) / 10) / 10) / 10) - ((((x0 / 10) / 10) / 10) / 10) / 10 * 10) : Int32).toInt64) * r_15)) + (((((((((x0 / 10) / 10) / 10) / 10) / 10) - (((((x0 / 10) / 10) / 10) / 10) / 10) / 10 * 10) : Int32).toInt64) * r_18))), (6, .int 0), (0, .int x0), (1, .int 6), (2, .int 0)]) hx hb dX11_keyOf_37 hl (by decide) rfl (fun ls hl => ?_)
  refine lv_iinc (v := (-1)) (lv' := [(6, .int (-1)), (5, .int ((((((x0 / 10) / 10) / 10) / 10) / 10) / 10)), (3, .long ((((((0 + ((((x0 - x0 / 10 * 10) : Int32).toInt64) * r_3)) + (((((x0 / 10) - (x0 / 10) / 10 * 10) : Int32).toInt64) * r_6)) + ((((((x0 / 10) / 10) - ((x0 / 10) / 10) / 10 * 10) : Int32).toInt64) * r_9)) + (((((((x0 / 10) / 10) / 10) - (((x0 / 10) / 10) / 10) / 10 * 10) : Int32).toInt64) * r_12)) + ((((((((x0 / 10) / 10) / 10) / 10) - ((((x0 / 10) / 10) / 10) / 10) / 10 * 10) : Int32).toInt64) * r_15)) + (((((((((x0 / 10) / 10) / 10) / 10) / 10) - (((((x0 / 10) / 10) / 10) / 10) / 10) / 10 * 10) : Int32).toInt64) * r_18))), (0, .int x0), (1, .int 6), (2, .int 0)]) hx hb dX11_keyOf_39 hl (k := 2) rfl (by decide) (by decide) rfl (fun ls hl => ?_)
  refine lv_goto (tgt := 10) hx hb dX11_keyOf_42 (by decide) ?_
  refine lv_iload hx hb dX11_keyOf_10 (lv_at hl 0 rfl) ?_
  refine lv_if_lt (tgt := 45) hx hb dX11_keyOf_12 (by decide) (fun _ => ?_) (fun hc => absurd (by decide) hc)
  refine lv_lload_n hx hb dX11_keyOf_45 rfl (lv_at hl 2 rfl) ?_
  have hP9 := hP.sub (ws' := []) [] rfl
  have hD9 := hD.sub (ws' := []) [] (by decide) rfl
  have hK9 := hK.sub (tys' := []) [] rfl
  rw [← hAe] at hD9
  refine W.widen (k := 0) (n := 0) (Nat.le_of_ble_eq_true rfl) (Nat.le_of_ble_eq_true rfl) ?_
  subst hAe
  exact (W.lret (v := ((((((0 + ((((x0 - x0 / 10 * 10) : Int32).toInt64) * r_3)) + (((((x0 / 10) - (x0 / 10) / 10 * 10) : Int32).toInt64) * r_6)) + ((((((x0 / 10) / 10) - ((x0 / 10) / 10) / 10 * 10) : Int32).toInt64) * r_9)) + (((((((x0 / 10) / 10) / 10) - (((x0 / 10) / 10) / 10) / 10 * 10) : Int32).toInt64) * r_12)) + ((((((((x0 / 10) / 10) / 10) / 10) - ((((x0 / 10) / 10) / 10) / 10) / 10 * 10) : Int32).toInt64) * r_15)) + (((((((((x0 / 10) / 10) / 10) / 10) / 10) - (((((x0 / 10) / 10) / 10) / 10) / 10) / 10 * 10) : Int32).toInt64) * r_18))) hx hb hr (fun t ht hW => ⟨⟨((((((0 + ((((x0 - x0 / 10 * 10) : Int32).toInt64) * r_3)) + (((((x0 / 10) - (x0 / 10) / 10 * 10) : Int32).toInt64) * r_6)) + ((((((x0 / 10) / 10) - ((x0 / 10) / 10) / 10 * 10) : Int32).toInt64) * r_9)) + (((((((x0 / 10) / 10) / 10) - (((x0 / 10) / 10) / 10) / 10 * 10) : Int32).toInt64) * r_12)) + ((((((((x0 / 10) / 10) / 10) / 10) - ((((x0 / 10) / 10) / 10) / 10) / 10 * 10) : Int32).toInt64) * r_15)) + (((((((((x0 / 10) / 10) / 10) / 10) / 10) - (((((x0 / 10) / 10) / 10) / 10) / 10) / 10 * 10) : Int32).toInt64) * r_18)), (), rfl, trivial, by rw [ht]; exact hP9, va_K.moved hW.alike hK9, hD9⟩, hS.F ht⟩) hS.2.2 dX11_keyOf_46)
def wv_f_needDigits : List Cond := .code yX11_needDigits cX11_needDigits 6 none :: ([.classLink RX11 218 "java/lang/IllegalArgumentException", .initialized "java/lang/IllegalArgumentException"] ++ (wt_IAE ++ ([])))
theorem gw_f_needDigits : wv_f_needDigits.all goodWord = true := by decide +kernel
set_option maxHeartbeats 4000000 in
set_option maxRecDepth 100000 in
/-- needDigits -/
theorem c_f_needDigits (l : Launch) (hlt : l.stackTraces = false) (dC : Nat → ClassId) (dI : Nat → Nat → Nat) (x0 : Int32) (sz : Nat) : vx_Met l yX11_needDigits wv_f_needDigits ({ frames := 6, cells := 1, slots := 6, locals := 90 }) (va_Pc [.int x0, .int 6, .int 4] (fun U => U.heap.size = sz ∧ va_P (dC, dI) vwCl [] U.heap ∧ va_K (dC, dI) vwCl [] U ∧ va_D (fun _ => True) [] ∧ w_N U ∧ w_T (va_A [] sz) U U.heap)) (va_Qv (fun (_ : Unit) => kDig x0) (fun _ t => va_P (dC, dI) vwCl [] t.heap ∧ va_K (dC, dI) vwCl [] t ∧ va_D (va_A [] sz) []) (va_A [] sz)) (vx_X (fun _ : Unit => ¬ kDig x0) (fun E _ _ => E = "java/lang/IllegalArgumentException") (va_A [] sz)) 1 6 (va_A [] sz) := by
  refine vx_ofW (cc := cX11_needDigits) (maxL := 6) (ret := none) (by decide) rfl ?_
  intro p e s m args below meth c s₁ B hml hnt hv
  obtain ⟨rfl, hsz, hP, hK, hD0, hN, hT⟩ := hv
  have hx := B.exec
  have hb := B.bytes
  have hr := B.returns
  have hts := atoms_spec (ws := wv_f_needDigits) B.pre
  have hown : s.vm.findClass RX11 = some m.cls := findClass_of_methodNamed B.named
  have hlocks := B.notSynchronized
  subst hsz
  have hD := hD0.self (sz := s.heap.size)
  generalize hAe : va_A [] s.heap.size = A at hD hT ⊢
  have hA : ∀ q : Nat, s.heap.size ≤ q → A q := fun q h => by rw [← hAe]; exact Or.inr h
  obtain ⟨H, hHe, hP, hS⟩ : ∃ H : Heap, H = s.heap ∧ va_P (dC, dI) vwCl [] H ∧ va_S A s.heap H [] := ⟨s.heap, rfl, hP, va_S.rf⟩
  have hl := lv_entry ([.int x0, .int 6, .int 4]) (n := 6) (Nat.le_of_ble_eq_true rfl)
  rw [lg_entry_eq]
  generalize (lg_sl ([.int x0, .int 6, .int 4]) ++ List.replicate (6 - (lg_sl ([.int x0, .int 6, .int 4])).length) Slot.unset).toArray = ls at hl ⊢
  have hl : lv_has ls 6 [(0, .int x0), (1, .int 6), (2, .int 4)] := hl
  rw [← hHe]; clear hHe
  refine lv_iload_n hx hb dX11_needDigits_0 rfl (lv_at hl 0 rfl) ?_
  refine lv_istore_n (lv' := [(3, .int x0), (0, .int x0), (1, .int 6), (2, .int 4)]) hx hb dX11_needDigits_1 rfl hl (by decide) rfl (fun ls hl => ?_)
  refine lv_iload_n hx hb dX11_needDigits_2 rfl (lv_at hl 1 rfl) ?_
  refine lv_if_lt (tgt := 10) hx hb dX11_needDigits_3 (by decide) (fun hc_1 => ?_) (fun hc_1 => ?_)
  · skip
    refine lv_iconst (v := 0) hx hb dX11_needDigits_10 (by decide) ?_
    refine lv_istore (lv' := [(4, .int 0), (3, .int x0), (0, .int x0), (1, .int 6), (2, .int 4)]) hx hb dX11_needDigits_11 hl (by decide) rfl (fun ls hl => ?_)
    refine lv_iconst (v := 0) hx hb dX11_needDigits_13 (by decide) ?_
    refine lv_istore (lv' := [(5, .int 0), (4, .int 0), (3, .int x0), (0, .int x0), (1, .int 6), (2, .int 4)]) hx hb dX11_needDigits_14 hl (by decide) rfl (fun ls hl => ?_)
    refine lv_iload hx hb dX11_needDigits_16 (lv_at hl 0 rfl) ?_
    refine lv_iload_n hx hb dX11_needDigits_18 rfl (lv_at hl 4 rfl) ?_
    refine lv_icmp_ge (tgt := 53) hx hb dX11_needDigits_19 (by decide) (fun hc => absurd hc (by decide)) (fun _ => ?_)
    refine lv_iload hx hb dX11_needDigits_22 (lv_at hl 1 rfl) ?_
    refine lv_if_eq (tgt := 39) hx hb dX11_needDigits_24 (by decide) (fun _ => ?_) (fun hc => absurd (by decide) hc)
    refine lv_iconst (v := 0) hx hb dX11_needDigits_39 (by decide) ?_
    refine lv_istore (lv' := [(4, .int 0), (5, .int 0), (3, .int x0), (0, .int x0), (1, .int 6), (2, .int 4)]) hx hb dX11_needDigits_40 hl (by decide) rfl (fun ls hl => ?_)
    refine lv_iload_n hx hb dX11_needDigits_42 rfl (lv_at hl 2 rfl) ?_
    refine lv_bipush (v := 10) hx hb dX11_needDigits_43 (by decide) ?_
    refine lv_idiv hx hb dX11_needDigits_45 (by decide) ?_
    refine lv_istore_n (lv' := [(3, .int (x0 / 10)), (4, .int 0), (5, .int 0), (0, .int x0), (1, .int 6), (2, .int 4)]) hx hb dX11_needDigits_46 rfl hl (by decide) rfl (fun ls hl => ?_)
    refine lv_iinc (v := 1) (lv' := [(5, .int 1), (3, .int (x0 / 10)), (4, .int 0), (0, .int x0), (1, .int 6), (2, .int 4)]) hx hb dX11_needDigits_47 hl (k := 2) rfl (by decide) (by decide) rfl (fun ls hl => ?_)
    refine lv_goto (tgt := 16) hx hb dX11_needDigits_50 (by decide) ?_
    refine lv_iload hx hb dX11_needDigits_16 (lv_at hl 0 rfl) ?_
    refine lv_iload_n hx hb dX11_needDigits_18 rfl (lv_at hl 4 rfl) ?_
    refine lv_icmp_ge (tgt := 53) hx hb dX11_needDigits_19 (by decide) (fun hc => absurd hc (by decide)) (fun _ => ?_)
    refine lv_iload hx hb dX11_needDigits_22 (lv_at hl 2 rfl) ?_
    refine lv_if_eq (tgt := 39) hx hb dX11_needDigits_24 (by decide) (fun _ => ?_) (fun hc => absurd (by decide) hc)
    refine lv_iconst (v := 0) hx hb dX11_needDigits_39 (by decide) ?_
    refine lv_istore (lv' := [(4, .int 0), (5, .int 1), (3, .int (x0 / 10)), (0, .int x0), (1, .int 6), (2, .int 4)]) hx hb dX11_needDigits_40 hl (by decide) rfl (fun ls hl => ?_)
    refine lv_iload_n hx hb dX11_needDigits_42 rfl (lv_at hl 2 rfl) ?_
    refine lv_bipush (v := 10) hx hb dX11_needDigits_43 (by decide) ?_
    refine lv_idiv hx hb dX11_needDigits_45 (by decide) ?_
    refine lv_istore_n (lv' := [(3, .int ((x0 / 10) / 10)), (4, .int 0), (5, .int 1), (0, .int x0), (1, .int 6), (2, .int 4)]) hx hb dX11_needDigits_46 rfl hl (by decide) rfl (fun ls hl => ?_)
    refine lv_iinc (v := 2) (lv' := [(5, .int 2), (3, .int ((x0 / 10) / 10)), (4, .int 0), (0, .int x0), (1, .int 6), (2, .int 4)]) hx hb dX11_needDigits_47 hl (k := 2) rfl (by decide) (by decide) rfl (fun ls hl => ?_)
    refine lv_goto (tgt := 16) hx hb dX11_needDigits_50 (by decide) ?_
    refine lv_iload hx hb dX11_needDigits_16 (lv_at hl 0 rfl) ?_
    refine lv_iload_n hx hb dX11_needDigits_18 rfl (lv_at hl 4 rfl) ?_
    refine lv_icmp_ge (tgt := 53) hx hb dX11_needDigits_19 (by decide) (fun hc => absurd hc (by decide)) (fun _ => ?_)
    refine lv_iload hx hb dX11_needDigits_22 (lv_at hl 2 rfl) ?_
    refine lv_if_eq (tgt := 39) hx hb dX11_needDigits_24 (by decide) (fun _ => ?_) (fun hc => absurd (by decide) hc)
    refine lv_iconst (v := 0) hx hb dX11_needDigits_39 (by decide) ?_
    refine lv_istore (lv' := [(4, .int 0), (5, .int 2), (3, .int ((x0 / 10) / 10)), (0, .int x0), (1, .int 6), (2, .int 4)]) hx hb dX11_needDigits_40 hl (by decide) rfl (fun ls hl => ?_)
    refine lv_iload_n hx hb dX11_needDigits_42 rfl (lv_at hl 2 rfl) ?_
    refine lv_bipush (v := 10) hx hb dX11_needDigits_43 (by decide) ?_
    refine lv_idiv hx hb dX11_needDigits_45 (by decide) ?_
    refine lv_istore_n (lv' := [(3, .int (((x0 / 10) / 10) / 10)), (4, .int 0), (5, .int 2), (0, .int x0), (1, .int 6), (2, .int 4)]) hx hb dX11_needDigits_46 rfl hl (by decide) rfl (fun ls hl => ?_)
    refine lv_iinc (v := 3) (lv' := [(5, .int 3), (3, .int (((x0 / 10) / 10) / 10)), (4, .int 0), (0, .int x0), (1, .int 6), (2, .int 4)]) hx hb dX11_needDigits_47 hl (k := 2) rfl (by decide) (by decide) rfl (fun ls hl => ?_)
    refine lv_goto (tgt := 16) hx hb dX11_needDigits_50 (by decide) ?_
    refine lv_iload hx hb dX11_needDigits_16 (lv_at hl 0 rfl) ?_
    refine lv_iload_n hx hb dX11_needDigits_18 rfl (lv_at hl 4 rfl) ?_
    refine lv_icmp_ge (tgt := 53) hx hb dX11_needDigits_19 (by decide) (fun hc => absurd hc (by decide)) (fun _ => ?_)
    refine lv_iload hx hb dX11_needDigits_22 (lv_at hl 2 rfl) ?_
    refine lv_if_eq (tgt := 39) hx hb dX11_needDigits_24 (by decide) (fun _ => ?_) (fun hc => absurd (by decide) hc)
    refine lv_iconst (v := 0) hx hb dX11_needDigits_39 (by decide) ?_
    refine lv_istore (lv' := [(4, .int 0), (5, .int 3), (3, .int (((x0 / 10) / 10) / 10)), (0, .int x0), (1, .int 6), (2, .int 4)]) hx hb dX11_needDigits_40 hl (by decide) rfl (fun ls hl => ?_)
    refine lv_iload_n hx hb dX11_needDigits_42 rfl (lv_at hl 2 rfl) ?_
    refine lv_bipush (v := 10) hx hb dX11_needDigits_43 (by decide) ?_
    refine lv_idiv hx hb dX11_needDigits_45 (by decide) ?_
    refine lv_istore_n (lv' := [(3, .int ((((x0 / 10) / 10) / 10) / 10)), (4, .int 0), (5, .int 3), (0, .int x0), (1, .int 6), (2, .int 4)]) hx hb dX11_needDigits_46 rfl hl (by decide) rfl (fun ls hl => ?_)
    refine lv_iinc (v := 4) (lv' := [(5, .int 4), (3, .int ((((x0 / 10) / 10) / 10) / 10)), (4, .int 0), (0, .int x0), (1, .int 6), (2, .int 4)]) hx hb dX11_needDigits_47 hl (k := 2) rfl (by decide) (by decide) rfl (fun ls hl => ?_)
    refine lv_goto (tgt := 16) hx hb dX11_needDigits_50 (by decide) ?_
    refine lv_iload hx hb dX11_needDigits_16 (lv_at hl 0 rfl) ?_
    refine lv_iload_n hx hb dX11_needDigits_18 rfl (lv_at hl 4 rfl) ?_
    refine lv_icmp_ge (tgt := 53) hx hb dX11_needDigits_19 (by decide) (fun hc => absurd hc (by decide)) (fun _ => ?_)
    refine lv_iload hx hb dX11_needDigits_22 (lv_at hl 2 rfl) ?_
    refine lv_if_eq (tgt := 39) hx hb dX11_needDigits_24 (by decide) (fun _ => ?_) (fun hc => absurd (by decide) hc)
    refine lv_iconst (v := 0) hx hb dX11_needDigits_39 (by decide) ?_
    refine lv_istore (lv' := [(4, .int 0), (5, .int 4), (3, .int ((((x0 / 10) / 10) / 10) / 10)), (0, .int x0), (1, .int 6), (2, .int 4)]) hx hb dX11_needDigits_40 hl (by decide) rfl (fun ls hl => ?_)
    refine lv_iload_n hx hb dX11_needDigits_42 rfl (lv_at hl 2 rfl) ?_
    refine lv_bipush (v := 10) hx hb dX11_needDigits_43 (by decide) ?_
    refine lv_idiv hx hb dX11_needDigits_45 (by decide) ?_
    refine lv_istore_n (lv' := [(3, .int (((((x0 / 10) / 10) / 10) / 10) / 10)), (4, .int 0), (5, .int 4), (0, .int x0), (1, .int 6), (2, .int 4)]) hx hb dX11_needDigits_46 rfl hl (by decide) rfl (fun ls hl => ?_)
    refine lv_iinc (v := 5) (lv' := [(5, .int 5), (3, .int (((((x0 / 10) / 10) / 10) / 10) / 10)), (4, .int 0), (0, .int x0), (1, .int 6), (2, .int 4)]) hx hb dX11_needDigits_47 hl (k := 2) rfl (by decide) (by decide) rfl (fun ls hl => ?_)
    refine lv_goto (tgt := 16) hx hb dX11_needDigits_50 (by decide) ?_
    refine lv_iload hx hb dX11_needDigits_16 (lv_at hl 0 rfl) ?_
    refine lv_iload_n hx hb dX11_needDigits_18 rfl (lv_at hl 4 rfl) ?_
    refine lv_icmp_ge (tgt := 53) hx hb dX11_needDigits_19 (by decide) (fun hc => absurd hc (by decide)) (fun _ => ?_)
    refine lv_iload hx hb dX11_needDigits_22 (lv_at hl 2 rfl) ?_
    refine lv_if_eq (tgt := 39) hx hb dX11_needDigits_24 (by decide) (fun _ => ?_) (fun hc => absurd (by decide) hc)
    refine lv_iconst (v := 0) hx hb dX11_needDigits_39 (by decide) ?_
    refine lv_istore (lv' := [(4, .int 0), (5, .int 5), (3, .int (((((x0 / 10) / 10) / 10) / 10) / 10)), (0, .int x0), (1, .int 6), (2, .int 4)]) hx hb dX11_needDigits_40 hl (by decide) rfl (fun ls hl => ?_)
    refine lv_iload_n hx hb dX11_needDigits_42 rfl (lv_at hl 2 rfl) ?_
    refine lv_bipush (v := 10) hx hb dX11_needDigits_43 (by decide) ?_
    refine lv_idiv hx hb dX11_needDigits_45 (by decide) ?_
    refine lv_istore_n (lv' := [(3, .int ((((((x0 / 10) / 10) / 10) / 10) / 10) / 10)), (4, .int 0), (5, .int 5), (0, .int x0), (1, .int 6), (2, .int 4)]) hx hb dX11_needDigits_46 rfl hl (by decide) rfl (fun ls hl => ?_)
    refine lv_iinc (v := 6) (lv' := [(5, .int 6), (3, .int ((((((x0 / 10) / 10) / 10) / 10) / 10) / 10)), (4, .int 0), (0, .int x0), (1, .int 6), (2, .int 4)]) hx hb dX11_needDigits_47 hl (k := 2) rfl (by decide) (by decide) rfl (fun ls hl => ?_)
    refine lv_goto (tgt := 16) hx hb dX11_needDigits_50 (by decide) ?_
    refine lv_iload hx hb dX11_needDigits_16 (lv_at hl 0 rfl) ?_
    refine lv_iload_n hx hb dX11_needDigits_18 rfl (lv_at hl 4 rfl) ?_
    refine lv_icmp_ge (tgt := 53) hx hb dX11_needDigits_19 (by decide) (fun _ => ?_) (fun hc => absurd (by decide) hc)
    refine lv_iload hx hb dX11_needDigits_53 (lv_at hl 2 rfl) ?_
    refine lv_if_eq (tgt := 62) hx hb dX11_needDigits_55 (by decide) (fun _ => ?_) (fun hc => absurd (by decide) hc)
    obtain ⟨sa9, hsa9⟩ := hT.2.2.1 (289, "no such powers") (List.mem_of_getElem? (i := 2) rfl)
    exact vx_throwSW hx hb hlt (own := RX11) (cls := "java/lang/IllegalArgumentException") (text := "no such powers") (names := exn) (ik := 218) (is := 289) (ic := 222) (sa := sa9) hown (by decide +kernel) exn_fit (hts (.classLink RX11 218 "java/lang/IllegalArgumentException") (List.mem_of_getElem? (i := 1) rfl)) (hts (.initialized "java/lang/IllegalArgumentException") (List.mem_of_getElem? (i := 2) rfl)) hsa9 (vx_hat (fun w h => hts w (List.mem_cons_of_mem _ (List.mem_append_right _ (List.mem_append_left _ h)))) tb_IAE (tc_IAE hT)) tg_IAE hT.1 hT.2.1 hS (by rw [hml]; exact hl.1) dX11_needDigits_62 dX11_needDigits_65 dX11_needDigits_66 dX11_needDigits_69 dX11_needDigits_72 (fun x hx9 => (hnt x hx9).elim) (Nat.le_of_ble_eq_true rfl) (Nat.le_of_ble_eq_true rfl) (Nat.le_of_ble_eq_true rfl) (Nat.le_of_ble_eq_true rfl) hlocks (fun t9 hW9 hz9 hk9 => ⟨(), (fun h9 => h9.1 hc_1), rfl, Nat.le_trans hS.1 hz9, fun q9 hq9 hA9 => (hk9 q9 (Nat.lt_of_lt_of_le hq9 hS.1)).trans (hS.2.1 q9 hq9 hA9)⟩) hS.2.2 (Nat.le_of_ble_eq_true rfl) (Nat.le_of_ble_eq_true rfl)
  · skip
    refine lv_iconst (v := 1) hx hb dX11_needDigits_6 (by decide) ?_
    refine lv_goto (tgt := 11) hx hb dX11_needDigits_7 (by decide) ?_
    refine lv_istore (lv' := [(4, .int 1), (3, .int x0), (0, .int x0), (1, .int 6), (2, .int 4)]) hx hb dX11_needDigits_11 hl (by decide) rfl (fun ls hl => ?_)
    refine lv_iconst (v := 0) hx hb dX11_needDigits_13 (by decide) ?_
    refine lv_istore (lv' := [(5, .int 0), (4, .int 1), (3, .int x0), (0, .int x0), (1, .int 6), (2, .int 4)]) hx hb dX11_needDigits_14 hl (by decide) rfl (fun ls hl => ?_)
    refine lv_iload hx hb dX11_needDigits_16 (lv_at hl 0 rfl) ?_
    refine lv_iload_n hx hb dX11_needDigits_18 rfl (lv_at hl 4 rfl) ?_
    refine lv_icmp_ge (tgt := 53) hx hb dX11_needDigits_19 (by decide) (fun hc => absurd hc (by decide)) (fun _ => ?_)
    refine lv_iload hx hb dX11_needDigits_22 (lv_at hl 1 rfl) ?_
    refine lv_if_eq (tgt := 39) hx hb dX11_needDigits_24 (by decide) (fun hc => absurd hc (by decide)) (fun _ => ?_)
    refine lv_iload_n hx hb dX11_needDigits_27 rfl (lv_at hl 2 rfl) ?_
    refine lv_bipush (v := 10) hx hb dX11_needDigits_28 (by decide) ?_
    refine lv_irem hx hb dX11_needDigits_30 (by decide) ?_
    refine lv_iload_n hx hb dX11_needDigits_31 rfl (lv_at hl 5 rfl) ?_
    refine lv_icmp_gt (tgt := 39) hx hb dX11_needDigits_32 (by decide) (fun hc_2 => ?_) (fun hc_2 => ?_)
    · skip
      refine lv_iconst (v := 0) hx hb dX11_needDigits_39 (by decide) ?_
      refine lv_istore (lv' := [(4, .int 0), (5, .int 0), (3, .int x0), (0, .int x0), (1, .int 6), (2, .int 4)]) hx hb dX11_needDigits_40 hl (by decide) rfl (fun ls hl => ?_)
      refine lv_iload_n hx hb dX11_needDigits_42 rfl (lv_at hl 2 rfl) ?_
      refine lv_bipush (v := 10) hx hb dX11_needDigits_43 (by decide) ?_
      refine lv_idiv hx hb dX11_needDigits_45 (by decide) ?_
      refine lv_istore_n (lv' := [(3, .int (x0 / 10)), (4, .int 0), (5, .int 0), (0, .int x0), (1, .int 6), (2, .int 4)]) hx hb dX11_needDigits_46 rfl hl (by decide) rfl (fun ls hl => ?_)
      refine lv_iinc (v := 1) (lv' := [(5, .int 1), (3, .int (x0 / 10)), (4, .int 0), (0, .int x0), (1, .int 6), (2, .int 4)]) hx hb dX11_needDigits_47 hl (k := 2) rfl (by decide) (by decide) rfl (fun ls hl => ?_)
      refine lv_goto (tgt := 16) hx hb dX11_needDigits_50 (by decide) ?_
      refine lv_iload hx hb dX11_needDigits_16 (lv_at hl 0 rfl) ?_
      refine lv_iload_n hx hb dX11_needDigits_18 rfl (lv_at hl 4 rfl) ?_
      refine lv_icmp_ge (tgt := 53) hx hb dX11_needDigits_19 (by decide) (fun hc => absurd hc (by decide)) (fun _ => ?_)
      refine lv_iload hx hb dX11_needDigits_22 (lv_at hl 2 rfl) ?_
      refine lv_if_eq (tgt := 39) hx hb dX11_needDigits_24 (by decide) (fun _ => ?_) (fun hc => absurd (by decide) hc)
      refine lv_iconst (v := 0) hx hb dX11_needDigits_39 (by decide) ?_
      refine lv_istore (lv' := [(4, .int 0), (5, .int 1), (3, .int (x0 / 10)), (0, .int x0), (1, .int 6), (2, .int 4)]) hx hb dX11_needDigits_40 hl (by decide) rfl (fun ls hl => ?_)
      refine lv_iload_n hx hb dX11_needDigits_42 rfl (lv_at hl 2 rfl) ?_
      refine lv_bipush (v := 10) hx hb dX11_needDigits_43 (by decide) ?_
      refine lv_idiv hx hb dX11_needDigits_45 (by decide) ?_
      refine lv_istore_n (lv' := [(3, .int ((x0 / 10) / 10)), (4, .int 0), (5, .int 1), (0, .int x0), (1, .int 6), (2, .int 4)]) hx hb dX11_needDigits_46 rfl hl (by decide) rfl (fun ls hl => ?_)
      refine lv_iinc (v := 2) (lv' := [(5, .int 2), (3, .int ((x0 / 10) / 10)), (4, .int 0), (0, .int x0), (1, .int 6), (2, .int 4)]) hx hb dX11_needDigits_47 hl (k := 2) rfl (by decide) (by decide) rfl (fun ls hl => ?_)
      refine lv_goto (tgt := 16) hx hb dX11_needDigits_50 (by decide) ?_
      refine lv_iload hx hb dX11_needDigits_16 (lv_at hl 0 rfl) ?_
      refine lv_iload_n hx hb dX11_needDigits_18 rfl (lv_at hl 4 rfl) ?_
      refine lv_icmp_ge (tgt := 53) hx hb dX11_needDigits_19 (by decide) (fun hc => absurd hc (by decide)) (fun _ => ?_)
      refine lv_iload hx hb dX11_needDigits_22 (lv_at hl 2 rfl) ?_
      refine lv_if_eq (tgt := 39) hx hb dX11_needDigits_24 (by decide) (fun _ => ?_) (fun hc => absurd (by decide) hc)
      refine lv_iconst (v := 0) hx hb dX11_needDigits_39 (by decide) ?_
      refine lv_istore (lv' := [(4, .int 0), (5, .int 2), (3, .int ((x0 / 10) / 10)), (0, .int x0), (1, .int 6), (2, .int 4)]) hx hb dX11_needDigits_40 hl (by decide) rfl (fun ls hl => ?_)
      refine lv_iload_n hx hb dX11_needDigits_42 rfl (lv_at hl 2 rfl) ?_
      refine lv_bipush (v := 10) hx hb dX11_needDigits_43 (by decide) ?_
      refine lv_idiv hx hb dX11_needDigits_45 (by decide) ?_
      refine lv_istore_n (lv' := [(3, .int (((x0 / 10) / 10) / 10)), (4, .int 0), (5, .int 2), (0, .int x0), (1, .int 6), (2, .int 4)]) hx hb dX11_needDigits_46 rfl hl (by decide) rfl (fun ls hl => ?_)
      refine lv_iinc (v := 3) (lv' := [(5, .int 3), (3, .int (((x0 / 10) / 10) / 10)), (4, .int 0), (0, .int x0), (1, .int 6), (2, .int 4)]) hx hb dX11_needDigits_47 hl (k := 2) rfl (by decide) (by decide) rfl (fun ls hl => ?_)
      refine lv_goto (tgt := 16) hx hb dX11_needDigits_50 (by decide) ?_
      refine lv_iload hx hb dX11_needDigits_16 (lv_at hl 0 rfl) ?_
      refine lv_iload_n hx hb dX11_needDigits_18 rfl (lv_at hl 4 rfl) ?_
      refine lv_icmp_ge (tgt := 53) hx hb dX11_needDigits_19 (by decide) (fun hc => absurd hc (by decide)) (fun _ => ?_)
      refine lv_iload hx hb dX11_needDigits_22 (lv_at hl 2 rfl) ?_
      refine lv_if_eq (tgt := 39) hx hb dX11_needDigits_24 (by decide) (fun _ => ?_) (fun hc => absurd (by decide) hc)
      refine lv_iconst (v := 0) hx hb dX11_needDigits_39 (by decide) ?_
      refine lv_istore (lv' := [(4, .int 0), (5, .int 3), (3, .int (((x0 / 10) / 10) / 10)), (0, .int x0), (1, .int 6), (2, .int 4)]) hx hb dX11_needDigits_40 hl (by decide) rfl (fun ls hl => ?_)
      refine lv_iload_n hx hb dX11_needDigits_42 rfl (lv_at hl 2 rfl) ?_
      refine lv_bipush (v := 10) hx hb dX11_needDigits_43 (by decide) ?_
      refine lv_idiv hx hb dX11_needDigits_45 (by decide) ?_
      refine lv_istore_n (lv' := [(3, .int ((((x0 / 10) / 10) / 10) / 10)), (4, .int 0), (5, .int 3), (0, .int x0), (1, .int 6), (2, .int 4)]) hx hb dX11_needDigits_46 rfl hl (by decide) rfl (fun ls hl => ?_)
      refine lv_iinc (v := 4) (lv' := [(5, .int 4), (3, .int ((((x0 / 10) / 10) / 10) / 10)), (4, .int 0), (0, .int x0), (1, .int 6), (2, .int 4)]) hx hb dX11_needDigits_47 hl (k := 2) rfl (by decide) (by decide) rfl (fun ls hl => ?_)
      refine lv_goto (tgt := 16) hx hb dX11_needDigits_50 (by decide) ?_
      refine lv_iload hx hb dX11_needDigits_16 (lv_at hl 0 rfl) ?_
      refine lv_iload_n hx hb dX11_needDigits_18 rfl (lv_at hl 4 rfl) ?_
      refine lv_icmp_ge (tgt := 53) hx hb dX11_needDigits_19 (by decide) (fun hc => absurd hc (by decide)) (fun _ => ?_)
      refine lv_iload hx hb dX11_needDigits_22 (lv_at hl 2 rfl) ?_
      refine lv_if_eq (tgt := 39) hx hb dX11_needDigits_24 (by decide) (fun _ => ?_) (fun hc => absurd (by decide) hc)
      refine lv_iconst (v := 0) hx hb dX11_needDigits_39 (by decide) ?_
      refine lv_istore (lv' := [(4, .int 0), (5, .int 4), (3, .int ((((x0 / 10) / 10) / 10) / 10)), (0, .int x0), (1, .int 6), (2, .int 4)]) hx hb dX11_needDigits_40 hl (by decide) rfl (fun ls hl => ?_)
      refine lv_iload_n hx hb dX11_needDigits_42 rfl (lv_at hl 2 rfl) ?_
      refine lv_bipush (v := 10) hx hb dX11_needDigits_43 (by decide) ?_
      refine lv_idiv hx hb dX11_needDigits_45 (by decide) ?_
      refine lv_istore_n (lv' := [(3, .int (((((x0 / 10) / 10) / 10) / 10) / 10)), (4, .int 0), (5, .int 4), (0, .int x0), (1, .int 6), (2, .int 4)]) hx hb dX11_needDigits_46 rfl hl (by decide) rfl (fun ls hl => ?_)
      refine lv_iinc (v := 5) (lv' := [(5, .int 5), (3, .int (((((x0 / 10) / 10) / 10) / 10) / 10)), (4, .int 0), (0, .int x0), (1, .int 6), (2, .int 4)]) hx hb dX11_needDigits_47 hl (k := 2) rfl (by decide) (by decide) rfl (fun ls hl => ?_)
      refine lv_goto (tgt := 16) hx hb dX11_needDigits_50 (by decide) ?_
      refine lv_iload hx hb dX11_needDigits_16 (lv_at hl 0 rfl) ?_
      refine lv_iload_n hx hb dX11_needDigits_18 rfl (lv_at hl 4 rfl) ?_
      refine lv_icmp_ge (tgt := 53) hx hb dX11_needDigits_19 (by decide) (fun hc => absurd hc (by decide)) (fun _ => ?_)
      refine lv_iload hx hb dX11_needDigits_22 (lv_at hl 2 rfl) ?_
      refine lv_if_eq (tgt := 39) hx hb dX11_needDigits_24 (by decide) (fun _ => ?_) (fun hc => absurd (by decide) hc)
      refine lv_iconst (v := 0) hx hb dX11_needDigits_39 (by decide) ?_
      refine lv_istore (lv' := [(4, .int 0), (5, .int 5), (3, .int (((((x0 / 10) / 10) / 10) / 10) / 10)), (0, .int x0), (1, .int 6), (2, .int 4)]) hx hb dX11_needDigits_40 hl (by decide) rfl (fun ls hl => ?_)
      refine lv_iload_n hx hb dX11_needDigits_42 rfl (lv_at hl 2 rfl) ?_
      refine lv_bipush (v := 10) hx hb dX11_needDigits_43 (by decide) ?_
      refine lv_idiv hx hb dX11_needDigits_45 (by decide) ?_
      refine lv_istore_n (lv' := [(3, .int ((((((x0 / 10) / 10) / 10) / 10) / 10) / 10)), (4, .int 0), (5, .int 5), (0, .int x0), (1, .int 6), (2, .int 4)]) hx hb dX11_needDigits_46 rfl hl (by decide) rfl (fun ls hl => ?_)
      refine lv_iinc (v := 6) (lv' := [(5, .int 6), (3, .int ((((((x0 / 10) / 10) / 10) / 10) / 10) / 10)), (4, .int 0), (0, .int x0), (1, .int 6), (2, .int 4)]) hx hb dX11_needDigits_47 hl (k := 2) rfl (by decide) (by decide) rfl (fun ls hl => ?_)
      refine lv_goto (tgt := 16) hx hb dX11_needDigits_50 (by decide) ?_
      refine lv_iload hx hb dX11_needDigits_16 (lv_at hl 0 rfl) ?_
      refine lv_iload_n hx hb dX11_needDigits_18 rfl (lv_at hl 4 rfl) ?_
      refine lv_icmp_ge (tgt := 53) hx hb dX11_needDigits_19 (by decide) (fun _ => ?_) (fun hc => absurd (by decide) hc)
      refine lv_iload hx hb dX11_needDigits_53 (lv_at hl 2 rfl) ?_
      refine lv_if_eq (tgt := 62) hx hb dX11_needDigits_55 (by decide) (fun _ => ?_) (fun hc => absurd (by decide) hc)
      obtain ⟨sa9, hsa9⟩ := hT.2.2.1 (289, "no such powers") (List.mem_of_getElem? (i := 2) rfl)
      exact vx_throwSW hx hb hlt (own := RX11) (cls := "java/lang/IllegalArgumentException") (text := "no such powers") (names := exn) (ik := 218) (is := 289) (ic := 222) (sa := sa9) hown (by decide +kernel) exn_fit (hts (.classLink RX11 218 "java/lang/IllegalArgumentException") (List.mem_of_getElem? (i := 1) rfl)) (hts (.initialized "java/lang/IllegalArgumentException") (List.mem_of_getElem? (i := 2) rfl)) hsa9 (vx_hat (fun w h => hts w (List.mem_cons_of_mem _ (List.mem_append_right _ (List.mem_append_left _ h)))) tb_IAE (tc_IAE hT)) tg_IAE hT.1 hT.2.1 hS (by rw [hml]; exact hl.1) dX11_needDigits_62 dX11_needDigits_65 dX11_needDigits_66 dX11_needDigits_69 dX11_needDigits_72 (fun x hx9 => (hnt x hx9).elim) (Nat.le_of_ble_eq_true rfl) (Nat.le_of_ble_eq_true rfl) (Nat.le_of_ble_eq_true rfl) (Nat.le_of_ble_eq_true rfl) hlocks (fun t9 hW9 hz9 hk9 => ⟨(), (fun h9 => h9.2.1 hc_2), rfl, Nat.le_trans hS.1 hz9, fun q9 hq9 hA9 => (hk9 q9 (Nat.lt_of_lt_of_le hq9 hS.1)).trans (hS.2.1 q9 hq9 hA9)⟩) hS.2.2 (Nat.le_of_ble_eq_true rfl) (Nat.le_of_ble_eq_true rfl)
    · skip
      refine lv_iconst (v := 1) hx hb dX11_needDigits_35 (by decide) ?_
      refine lv_goto (tgt := 40) hx hb dX11_needDigits_36 (by decide) ?_
      refine lv_istore (lv' := [(4, .int 1), (5, .int 0), (3, .int x0), (0, .int x0), (1, .int 6), (2, .int 4)]) hx hb dX11_needDigits_40 hl (by decide) rfl (fun ls hl => ?_)
      refine lv_iload_n hx hb dX11_needDigits_42 rfl (lv_at hl 2 rfl) ?_
      refine lv_bipush (v := 10) hx hb dX11_needDigits_43 (by decide) ?_
      refine lv_idiv hx hb dX11_needDigits_45 (by decide) ?_
      refine lv_istore_n (lv' := [(3, .int (x0 / 10)), (4, .int 1), (5, .int 0), (0, .int x0), (1, .int 6), (2, .int 4)]) hx hb dX11_needDigits_46 rfl hl (by decide) rfl (fun ls hl => ?_)
      refine lv_iinc (v := 1) (lv' := [(5, .int 1), (3, .int (x0 / 10)), (4, .int 1), (0, .int x0), (1, .int 6), (2, .int 4)]) hx hb dX11_needDigits_47 hl (k := 2) rfl (by decide) (by decide) rfl (fun ls hl => ?_)
      refine lv_goto (tgt := 16) hx hb dX11_needDigits_50 (by decide) ?_
      refine lv_iload hx hb dX11_needDigits_16 (lv_at hl 0 rfl) ?_
      refine lv_iload_n hx hb dX11_needDigits_18 rfl (lv_at hl 4 rfl) ?_
      refine lv_icmp_ge (tgt := 53) hx hb dX11_needDigits_19 (by decide) (fun hc => absurd hc (by decide)) (fun _ => ?_)
      refine lv_iload hx hb dX11_needDigits_22 (lv_at hl 2 rfl) ?_
      refine lv_if_eq (tgt := 39) hx hb dX11_needDigits_24 (by decide) (fun hc => absurd hc (by decide)) (fun _ => ?_)
      refine lv_iload_n hx hb dX11_needDigits_27 rfl (lv_at hl 1 rfl) ?_
      refine lv_bipush (v := 10) hx hb dX11_needDigits_28 (by decide) ?_
      refine lv_irem hx hb dX11_needDigits_30 (by decide) ?_
      refine lv_iload_n hx hb dX11_needDigits_31 rfl (lv_at hl 5 rfl) ?_
      refine lv_icmp_gt (tgt := 39) hx hb dX11_needDigits_32 (by decide) (fun hc_3 => ?_) (fun hc_3 => ?_)
      · skip
        refine lv_iconst (v := 0) hx hb dX11_needDigits_39 (by decide) ?_
        refine lv_istore (lv' := [(4, .int 0), (5, .int 1), (3, .int (x0 / 10)), (0, .int x0), (1, .int 6), (2, .int 4)]) hx hb dX11_needDigits_40 hl (by decide) rfl (fun ls hl => ?_)
        refine lv_iload_n hx hb dX11_needDigits_42 rfl (lv_at hl 2 rfl) ?_
        refine lv_bipush (v := 10) hx hb dX11_needDigits_43 (by decide) ?_
        refine lv_idiv hx hb dX11_needDigits_45 (by decide) ?_
        refine lv_istore_n (lv' := [(3, .int ((x0 / 10) / 10)), (4, .int 0), (5, .int 1), (0, .int x0), (1, .int 6), (2, .int 4)]) hx hb dX11_needDigits_46 rfl hl (by decide) rfl (fun ls hl => ?_)
        refine lv_iinc (v := 2) (lv' := [(5, .int 2), (3, .int ((x0 / 10) / 10)), (4, .int 0), (0, .int x0), (1, .int 6), (2, .int 4)]) hx hb dX11_needDigits_47 hl (k := 2) rfl (by decide) (by decide) rfl (fun ls hl => ?_)
        refine lv_goto (tgt := 16) hx hb dX11_needDigits_50 (by decide) ?_
        refine lv_iload hx hb dX11_needDigits_16 (lv_at hl 0 rfl) ?_
        refine lv_iload_n hx hb dX11_needDigits_18 rfl (lv_at hl 4 rfl) ?_
        refine lv_icmp_ge (tgt := 53) hx hb dX11_needDigits_19 (by decide) (fun hc => absurd hc (by decide)) (fun _ => ?_)
        refine lv_iload hx hb dX11_needDigits_22 (lv_at hl 2 rfl) ?_
        refine lv_if_eq (tgt := 39) hx hb dX11_needDigits_24 (by decide) (fun _ => ?_) (fun hc => absurd (by decide) hc)
        refine lv_iconst (v := 0) hx hb dX11_needDigits_39 (by decide) ?_
        refine lv_istore (lv' := [(4, .int 0), (5, .int 2), (3, .int ((x0 / 10) / 10)), (0, .int x0), (1, .int 6), (2, .int 4)]) hx hb dX11_needDigits_40 hl (by decide) rfl (fun ls hl => ?_)
        refine lv_iload_n hx hb dX11_needDigits_42 rfl (lv_at hl 2 rfl) ?_
        refine lv_bipush (v := 10) hx hb dX11_needDigits_43 (by decide) ?_
        refine lv_idiv hx hb dX11_needDigits_45 (by decide) ?_
        refine lv_istore_n (lv' := [(3, .int (((x0 / 10) / 10) / 10)), (4, .int 0), (5, .int 2), (0, .int x0), (1, .int 6), (2, .int 4)]) hx hb dX11_needDigits_46 rfl hl (by decide) rfl (fun ls hl => ?_)
        refine lv_iinc (v := 3) (lv' := [(5, .int 3), (3, .int (((x0 / 10) / 10) / 10)), (4, .int 0), (0, .int x0), (1, .int 6), (2, .int 4)]) hx hb dX11_needDigits_47 hl (k := 2) rfl (by decide) (by decide) rfl (fun ls hl => ?_)
        refine lv_goto (tgt := 16) hx hb dX11_needDigits_50 (by decide) ?_
        refine lv_iload hx hb dX11_needDigits_16 (lv_at hl 0 rfl) ?_
        refine lv_iload_n hx hb dX11_needDigits_18 rfl (lv_at hl 4 rfl) ?_
        refine lv_icmp_ge (tgt := 53) hx hb dX11_needDigits_19 (by decide) (fun hc => absurd hc (by decide)) (fun _ => ?_)
        refine lv_iload hx hb dX11_needDigits_22 (lv_at hl 2 rfl) ?_
        refine lv_if_eq (tgt := 39) hx hb dX11_needDigits_24 (by decide) (fun _ => ?_) (fun hc => absurd (by decide) hc)
        refine lv_iconst (v := 0) hx hb dX11_needDigits_39 (by decide) ?_
        refine lv_istore (lv' := [(4, .int 0), (5, .int 3), (3, .int (((x0 / 10) / 10) / 10)), (0, .int x0), (1, .int 6), (2, .int 4)]) hx hb dX11_needDigits_40 hl (by decide) rfl (fun ls hl => ?_)
        refine lv_iload_n hx hb dX11_needDigits_42 rfl (lv_at hl 2 rfl) ?_
        refine lv_bipush (v := 10) hx hb dX11_needDigits_43 (by decide) ?_
        refine lv_idiv hx hb dX11_needDigits_45 (by decide) ?_
        refine lv_istore_n (lv' := [(3, .int ((((x0 / 10) / 10) / 10) / 10)), (4, .int 0), (5, .int 3), (0, .int x0), (1, .int 6), (2, .int 4)]) hx hb dX11_needDigits_46 rfl hl (by decide) rfl (fun ls hl => ?_)
        refine lv_iinc (v := 4) (lv' := [(5, .int 4), (3, .int ((((x0 / 10) / 10) / 10) / 10)), (4, .int 0), (0, .int x0), (1, .int 6), (2, .int 4)]) hx hb dX11_needDigits_47 hl (k := 2) rfl (by decide) (by decide) rfl (fun ls hl => ?_)
        refine lv_goto (tgt := 16) hx hb dX11_needDigits_50 (by decide) ?_
        refine lv_iload hx hb dX11_needDigits_16 (lv_at hl 0 rfl) ?_
        refine lv_iload_n hx hb dX11_needDigits_18 rfl (lv_at hl 4 rfl) ?_
        refine lv_icmp_ge (tgt := 53) hx hb dX11_needDigits_19 (by decide) (fun hc => absurd hc (by decide)) (fun _ => ?_)
        refine lv_iload hx hb dX11_needDigits_22 (lv_at hl 2 rfl) ?_
        refine lv_if_eq (tgt := 39) hx hb dX11_needDigits_24 (by decide) (fun _ => ?_) (fun hc => absurd (by decide) hc)
        refine lv_iconst (v := 0) hx hb dX11_needDigits_39 (by decide) ?_
        refine lv_istore (lv' := [(4, .int 0), (5, .int 4), (3, .int ((((x0 / 10) / 10) / 10) / 10)), (0, .int x0), (1, .int 6), (2, .int 4)]) hx hb dX11_needDigits_40 hl (by decide) rfl (fun ls hl => ?_)
        refine lv_iload_n hx hb dX11_needDigits_42 rfl (lv_at hl 2 rfl) ?_
        refine lv_bipush (v := 10) hx hb dX11_needDigits_43 (by decide) ?_
        refine lv_idiv hx hb dX11_needDigits_45 (by decide) ?_
        refine lv_istore_n (lv' := [(3, .int (((((x0 / 10) / 10) / 10) / 10) / 10)), (4, .int 0), (5, .int 4), (0, .int x0), (1, .int 6), (2, .int 4)]) hx hb dX11_needDigits_46 rfl hl (by decide) rfl (fun ls hl => ?_)
        refine lv_iinc (v := 5) (lv' := [(5, .int 5), (3, .int (((((x0 / 10) / 10) / 10) / 10) / 10)), (4, .int 0), (0, .int x0), (1, .int 6), (2, .int 4)]) hx hb dX11_needDigits_47 hl (k := 2) rfl (by decide) (by decide) rfl (fun ls hl => ?_)
        refine lv_goto (tgt := 16) hx hb dX11_needDigits_50 (by decide) ?_
        refine lv_iload hx hb dX11_needDigits_16 (lv_at hl 0 rfl) ?_
        refine lv_iload_n hx hb dX11_needDigits_18 rfl (lv_at hl 4 rfl) ?_
        refine lv_icmp_ge (tgt := 53) hx hb dX11_needDigits_19 (by decide) (fun hc => absurd hc (by decide)) (fun _ => ?_)
        refine lv_iload hx hb dX11_needDigits_22 (lv_at hl 2 rfl) ?_
        refine lv_if_eq (tgt := 39) hx hb dX11_needDigits_24 (by decide) (fun _ => ?_) (fun hc => absurd (by decide) hc)
        refine lv_iconst (v := 0) hx hb dX11_needDigits_39 (by decide) ?_
        refine lv_istore (lv' := [(4, .int 0), (5, .int 5), (3, .int (((((x0 / 10) / 10) / 10) / 10) / 10)), (0, .int x0), (1, .int 6), (2, .int 4)]) hx hb dX11_needDigits_40 hl (by decide) rfl (fun ls hl => ?_)
        refine lv_iload_n hx hb dX11_needDigits_42 rfl (lv_at hl 2 rfl) ?_
        refine lv_bipush (v := 10) hx hb dX11_needDigits_43 (by decide) ?_
        refine lv_idiv hx hb dX11_needDigits_45 (by decide) ?_
        refine lv_istore_n (lv' := [(3, .int ((((((x0 / 10) / 10) / 10) / 10) / 10) / 10)), (4, .int 0), (5, .int 5), (0, .int x0), (1, .int 6), (2, .int 4)]) hx hb dX11_needDigits_46 rfl hl (by decide) rfl (fun ls hl => ?_)
        refine lv_iinc (v := 6) (lv' := [(5, .int 6), (3, .int ((((((x0 / 10) / 10) / 10) / 10) / 10) / 10)), (4, .int 0), (0, .int x0), (1, .int 6), (2, .int 4)]) hx hb dX11_needDigits_47 hl (k := 2) rfl (by decide) (by decide) rfl (fun ls hl => ?_)
        refine lv_goto (tgt := 16) hx hb dX11_needDigits_50 (by decide) ?_
        refine lv_iload hx hb dX11_needDigits_16 (lv_at hl 0 rfl) ?_
        refine lv_iload_n hx hb dX11_needDigits_18 rfl (lv_at hl 4 rfl) ?_
        refine lv_icmp_ge (tgt := 53) hx hb dX11_needDigits_19 (by decide) (fun _ => ?_) (fun hc => absurd (by decide) hc)
        refine lv_iload hx hb dX11_needDigits_53 (lv_at hl 2 rfl) ?_
        refine lv_if_eq (tgt := 62) hx hb dX11_needDigits_55 (by decide) (fun _ => ?_) (fun hc => absurd (by decide) hc)
        obtain ⟨sa9, hsa9⟩ := hT.2.2.1 (289, "no such powers") (List.mem_of_getElem? (i := 2) rfl)
        exact vx_throwSW hx hb hlt (own := RX11) (cls := "java/lang/IllegalArgumentException") (text := "no such powers") (names := exn) (ik := 218) (is := 289) (ic := 222) (sa := sa9) hown (by decide +kernel) exn_fit (hts (.classLink RX11 218 "java/lang/IllegalArgumentException") (List.mem_of_getElem? (i := 1) rfl)) (hts (.initialized "java/lang/IllegalArgumentException") (List.mem_of_getElem? (i := 2) rfl)) hsa9 (vx_hat (fun w h => hts w (List.mem_cons_of_mem _ (List.mem_append_right _ (List.mem_append_left _ h)))) tb_IAE (tc_IAE hT)) tg_IAE hT.1 hT.2.1 hS (by rw [hml]; exact hl.1) dX11_needDigits_62 dX11_needDigits_65 dX11_needDigits_66 dX11_needDigits_69 dX11_needDigits_72 (fun x hx9 => (hnt x hx9).elim) (Nat.le_of_ble_eq_true rfl) (Nat.le_of_ble_eq_true rfl) (Nat.le_of_ble_eq_true rfl) (Nat.le_of_ble_eq_true rfl) hlocks (fun t9 hW9 hz9 hk9 => ⟨(), (fun h9 => h9.2.2.1 hc_3), rfl, Nat.le_trans hS.1 hz9, fun q9 hq9 hA9 => (hk9 q9 (Nat.lt_of_lt_of_le hq9 hS.1)).trans (hS.2.1 q9 hq9 hA9)⟩) hS.2.2 (Nat.le_of_ble_eq_true rfl) (Nat.le_of_ble_eq_true rfl)
      · skip
        refine lv_iconst (v := 1) hx hb dX11_needDigits_35 (by decide) ?_
        refine lv_goto (tgt := 40) hx hb dX11_needDigits_36 (by decide) ?_
        refine lv_istore (lv' := [(4, .int 1), (5, .int 1), (3, .int (x0 / 10)), (0, .int x0), (1, .int 6), (2, .int 4)]) hx hb dX11_needDigits_40 hl (by decide) rfl (fun ls hl => ?_)
        refine lv_iload_n hx hb dX11_needDigits_42 rfl (lv_at hl 2 rfl) ?_
        refine lv_bipush (v := 10) hx hb dX11_needDigits_43 (by decide) ?_
        refine lv_idiv hx hb dX11_needDigits_45 (by decide) ?_
        refine lv_istore_n (lv' := [(3, .int ((x0 / 10) / 10)), (4, .int 1), (5, .int 1), (0, .int x0), (1, .int 6), (2, .int 4)]) hx hb dX11_needDigits_46 rfl hl (by decide) rfl (fun ls hl => ?_)
        refine lv_iinc (v := 2) (lv' := [(5, .int 2), (3, .int ((x0 / 10) / 10)), (4, .int 1), (0, .int x0), (1, .int 6), (2, .int 4)]) hx hb dX11_needDigits_47 hl (k := 2) rfl (by decide) (by decide) rfl (fun ls hl => ?_)
        refine lv_goto (tgt := 16) hx hb dX11_needDigits_50 (by decide) ?_
        refine lv_iload hx hb dX11_needDigits_16 (lv_at hl 0 rfl) ?_
        refine lv_iload_n hx hb dX11_needDigits_18 rfl (lv_at hl 4 rfl) ?_
        refine lv_icmp_ge (tgt := 53) hx hb dX11_needDigits_19 (by decide) (fun hc => absurd hc (by decide)) (fun _ => ?_)
        refine lv_iload hx hb dX11_needDigits_22 (lv_at hl 2 rfl) ?_
        refine lv_if_eq (tgt := 39) hx hb dX11_needDigits_24 (by decide) (fun hc => absurd hc (by decide)) (fun _ => ?_)
        refine lv_iload_n hx hb dX11_needDigits_27 rfl (lv_at hl 1 rfl) ?_
        refine lv_bipush (v := 10) hx hb dX11_needDigits_28 (by decide) ?_
        refine lv_irem hx hb dX11_needDigits_30 (by decide) ?_
        refine lv_iload_n hx hb dX11_needDigits_31 rfl (lv_at hl 5 rfl) ?_
        refine lv_icmp_gt (tgt := 39) hx hb dX11_needDigits_32 (by decide) (fun hc_4 => ?_) (fun hc_4 => ?_)
        · skip
          refine lv_iconst (v := 0) hx hb dX11_needDigits_39 (by decide) ?_
          refine lv_istore (lv' := [(4, .int 0), (5, .int 2), (3, .int ((x0 / 10) / 10)), (0, .int x0), (1, .int 6), (2, .int 4)]) hx hb dX11_needDigits_40 hl (by decide) rfl (fun ls hl => ?_)
          refine lv_iload_n hx hb dX11_needDigits_42 rfl (lv_at hl 2 rfl) ?_
          refine lv_bipush (v := 10) hx hb dX11_needDigits_43 (by decide) ?_
          refine lv_idiv hx hb dX11_needDigits_45 (by decide) ?_
          refine lv_istore_n (lv' := [(3, .int (((x0 / 10) / 10) / 10)), (4, .int 0), (5, .int 2), (0, .int x0), (1, .int 6), (2, .int 4)]) hx hb dX11_needDigits_46 rfl hl (by decide) rfl (fun ls hl => ?_)
          refine lv_iinc (v := 3) (lv' := [(5, .int 3), (3, .int (((x0 / 10) / 10) / 10)), (4, .int 0), (0, .int x0), (1, .int 6), (2, .int 4)]) hx hb dX11_needDigits_47 hl (k := 2) rfl (by decide) (by decide) rfl (fun ls hl => ?_)
          refine lv_goto (tgt := 16) hx hb dX11_needDigits_50 (by decide) ?_
          refine lv_iload hx hb dX11_needDigits_16 (lv_at hl 0 rfl) ?_
          refine lv_iload_n hx hb dX11_needDigits_18 rfl (lv_at hl 4 rfl) ?_
          refine lv_icmp_ge (tgt := 53) hx hb dX11_needDigits_19 (by decide) (fun hc => absurd hc (by decide)) (fun _ => ?_)
          refine lv_iload hx hb dX11_needDigits_22 (lv_at hl 2 rfl) ?_
          refine lv_if_eq (tgt := 39) hx hb dX11_needDigits_24 (by decide) (fun _ => ?_) (fun hc => absurd (by decide) hc)
          refine lv_iconst (v := 0) hx hb dX11_needDigits_39 (by decide) ?_
          refine lv_istore (lv' := [(4, .int 0), (5, .int 3), (3, .int (((x0 / 10) / 10) / 10)), (0, .int x0), (1, .int 6), (2, .int 4)]) hx hb dX11_needDigits_40 hl (by decide) rfl (fun ls hl => ?_)
          refine lv_iload_n hx hb dX11_needDigits_42 rfl (lv_at hl 2 rfl) ?_
          refine lv_bipush (v := 10) hx hb dX11_needDigits_43 (by decide) ?_
          refine lv_idiv hx hb dX11_needDigits_45 (by decide) ?_
          refine lv_istore_n (lv' := [(3, .int ((((x0 / 10) / 10) / 10) / 10)), (4, .int 0), (5, .int 3), (0, .int x0), (1, .int 6), (2, .int 4)]) hx hb dX11_needDigits_46 rfl hl (by decide) rfl (fun ls hl => ?_)
          refine lv_iinc (v := 4) (lv' := [(5, .int 4), (3, .int ((((x0 / 10) / 10) / 10) / 10)), (4, .int 0), (0, .int x0), (1, .int 6), (2, .int 4)]) hx hb dX11_needDigits_47 hl (k := 2) rfl (by decide) (by decide) rfl (fun ls hl => ?_)
          refine lv_goto (tgt := 16) hx hb dX11_needDigits_50 (by decide) ?_
          refine lv_iload hx hb dX11_needDigits_16 (lv_at hl 0 rfl) ?_
          refine lv_iload_n hx hb dX11_needDigits_18 rfl (lv_at hl 4 rfl) ?_
          refine lv_icmp_ge (tgt := 53) hx hb dX11_needDigits_19 (by decide) (fun hc => absurd hc (by decide)) (fun _ => ?_)
          refine lv_iload hx hb dX11_needDigits_22 (lv_at hl 2 rfl) ?_
          refine lv_if_eq (tgt := 39) hx hb dX11_needDigits_24 (by decide) (fun _ => ?_) (fun hc => absurd (by decide) hc)
          refine lv_iconst (v := 0) hx hb dX11_needDigits_39 (by decide) ?_
          refine lv_istore (lv' := [(4, .int 0), (5, .int 4), (3, .int ((((x0 / 10) / 10) / 10) / 10)), (0, .int x0), (1, .int 6), (2, .int 4)]) hx hb dX11_needDigits_40 hl (by decide) rfl (fun ls hl => ?_)
          refine lv_iload_n hx hb dX11_needDigits_42 rfl (lv_at hl 2 rfl) ?_
          refine lv_bipush (v := 10) hx hb dX11_needDigits_43 (by decide) ?_
          refine lv_idiv hx hb dX11_needDigits_45 (by decide) ?_
          refine lv_istore_n (lv' := [(3, .int (((((x0 / 10) / 10) / 10) / 10) / 10)), (4, .int 0), (5, .int 4), (0, .int x0), (1, .int 6), (2, .int 4)]) hx hb dX11_needDigits_46 rfl hl (by decide) rfl (fun ls hl => ?_)
          refine lv_iinc (v := 5) (lv' := [(5, .int 5), (3, .int (((((x0 / 10) / 10) / 10) / 10) / 10)), (4, .int 0), (0, .int x0), (1, .int 6), (2, .int 4)]) hx hb dX11_needDigits_47 hl (k := 2) rfl (by decide) (by decide) rfl (fun ls hl => ?_)
          refine lv_goto (tgt := 16) hx hb dX11_needDigits_50 (by decide) ?_
          refine lv_iload hx hb dX11_needDigits_16 (lv_at hl 0 rfl) ?_
          refine lv_iload_n hx hb dX11_needDigits_18 rfl (lv_at hl 4 rfl) ?_
          refine lv_icmp_ge (tgt := 53) hx hb dX11_needDigits_19 (by decide) (fun hc => absurd hc (by decide)) (fun _ => ?_)
          refine lv_iload hx hb dX11_needDigits_22 (lv_at hl 2 rfl) ?_
          refine lv_if_eq (tgt := 39) hx hb dX11_needDigits_24 (by decide) (fun _ => ?_) (fun hc => absurd (by decide) hc)
          refine lv_iconst (v := 0) hx hb dX11_needDigits_39 (by decide) ?_
          refine lv_istore (lv' := [(4, .int 0), (5, .int 5), (3, .int (((((x0 / 10) / 10) / 10) / 10) / 10)), (0, .int x0), (1, .int 6), (2, .int 4)]) hx hb dX11_needDigits_40 hl (by decide) rfl (fun ls hl => ?_)
          refine lv_iload_n hx hb dX11_needDigits_42 rfl (lv_at hl 2 rfl) ?_
          refine lv_bipush (v := 10) hx hb dX11_needDigits_43 (by decide) ?_
          refine lv_idiv hx hb dX11_needDigits_45 (by decide) ?_
          refine lv_istore_n (lv' := [(3, .int ((((((x0 / 10) / 10) / 10) / 10) / 10) / 10)), (4, .int 0), (5, .int 5), (0, .int x0), (1, .int 6), (2, .int 4)]) hx hb dX11_needDigits_46 rfl hl (by decide) rfl (fun ls hl => ?_)
          refine lv_iinc (v := 6) (lv' := [(5, .int 6), (3, .int ((((((x0 / 10) / 10) / 10) / 10) / 10) / 10)), (4, .int 0), (0, .int x0), (1, .int 6), (2, .int 4)]) hx hb dX11_needDigits_47 hl (k := 2) rfl (by decide) (by decide) rfl (fun ls hl => ?_)
          refine lv_goto (tgt := 16) hx hb dX11_needDigits_50 (by decide) ?_
          refine lv_iload hx hb dX11_needDigits_16 (lv_at hl 0 rfl) ?_
          refine lv_iload_n hx hb dX11_needDigits_18 rfl (lv_at hl 4 rfl) ?_
          refine lv_icmp_ge (tgt := 53) hx hb dX11_needDigits_19 (by decide) (fun _ => ?_) (fun hc => absurd (by decide) hc)
          refine lv_iload hx hb dX11_needDigits_53 (lv_at hl 2 rfl) ?_
          refine lv_if_eq (tgt := 62) hx hb dX11_needDigits_55 (by decide) (fun _ => ?_) (fun hc => absurd (by decide) hc)
          obtain ⟨sa9, hsa9⟩ := hT.2.2.1 (289, "no such powers") (List.mem_of_getElem? (i := 2) rfl)
          exact vx_throwSW hx hb hlt (own := RX11) (cls := "java/lang/IllegalArgumentException") (text := "no such powers") (names := exn) (ik := 218) (is := 289) (ic := 222) (sa := sa9) hown (by decide +kernel) exn_fit (hts (.classLink RX11 218 "java/lang/IllegalArgumentException") (List.mem_of_getElem? (i := 1) rfl)) (hts (.initialized "java/lang/IllegalArgumentException") (List.mem_of_getElem? (i := 2) rfl)) hsa9 (vx_hat (fun w h => hts w (List.mem_cons_of_mem _ (List.mem_append_right _ (List.mem_append_left _ h)))) tb_IAE (tc_IAE hT)) tg_IAE hT.1 hT.2.1 hS (by rw [hml]; exact hl.1) dX11_needDigits_62 dX11_needDigits_65 dX11_needDigits_66 dX11_needDigits_69 dX11_needDigits_72 (fun x hx9 => (hnt x hx9).elim) (Nat.le_of_ble_eq_true rfl) (Nat.le_of_ble_eq_true rfl) (Nat.le_of_ble_eq_true rfl) (Nat.le_of_ble_eq_true rfl) hlocks (fun t9 hW9 hz9 hk9 => ⟨(), (fun h9 => h9.2.2.2.1 hc_4), rfl, Nat.le_trans hS.1 hz9, fun q9 hq9 hA9 => (hk9 q9 (Nat.lt_of_lt_of_le hq9 hS.1)).trans (hS.2.1 q9 hq9 hA9)⟩) hS.2.2 (Nat.le_of_ble_eq_true rfl) (Nat.le_of_ble_eq_true rfl)
        · skip
          refine lv_iconst (v := 1) hx hb dX11_needDigits_35 (by decide) ?_
          refine lv_goto (tgt := 40) hx hb dX11_needDigits_36 (by decide) ?_
          refine lv_istore (lv' := [(4, .int 1), (5, .int 2), (3, .int ((x0 / 10) / 10)), (0, .int x0), (1, .int 6), (2, .int 4)]) hx hb dX11_needDigits_40 hl (by decide) rfl (fun ls hl => ?_)
          refine lv_iload_n hx hb dX11_needDigits_42 rfl (lv_at hl 2 rfl) ?_
          refine lv_bipush (v := 10) hx hb dX11_needDigits_43 (by decide) ?_
          refine lv_idiv hx hb dX11_needDigits_45 (by decide) ?_
          refine lv_istore_n (lv' := [(3, .int (((x0 / 10) / 10) / 10)), (4, .int 1), (5, .int 2), (0, .int x0), (1, .int 6), (2, .int 4)]) hx hb dX11_needDigits_46 rfl hl (by decide) rfl (fun ls hl => ?_)
          refine lv_iinc (v := 3) (lv' := [(5, .int 3), (3, .int (((x0 / 10) / 10) / 10)), (4, .int 1), (0, .int x0), (1, .int 6), (2, .int 4)]) hx hb dX11_needDigits_47 hl (k := 2) rfl (by decide) (by decide) rfl (fun ls hl => ?_)
          refine lv_goto (tgt := 16) hx hb dX11_needDigits_50 (by decide) ?_
          refine lv_iload hx hb dX11_needDigits_16 (lv_at hl 0 rfl) ?_
          refine lv_iload_n hx hb dX11_needDigits_18 rfl (lv_at hl 4 rfl) ?_
          refine lv_icmp_ge (tgt := 53) hx hb dX11_needDigits_19 (by decide) (fun hc => absurd hc (by decide)) (fun _ => ?_)
          refine lv_iload hx hb dX11_needDigits_22 (lv_at hl 2 rfl) ?_
          refine lv_if_eq (tgt := 39) hx hb dX11_needDigits_24 (by decide) (fun hc => absurd hc (by decide)) (fun _ => ?_)
          refine lv_iload_n hx hb dX11_needDigits_27 rfl (lv_at hl 1 rfl) ?_
          refine lv_bipush (v := 10) hx hb dX11_needDigits_28 (by decide) ?_
          refine lv_irem hx hb dX11_needDigits_30 (by decide) ?_
          refine lv_iload_n hx hb dX11_needDigits_31 rfl (lv_at hl 5 rfl) ?_
          refine lv_icmp_gt (tgt := 39) hx hb dX11_needDigits_32 (by decide) (fun hc_5 => ?_) (fun hc_5 => ?_)
          · skip
            refine lv_iconst (v := 0) hx hb dX11_needDigits_39 (by decide) ?_
            refine lv_istore (lv' := [(4, .int 0), (5, .int 3), (3, .int (((x0 / 10) / 10) / 10)), (0, .int x0), (1, .int 6), (2, .int 4)]) hx hb dX11_needDigits_40 hl (by decide) rfl (fun ls hl => ?_)
            refine lv_iload_n hx hb dX11_needDigits_42 rfl (lv_at hl 2 rfl) ?_
            refine lv_bipush (v := 10) hx hb dX11_needDigits_43 (by decide) ?_
            refine lv_idiv hx hb dX11_needDigits_45 (by decide) ?_
            refine lv_istore_n (lv' := [(3, .int ((((x0 / 10) / 10) / 10) / 10)), (4, .int 0), (5, .int 3), (0, .int x0), (1, .int 6), (2, .int 4)]) hx hb dX11_needDigits_46 rfl hl (by decide) rfl (fun ls hl => ?_)
            refine lv_iinc (v := 4) (lv' := [(5, .int 4), (3, .int ((((x0 / 10) / 10) / 10) / 10)), (4, .int 0), (0, .int x0), (1, .int 6), (2, .int 4)]) hx hb dX11_needDigits_47 hl (k := 2) rfl (by decide) (by decide) rfl (fun ls hl => ?_)
            refine lv_goto (tgt := 16) hx hb dX11_needDigits_50 (by decide) ?_
            refine lv_iload hx hb dX11_needDigits_16 (lv_at hl 0 rfl) ?_
            refine lv_iload_n hx hb dX11_needDigits_18 rfl (lv_at hl 4 rfl) ?_
            refine lv_icmp_ge (tgt := 53) hx hb dX11_needDigits_19 (by decide) (fun hc => absurd hc (by decide)) (fun _ => ?_)
            refine lv_iload hx hb dX11_needDigits_22 (lv_at hl 2 rfl) ?_
            refine lv_if_eq (tgt := 39) hx hb dX11_needDigits_24 (by decide) (fun _ => ?_) (fun hc => absurd (by decide) hc)
            refine lv_iconst (v := 0) hx hb dX11_needDigits_39 (by decide) ?_
            refine lv_istore (lv' := [(4, .int 0), (5, .int 4), (3, .int ((((x0 / 10) / 10) / 10) / 10)), (0, .int x0), (1, .int 6), (2, .int 4)]) hx hb dX11_needDigits_40 hl (by decide) rfl (fun ls hl => ?_)
            refine lv_iload_n hx hb dX11_needDigits_42 rfl (lv_at hl 2 rfl) ?_
            refine lv_bipush (v := 10) hx hb dX11_needDigits_43 (by decide) ?_
            refine lv_idiv hx hb dX11_needDigits_45 (by decide) ?_
            refine lv_istore_n (lv' := [(3, .int (((((x0 / 10) / 10) / 10) / 10) / 10)), (4, .int 0), (5, .int 4), (0, .int x0), (1, .int 6), (2, .int 4)]) hx hb dX11_needDigits_46 rfl hl (by decide) rfl (fun ls hl => ?_)
            refine lv_iinc (v := 5) (lv' := [(5, .int 5), (3, .int (((((x0 / 10) / 10) / 10) / 10) / 10)), (4, .int 0), (0, .int x0), (1, .int 6), (2, .int 4)]) hx hb dX11_needDigits_47 hl (k := 2) rfl (by decide) (by decide) rfl (fun ls hl => ?_)
            refine lv_goto (tgt := 16) hx hb dX11_needDigits_50 (by decide) ?_
            refine lv_iload hx hb dX11_needDigits_16 (lv_at hl 0 rfl) ?_
            refine lv_iload_n hx hb dX11_needDigits_18 rfl (lv_at hl 4 rfl) ?_
            refine lv_icmp_ge (tgt := 53) hx hb dX11_needDigits_19 (by decide) (fun hc => absurd hc (by decide)) (fun _ => ?_)
            refine lv_iload hx hb dX11_needDigits_22 (lv_at hl 2 rfl) ?_
            refine lv_if_eq (tgt := 39) hx hb dX11_needDigits_24 (by decide) (fun _ => ?_) (fun hc => absurd (by decide) hc)
            refine lv_iconst (v := 0) hx hb dX11_needDigits_39 (by decide) ?_
            refine lv_istore (lv' := [(4, .int 0), (5, .int 5), (3, .int (((((x0 / 10) / 10) / 10) / 10) / 10)), (0, .int x0), (1, .int 6), (2, .int 4)]) hx hb dX11_needDigits_40 hl (by decide) rfl (fun ls hl => ?_)
            refine lv_iload_n hx hb dX11_needDigits_42 rfl (lv_at hl 2 rfl) ?_
            refine lv_bipush (v := 10) hx hb dX11_needDigits_43 (by decide) ?_
            refine lv_idiv hx hb dX11_needDigits_45 (by decide) ?_
            refine lv_istore_n (lv' := [(3, .int ((((((x0 / 10) / 10) / 10) / 10) / 10) / 10)), (4, .int 0), (5, .int 5), (0, .int x0), (1, .int 6), (2, .int 4)]) hx hb dX11_needDigits_46 rfl hl (by decide) rfl (fun ls hl => ?_)
            refine lv_iinc (v := 6) (lv' := [(5, .int 6), (3, .int ((((((x0 / 10) / 10) / 10) / 10) / 10) / 10)), (4, .int 0), (0, .int x0), (1, .int 6), (2, .int 4)]) hx hb dX11_needDigits_47 hl (k := 2) rfl (by decide) (by decide) rfl (fun ls hl => ?_)
            refine lv_goto (tgt := 16) hx hb dX11_needDigits_50 (by decide) ?_
            refine lv_iload hx hb dX11_needDigits_16 (lv_at hl 0 rfl) ?_
            refine lv_iload_n hx hb dX11_needDigits_18 rfl (lv_at hl 4 rfl) ?_
            refine lv_icmp_ge (tgt := 53) hx hb dX11_needDigits_19 (by decide) (fun _ => ?_) (fun hc => absurd (by decide) hc)
            refine lv_iload hx hb dX11_needDigits_53 (lv_at hl 2 rfl) ?_
            refine lv_if_eq (tgt := 62) hx hb dX11_needDigits_55 (by decide) (fun _ => ?_) (fun hc => absurd (by decide) hc)
            obtain ⟨sa9, hsa9⟩ := hT.2.2.1 (289, "no such powers") (List.mem_of_getElem? (i := 2) rfl)
            exact vx_throwSW hx hb hlt (own := RX11) (cls := "java/lang/IllegalArgumentException") (text := "no such powers") (names := exn) (ik := 218) (is := 289) (ic := 222) (sa := sa9) hown (by decide +kernel) exn_fit (hts (.classLink RX11 218 "java/lang/IllegalArgumentException") (List.mem_of_getElem? (i := 1) rfl)) (hts (.initialized "java/lang/IllegalArgumentException") (List.mem_of_getElem? (i := 2) rfl)) hsa9 (vx_hat (fun w h => hts w (List.mem_cons_of_mem _ (List.mem_append_right _ (List.mem_append_left _ h)))) tb_IAE (tc_IAE hT)) tg_IAE hT.1 hT.2.1 hS (by rw [hml]; exact hl.1) dX11_needDigits_62 dX11_needDigits_65 dX11_needDigits_66 dX11_needDigits_69 dX11_needDigits_72 (fun x hx9 => (hnt x hx9).elim) (Nat.le_of_ble_eq_true rfl) (Nat.le_of_ble_eq_true rfl) (Nat.le_of_ble_eq_true rfl) (Nat.le_of_ble_eq_true rfl) hlocks (fun t9 hW9 hz9 hk9 => ⟨(), (fun h9 => h9.2.2.2.2.1 hc_5), rfl, Nat.le_trans hS.1 hz9, fun q9 hq9 hA9 => (hk9 q9 (Nat.lt_of_lt_of_le hq9 hS.1)).trans (hS.2.1 q9 hq9 hA9)⟩) hS.2.2 (Nat.le_of_ble_eq_true rfl) (Nat.le_of_ble_eq_true rfl)
          · skip
            refine lv_iconst (v := 1) hx hb dX11_needDigits_35 (by decide) ?_
            refine lv_goto (tgt := 40) hx hb dX11_needDigits_36 (by decide) ?_
            refine lv_istore (lv' := [(4, .int 1), (5, .int 3), (3, .int (((x0 / 10) / 10) / 10)), (0, .int x0), (1, .int 6), (2, .int 4)]) hx hb dX11_needDigits_40 hl (by decide) rfl (fun ls hl => ?_)
            refine lv_iload_n hx hb dX11_needDigits_42 rfl (lv_at hl 2 rfl) ?_
            refine lv_bipush (v := 10) hx hb dX11_needDigits_43 (by decide) ?_
            refine lv_idiv hx hb dX11_needDigits_45 (by decide) ?_
            refine lv_istore_n (lv' := [(3, .int ((((x0 / 10) / 10) / 10) / 10)), (4, .int 1), (5, .int 3), (0, .int x0), (1, .int 6), (2, .int 4)]) hx hb dX11_needDigits_46 rfl hl (by decide) rfl (fun ls hl => ?_)
            refine lv_iinc (v := 4) (lv' := [(5, .int 4), (3, .int ((((x0 / 10) / 10) / 10) / 10)), (4, .int 1), (0, .int x0), (1, .int 6), (2, .int 4)]) hx hb dX11_needDigits_47 hl (k := 2) rfl (by decide) (by decide) rfl (fun ls hl => ?_)
            refine lv_goto (tgt := 16) hx hb dX11_needDigits_50 (by decide) ?_
            refine lv_iload hx hb dX11_needDigits_16 (lv_at hl 0 rfl) ?_
            refine lv_iload_n hx hb dX11_needDigits_18 rfl (lv_at hl 4 rfl) ?_
            refine lv_icmp_ge (tgt := 53) hx hb dX11_needDigits_19 (by decide) (fun hc => absurd hc (by decide)) (fun _ => ?_)
            refine lv_iload hx hb dX11_needDigits_22 (lv_at hl 2 rfl) ?_
            refine lv_if_eq (tgt := 39) hx hb dX11_needDigits_24 (by decide) (fun hc => absurd hc (by decide)) (fun _ => ?_)
            refine lv_iload_n hx hb dX11_needDigits_27 rfl (lv_at hl 1 rfl) ?_
            refine lv_bipush (v := 10) hx hb dX11_needDigits_28 (by decide) ?_
            refine lv_irem hx hb dX11_needDigits_30 (by decide) ?_
            refine lv_iload_n hx hb dX11_needDigits_31 rfl (lv_at hl 5 rfl) ?_
            refine lv_icmp_gt (tgt := 39) hx hb dX11_needDigits_32 (by decide) (fun hc_6 => ?_) (fun hc_6 => ?_)
            · skip
              refine lv_iconst (v := 0) hx hb dX11_needDigits_39 (by decide) ?_
              refine lv_istore (lv' := [(4, .int 0), (5, .int 4), (3, .int ((((x0 / 10) / 10) / 10) / 10)), (0, .int x0), (1, .int 6), (2, .int 4)]) hx hb dX11_needDigits_40 hl (by decide) rfl (fun ls hl => ?_)
              refine lv_iload_n hx hb dX11_needDigits_42 rfl (lv_at hl 2 rfl) ?_
              refine lv_bipush (v := 10) hx hb dX11_needDigits_43 (by decide) ?_
              refine lv_idiv hx hb dX11_needDigits_45 (by decide) ?_
              refine lv_istore_n (lv' := [(3, .int (((((x0 / 10) / 10) / 10) / 10) / 10)), (4, .int 0), (5, .int 4), (0, .int x0), (1, .int 6), (2, .int 4)]) hx hb dX11_needDigits_46 rfl hl (by decide) rfl (fun ls hl => ?_)
              refine lv_iinc (v := 5) (lv' := [(5, .int 5), (3, .int (((((x0 / 10) / 10) / 10) / 10) / 10)), (4, .int 0), (0, .int x0), (1, .int 6), (2, .int 4)]) hx hb dX11_needDigits_47 hl (k := 2) rfl (by decide) (by decide) rfl (fun ls hl => ?_)
              refine lv_goto (tgt := 16) hx hb dX11_needDigits_50 (by decide) ?_
              refine lv_iload hx hb dX11_needDigits_16 (lv_at hl 0 rfl) ?_
              refine lv_iload_n hx hb dX11_needDigits_18 rfl (lv_at hl 4 rfl) ?_
              refine lv_icmp_ge (tgt := 53) hx hb dX11_needDigits_19 (by decide) (fun hc => absurd hc (by decide)) (fun _ => ?_)
              refine lv_iload hx hb dX11_needDigits_22 (lv_at hl 2 rfl) ?_
              refine lv_if_eq (tgt := 39) hx hb dX11_needDigits_24 (by decide) (fun _ => ?_) (fun hc => absurd (by decide) hc)
              refine lv_iconst (v := 0) hx hb dX11_needDigits_39 (by decide) ?_
              refine lv_istore (lv' := [(4, .int 0), (5, .int 5), (3, .int (((((x0 / 10) / 10) / 10) / 10) / 10)), (0, .int x0), (1, .int 6), (2, .int 4)]) hx hb dX11_needDigits_40 hl (by decide) rfl (fun ls hl => ?_)
              refine lv_iload_n hx hb dX11_needDigits_42 rfl (lv_at hl 2 rfl) ?_
              refine lv_bipush (v := 10) hx hb dX11_needDigits_43 (by decide) ?_
              refine lv_idiv hx hb dX11_needDigits_45 (by decide) ?_
              refine lv_istore_n (lv' := [(3, .int ((((((x0 / 10) / 10) / 10) / 10) / 10) / 10)), (4, .int 0), (5, .int 5), (0, .int x0), (1, .int 6), (2, .int 4)]) hx hb dX11_needDigits_46 rfl hl (by decide) rfl (fun ls hl => ?_)
              refine lv_iinc (v := 6) (lv' := [(5, .int 6), (3, .int ((((((x0 / 10) / 10) / 10) / 10) / 10) / 10)), (4, .int 0), (0, .int x0), (1, .int 6), (2, .int 4)]) hx hb dX11_needDigits_47 hl (k := 2) rfl (by decide) (by decide) rfl (fun ls hl => ?_)
              refine lv_goto (tgt := 16) hx hb dX11_needDigits_50 (by decide) ?_
              refine lv_iload hx hb dX11_needDigits_16 (lv_at hl 0 rfl) ?_
              refine lv_iload_n hx hb dX11_needDigits_18 rfl (lv_at hl 4 rfl) ?_
              refine lv_icmp_ge (tgt := 53) hx hb dX11_needDigits_19 (by decide) (fun _ => ?_) (fun hc => absurd (by decide) hc)
              refine lv_iload hx hb dX11_needDigits_53 (lv_at hl 2 rfl) ?_
              refine lv_if_eq (tgt := 62) hx hb dX11_needDigits_55 (by decide) (fun _ => ?_) (fun hc => absurd (by decide) hc)
              obtain ⟨sa9, hsa9⟩ := hT.2.2.1 (289, "no such powers") (List.mem_of_getElem? (i := 2) rfl)
              exact vx_throwSW hx hb hlt (own := RX11) (cls := "java/lang/IllegalArgumentException") (text := "no such powers") (names := exn) (ik := 218) (is := 289) (ic := 222) (sa := sa9) hown (by decide +kernel) exn_fit (hts (.classLink RX11 218 "java/lang/IllegalArgumentException") (List.mem_of_getElem? (i := 1) rfl)) (hts (.initialized "java/lang/IllegalArgumentException") (List.mem_of_getElem? (i := 2) rfl)) hsa9 (vx_hat (fun w h => hts w (List.mem_cons_of_mem _ (List.mem_append_right _ (List.mem_append_left _ h)))) tb_IAE (tc_IAE hT)) tg_IAE hT.1 hT.2.1 hS (by rw [hml]; exact hl.1) dX11_needDigits_62 dX11_needDigits_65 dX11_needDigits_66 dX11_needDigits_69 dX11_needDigits_72 (fun x hx9 => (hnt x hx9).elim) (Nat.le_of_ble_eq_true rfl) (Nat.le_of_ble_eq_true rfl) (Nat.le_of_ble_eq_true rfl) (Nat.le_of_ble_eq_true rfl) hlocks (fun t9 hW9 hz9 hk9 => ⟨(), (fun h9 => h9.2.2.2.2.2.1 hc_6), rfl, Nat.le_trans hS.1 hz9, fun q9 hq9 hA9 => (hk9 q9 (Nat.lt_of_lt_of_le hq9 hS.1)).trans (hS.2.1 q9 hq9 hA9)⟩) hS.2.2 (Nat.le_of_ble_eq_true rfl) (Nat.le_of_ble_eq_true rfl)
            · skip
              refine lv_iconst (v := 1) hx hb dX11_needDigits_35 (by decide) ?_
              refine lv_goto (tgt := 40) hx hb dX11_needDigits_36 (by decide) ?_
              refine lv_istore (lv' := [(4, .int 1), (5, .int 4), (3, .int ((((x0 / 10) / 10) / 10) / 10)), (0, .int x0), (1, .int 6), (2, .int 4)]) hx hb dX11_needDigits_40 hl (by decide) rfl (fun ls hl => ?_)
              refine lv_iload_n hx hb dX11_needDigits_42 rfl (lv_at hl 2 rfl) ?_
              refine lv_bipush (v := 10) hx hb dX11_needDigits_43 (by decide) ?_
              refine lv_idiv hx hb dX11_needDigits_45 (by decide) ?_
              refine lv_istore_n (lv' := [(3, .int (((((x0 / 10) / 10) / 10) / 10) / 10)), (4, .int 1), (5, .int 4), (0, .int x0), (1, .int 6), (2, .int 4)]) hx hb dX11_needDigits_46 rfl hl (by decide) rfl (fun ls hl => ?_)
              refine lv_iinc (v := 5) (lv' := [(5, .int 5), (3, .int (((((x0 / 10) / 10) / 10) / 10) / 10)), (4, .int 1), (0, .int x0), (1, .int 6), (2, .int 4)]) hx hb dX11_needDigits_47 hl (k := 2) rfl (by decide) (by decide) rfl (fun ls hl => ?_)
              refine lv_goto (tgt := 16) hx hb dX11_needDigits_50 (by decide) ?_
              refine lv_iload hx hb dX11_needDigits_16 (lv_at hl 0 rfl) ?_
              refine lv_iload_n hx hb dX11_needDigits_18 rfl (lv_at hl 4 rfl) ?_
              refine lv_icmp_ge (tgt := 53) hx hb dX11_needDigits_19 (by decide) (fun hc => absurd hc (by decide)) (fun _ => ?_)
              refine lv_iload hx hb dX11_needDigits_22 (lv_at hl 2 rfl) ?_
              refine lv_if_eq (tgt := 39) hx hb dX11_needDigits_24 (by decide) (fun hc => absurd hc (by decide)) (fun _ => ?_)
              refine lv_iload_n hx hb dX11_needDigits_27 rfl (lv_at hl 1 rfl) ?_
              refine lv_bipush (v := 10) hx hb dX11_needDigits_28 (by decide) ?_
              refine lv_irem hx hb dX11_needDigits_30 (by decide) ?_
              refine lv_iload_n hx hb dX11_needDigits_31 rfl (lv_at hl 5 rfl) ?_
              refine lv_icmp_gt (tgt := 39) hx hb dX11_needDigits_32 (by decide) (fun hc_7 => ?_) (fun hc_7 => ?_)
              · skip
                refine lv_iconst (v := 0) hx hb dX11_needDigits_39 (by decide) ?_
                refine lv_istore (lv' := [(4, .int 0), (5, .int 5), (3, .int (((((x0 / 10) / 10) / 10) / 10) / 10)), (0, .int x0), (1, .int 6), (2, .int 4)]) hx hb dX11_needDigits_40 hl (by decide) rfl (fun ls hl => ?_)
                refine lv_iload_n hx hb dX11_needDigits_42 rfl (lv_at hl 2 rfl) ?_
                refine lv_bipush (v := 10) hx hb dX11_needDigits_43 (by decide) ?_
                refine lv_idiv hx hb dX11_needDigits_45 (by decide) ?_
                refine lv_istore_n (lv' := [(3, .int ((((((x0 / 10) / 10) / 10) / 10) / 10) / 10)), (4, .int 0), (5, .int 5), (0, .int x0), (1, .int 6), (2, .int 4)]) hx hb dX11_needDigits_46 rfl hl (by decide) rfl (fun ls hl => ?_)
                refine lv_iinc (v := 6) (lv' := [(5, .int 6), (3, .int ((((((x0 / 10) / 10) / 10) / 10) / 10) / 10)), (4, .int 0), (0, .int x0), (1, .int 6), (2, .int 4)]) hx hb dX11_needDigits_47 hl (k := 2) rfl (by decide) (by decide) rfl (fun ls hl => ?_)
                refine lv_goto (tgt := 16) hx hb dX11_needDigits_50 (by decide) ?_
                refine lv_iload hx hb dX11_needDigits_16 (lv_at hl 0 rfl) ?_
                refine lv_iload_n hx hb dX11_needDigits_18 rfl (lv_at hl 4 rfl) ?_
                refine lv_icmp_ge (tgt := 53) hx hb dX11_needDigits_19 (by decide) (fun _ => ?_) (fun hc => absurd (by decide) hc)
                refine lv_iload hx hb dX11_needDigits_53 (lv_at hl 2 rfl) ?_
                refine lv_if_eq (tgt := 62) hx hb dX11_needDigits_55 (by decide) (fun _ => ?_) (fun hc => absurd (by decide) hc)
                obtain ⟨sa9, hsa9⟩ := hT.2.2.1 (289, "no such powers") (List.mem_of_getElem? (i := 2) rfl)
                exact vx_throwSW hx hb hlt (own := RX11) (cls := "java/lang/IllegalArgumentException") (text := "no such powers") (names := exn) (ik := 218) (is := 289) (ic := 222) (sa := sa9) hown (by decide +kernel) exn_fit (hts (.classLink RX11 218 "java/lang/IllegalArgumentException") (List.mem_of_getElem? (i := 1) rfl)) (hts (.initialized "java/lang/IllegalArgumentException") (List.mem_of_getElem? (i := 2) rfl)) hsa9 (vx_hat (fun w h => hts w (List.mem_cons_of_mem _ (List.mem_append_right _ (List.mem_append_left _ h)))) tb_IAE (tc_IAE hT)) tg_IAE hT.1 hT.2.1 hS (by rw [hml]; exact hl.1) dX11_needDigits_62 dX11_needDigits_65 dX11_needDigits_66 dX11_needDigits_69 dX11_needDigits_72 (fun x hx9 => (hnt x hx9).elim) (Nat.le_of_ble_eq_true rfl) (Nat.le_of_ble_eq_true rfl) (Nat.le_of_ble_eq_true rfl) (Nat.le_of_ble_eq_true rfl) hlocks (fun t9 hW9 hz9 hk9 => ⟨(), (fun h9 => h9.2.2.2.2.2.2.1 hc_7), rfl, Nat.le_trans hS.1 hz9, fun q9 hq9 hA9 => (hk9 q9 (Nat.lt_of_lt_of_le hq9 hS.1)).trans (hS.2.1 q9 hq9 hA9)⟩) hS.2.2 (Nat.le_of_ble_eq_true rfl) (Nat.le_of_ble_eq_true rfl)
              · skip
                refine lv_iconst (v := 1) hx hb dX11_needDigits_35 (by decide) ?_
                refine lv_goto (tgt := 40) hx hb dX11_needDigits_36 (by decide) ?_
                refine lv_istore (lv' := [(4, .int 1), (5, .int 5), (3, .int (((((x0 / 10) / 10) / 10) / 10) / 10)), (0, .int x0), (1, .int 6), (2, .int 4)]) hx hb dX11_needDigits_40 hl (by decide) rfl (fun ls hl => ?_)
                refine lv_iload_n hx hb dX11_needDigits_42 rfl (lv_at hl 2 rfl) ?_
                refine lv_bipush (v := 10) hx hb dX11_needDigits_43 (by decide) ?_
                refine lv_idiv hx hb dX11_needDigits_45 (by decide) ?_
                refine lv_istore_n (lv' := [(3, .int ((((((x0 / 10) / 10) / 10) / 10) / 10) / 10)), (4, .int 1), (5, .int 5), (0, .int x0), (1, .int 6), (2, .int 4)]) hx hb dX11_needDigits_46 rfl hl (by decide) rfl (fun ls hl => ?_)
                refine lv_iinc (v := 6) (lv' := [(5, .int 6), (3, .int ((((((x0 / 10) / 10) / 10) / 10) / 10) / 10)), (4, .int 1), (0, .int x0), (1, .int 6), (2, .int 4)]) hx hb dX11_needDigits_47 hl (k := 2) rfl (by decide) (by decide) rfl (fun ls hl => ?_)
                refine lv_goto (tgt := 16) hx hb dX11_needDigits_50 (by decide) ?_
                refine lv_iload hx hb dX11_needDigits_16 (lv_at hl 0 rfl) ?_
                refine lv_iload_n hx hb dX11_needDigits_18 rfl (lv_at hl 4 rfl) ?_
                refine lv_icmp_ge (tgt := 53) hx hb dX11_needDigits_19 (by decide) (fun _ => ?_) (fun hc => absurd (by decide) hc)
                refine lv_iload hx hb dX11_needDigits_53 (lv_at hl 2 rfl) ?_
                refine lv_if_eq (tgt := 62) hx hb dX11_needDigits_55 (by decide) (fun hc => absurd hc (by decide)) (fun _ => ?_)
                refine lv_iload_n hx hb dX11_needDigits_58 rfl (lv_at hl 1 rfl) ?_
                refine lv_if_eq (tgt := 73) hx hb dX11_needDigits_59 (by decide) (fun hc_8 => ?_) (fun hc_8 => ?_)
                · skip
                  have hP9 := hP.sub (ws' := []) [] rfl
                  have hD9 := hD.sub (ws' := []) [] (by decide) rfl
                  have hK9 := hK.sub (tys' := []) [] rfl
                  rw [← hAe] at hD9
                  refine W.widen (k := 1) (n := 6) (Nat.le_of_ble_eq_true rfl) (Nat.le_of_ble_eq_true rfl) ?_
                  subst hAe
                  exact vx_ret (W.vret hx hb hr (fun t ht hW => ⟨⟨(), rfl, ⟨hc_1, hc_2, hc_3, hc_4, hc_5, hc_6, hc_7, hc_8⟩, by rw [ht]; exact hP9, va_K.moved hW.alike hK9, hD9⟩, hS.F ht⟩) hS.2.2 dX11_needDigits_73)
                · skip
                  obtain ⟨sa9, hsa9⟩ := hT.2.2.1 (289, "no such powers") (List.mem_of_getElem? (i := 2) rfl)
                  exact vx_throwSW hx hb hlt (own := RX11) (cls := "java/lang/IllegalArgumentException") (text := "no such powers") (names := exn) (ik := 218) (is := 289) (ic := 222) (sa := sa9) hown (by decide +kernel) exn_fit (hts (.classLink RX11 218 "java/lang/IllegalArgumentException") (List.mem_of_getElem? (i := 1) rfl)) (hts (.initialized "java/lang/IllegalArgumentException") (List.mem_of_getElem? (i := 2) rfl)) hsa9 (vx_hat (fun w h => hts w (List.mem_cons_of_mem _ (List.mem_append_right _ (List.mem_append_left _ h)))) tb_IAE (tc_IAE hT)) tg_IAE hT.1 hT.2.1 hS (by rw [hml]; exact hl.1) dX11_needDigits_62 dX11_needDigits_65 dX11_needDigits_66 dX11_needDigits_69 dX11_needDigits_72 (fun x hx9 => (hnt x hx9).elim) (Nat.le_of_ble_eq_true rfl) (Nat.le_of_ble_eq_true rfl) (Nat.le_of_ble_eq_true rfl) (Nat.le_of_ble_eq_true rfl) hlocks (fun t9 hW9 hz9 hk9 => ⟨(), (fun h9 => hc_8 h9.2.2.2.2.2.2.2), rfl, Nat.le_trans hS.1 hz9, fun q9 hq9 hA9 => (hk9 q9 (Nat.lt_of_lt_of_le hq9 hS.1)).trans (hS.2.1 q9 hq9 hA9)⟩) hS.2.2 (Nat.le_of_ble_eq_true rfl) (Nat.le_of_ble_eq_true rfl)
def wv_f_term : List Cond := .code yX11_term cX11_term 2 (some .int) :: ([.methodLink RX11 186 yX11_needDigits, .static yX11_needDigits, .initialized RX11, .fieldLink RX11 50 "MotionSigns" "change" "LMotionSigns$Change;", .methodLink RX11 190 yX11_keyOf, .static yX11_keyOf, .methodLink RX11 194 yX6_at, .instanceMethod yX6_at, .selects RX6 yX6_at yX6_at, .initialized RX6] ++ (wv_f_needDigits ++ (wsX110 ++ (wsX20 ++ (wv_f_keyOf ++ (wv_p_at ++ ([])))))))
theorem gw_f_term : wv_f_term.all goodWord = true := by decide +kernel
theorem in_f_term_X11 : ∀ w ∈ wsX110, w ∈ wv_f_term := fun _ h => List.mem_cons_of_mem _ (List.mem_append_right _ (List.mem_append_right _ (List.mem_append_left _ h)))
theorem in_f_term_X2 : ∀ w ∈ wsX20, w ∈ wv_f_term := fun _ h => List.mem_cons_of_mem _ (List.mem_append_right _ (List.mem_append_right _ (List.mem_append_right _ (List.mem_append_left _ h))))
theorem g_f_term_f_needDigits_186 : GoodIn wv_f_term (va_wsS RX11 186 yX11_needDigits wv_f_needDigits) := goodIn_app (goodIn_of _ (by decide +kernel)) (goodIn_sub (fun _ h => List.mem_cons_of_mem _ (List.mem_append_right _ (List.mem_append_left _ h))) gw_f_needDigits)
theorem g_f_term_f_keyOf_190 : GoodIn wv_f_term (va_wsS RX11 190 yX11_keyOf wv_f_keyOf) := goodIn_app (goodIn_of _ (by decide +kernel)) (goodIn_sub (fun _ h => List.mem_cons_of_mem _ (List.mem_append_right _ (List.mem_append_right _ (List.mem_append_right _ (List.mem_append_right _ (List.mem_append_left _ h)))))) gw_f_keyOf)
theorem g_f_term_p_at_194 : GoodIn wv_f_term (wsV RX11 194 RX6 yX6_at wv_p_at) := goodIn_app (goodIn_of _ (by decide +kernel)) (goodIn_sub (fun _ h => List.mem_cons_of_mem _ (List.mem_append_right _ (List.mem_append_right _ (List.mem_append_right _ (List.mem_append_right _ (List.mem_append_right _ (List.mem_append_left _ h))))))) gw_p_at)
set_option maxHeartbeats 4000000 in
set_option maxRecDepth 100000 in
/-- term -/
theorem c_f_term (l : Launch) (hlt : l.stackTraces = false) (dC : Nat → ClassId) (dI : Nat → Nat → Nat) (h0 : Nat) (qC : Nat) (qr : Nat) (qra : Nat) (qrb : Nat) (k1a : Nat) (k1b : Nat) (x0 : Int32) (fs_h0 : List Value) (fs_qC : List Value) (fs_qr : List Value) (hF_h0 : mF 19 [(7, .ref qC)] fs_h0) (hF_qC : mF 13 [(2, .ref qr), (8, .int 0)] fs_qC) (hF_qr : mF 3 [(0, .ref qra), (1, .ref qrb), (2, .int 0)] fs_qr) (sz : Nat) : vx_Met l yX11_term wv_f_term ({ frames := 7, cells := 1, slots := 6, locals := 115 }) (va_Pc [.ref h0, .int x0] (fun U => U.heap.size = sz ∧ va_P (dC, dI) vwCl [(h0, .inr (11, fs_h0)), (qC, .inr (2, fs_qC)), (qr, .inr (6, fs_qr)), (qra, .inl (k1a, 16, .inr (.inl (fun _ => 0)))), (qrb, .inl (k1b, 16, .inr (.inl (fun _ => 0))))] U.heap ∧ va_K (dC, dI) vwCl [(k1a, .long), (k1b, .long)] U ∧ va_D (fun _ => True) [(h0, .inr (11, fs_h0)), (qC, .inr (2, fs_qC)), (qr, .inr (6, fs_qr)), (qra, .inl (k1a, 16, .inr (.inl (fun _ => 0)))), (qrb, .inl (k1b, 16, .inr (.inl (fun _ => 0))))] ∧ w_N U ∧ w_T (va_A [(h0, .inr (11, fs_h0)), (qC, .inr (2, fs_qC)), (qr, .inr (6, fs_qr)), (qra, .inl (k1a, 16, .inr (.inl (fun _ => 0)))), (qrb, .inl (k1b, 16, .inr (.inl (fun _ => 0))))] sz) U U.heap)) (va_Qi (fun (r : Int32) (_ : Unit) => r = 0 ∧ kDig x0) (fun _ t => va_P (dC, dI) vwCl [] t.heap ∧ va_K (dC, dI) vwCl [] t ∧ va_D (va_A [(h0, .inr (11, fs_h0)), (qC, .inr (2, fs_qC)), (qr, .inr (6, fs_qr)), (qra, .inl (k1a, 16, .inr (.inl (fun _ => 0)))), (qrb, .inl (k1b, 16, .inr (.inl (fun _ => 0))))] sz) []) (va_A [(h0, .inr (11, fs_h0)), (qC, .inr (2, fs_qC)), (qr, .inr (6, fs_qr)), (qra, .inl (k1a, 16, .inr (.inl (fun _ => 0)))), (qrb, .inl (k1b, 16, .inr (.inl (fun _ => 0))))] sz)) (vx_X (fun _ : Unit => ¬ kDig x0) (fun E _ _ => E = "java/lang/IllegalArgumentException") (va_A [(h0, .inr (11, fs_h0)), (qC, .inr (2, fs_qC)), (qr, .inr (6, fs_qr)), (qra, .inl (k1a, 16, .inr (.inl (fun _ => 0)))), (qrb, .inl (k1b, 16, .inr (.inl (fun _ => 0))))] sz)) 1 6 (va_A [(h0, .inr (11, fs_h0)), (qC, .inr (2, fs_qC)), (qr, .inr (6, fs_qr)), (qra, .inl (k1a, 16, .inr (.inl (fun _ => 0)))), (qrb, .inl (k1b, 16, .inr (.inl (fun _ => 0))))] sz) := by
  refine vx_ofW (cc := cX11_term) (maxL := 2) (ret := (some .int)) (by decide) rfl ?_
  intro p e s m args below meth c s₁ B hml hnt hv
  obtain ⟨rfl, hsz, hP, hK, hD0, hN, hT⟩ := hv
  have hx := B.exec
  have hb := B.bytes
  have hr := B.returns
  have hts := atoms_spec (ws := wv_f_term) B.pre
  have hown : s.vm.findClass RX11 = some m.cls := findClass_of_methodNamed B.named
  have hlocks := B.notSynchronized
  subst hsz
  have hD := hD0.self (sz := s.heap.size)
  generalize hAe : va_A [(h0, .inr (11, fs_h0)), (qC, .inr (2, fs_qC)), (qr, .inr (6, fs_qr)), (qra, .inl (k1a, 16, .inr (.inl (fun _ => 0)))), (qrb, .inl (k1b, 16, .inr (.inl (fun _ => 0))))] s.heap.size = A at hD hT ⊢
  have hA : ∀ q : Nat, s.heap.size ≤ q → A q := fun q h => by rw [← hAe]; exact Or.inr h
  obtain ⟨H, hHe, hP, hS⟩ : ∃ H : Heap, H = s.heap ∧ va_P (dC, dI) vwCl [(h0, .inr (11, fs_h0)), (qC, .inr (2, fs_qC)), (qr, .inr (6, fs_qr)), (qra, .inl (k1a, 16, .inr (.inl (fun _ => 0)))), (qrb, .inl (k1b, 16, .inr (.inl (fun _ => 0))))] H ∧ va_S A s.heap H [] := ⟨s.heap, rfl, hP, va_S.rf⟩
  have hl := lv_entry ([.ref h0, .int x0]) (n := 2) (Nat.le_of_ble_eq_true rfl)
  rw [lg_entry_eq]
  generalize (lg_sl ([.ref h0, .int x0]) ++ List.replicate (2 - (lg_sl ([.ref h0, .int x0])).length) Slot.unset).toArray = ls at hl ⊢
  have hl : lv_has ls 2 [(0, .ref h0), (1, .int x0)] := hl
  rw [← hHe]; clear hHe
  refine lv_iload_n hx hb dX11_term_0 rfl (lv_at hl 1 rfl) ?_
  refine lv_bipush (v := 6) hx hb dX11_term_1 (by decide) ?_
  refine lv_iconst (v := 4) hx hb dX11_term_3 (by decide) ?_
  have hPc := hP.sub (ws' := []) [] rfl
  have hDc := hD.sub (ws' := []) [] (by decide) rfl
  have hKc := hK.sub (tys' := []) [] rfl
  have hFc := va_free (wc := []) hD hS hA [] rfl
  refine vx_callv (vx_runS (As := [.int x0, .int 6, .int 4]) (rest := []) ⟨hx, hb, hml, hown, hts⟩ (c_f_needDigits l hlt dC dI x0 H.size) (va_cwS 3 hts g_f_term_f_needDigits_186 rfl rfl rfl hd_X11_needDigits ⟨Nat.le_of_ble_eq_true rfl, Nat.le_of_ble_eq_true rfl⟩) ⟨fun a U g mk q => by obtain ⟨q0, q1, qP, qK, qD, qE0, qE1⟩ := q; exact ⟨q0, q1, qP, va_K.moved (u := U) (U := U.calling g mk a) (Vm.Alike.refl U.vm) qK, qD, w_N.same rfl qE0, w_T.same rfl rfl qE1⟩, fun U hU hW => ⟨rfl, by rw [hU], by rw [hU]; exact hPc, va_K.moved hW.alike hKc, hDc.weaken (fun _ _ _ _ => trivial), w_N.warm hW hN, w_T.go hT hW hS.2.1 hFc hU⟩⟩ rfl rfl hl.1 rfl (lv_room (Nat.le_of_ble_eq_true rfl)) dX11_term_4 ⟨(Nat.le_of_ble_eq_true rfl), (Nat.le_of_ble_eq_true rfl)⟩) hS (fun q _ h => hFc q h) hFc (fun q _ h => hFc q h) (fun E9 ce9 q9 u t H1 locs1 ht hvm hpx hBX hz1 hk1 hS1 hcell9 hv9 hcl9 => ?_) (fun u t H1 locs1 ht hvm hw hB hz1 hk1 hS1 => ?_)
  · skip
    obtain rfl : E9 = "java/lang/IllegalArgumentException" := hBX
    exact vx_out (fun x hx9 => (hnt x hx9).elim) hlocks hcell9 hv9 hcl9 (fun t9 ht9 _ => ⟨(), hpx, rfl, hS1.F ht9⟩) hS1.2.2 (Nat.le_of_ble_eq_true rfl) (Nat.le_of_ble_eq_true rfl)
  · skip
    obtain ⟨hP1, hK1, hD1⟩ := hB
    rw [ht] at hP1
    have hK1 := va_K.moved hvm.symm hK1
    have hJ := va_join (wr := [(h0, .inr (11, fs_h0)), (qC, .inr (2, fs_qC)), (qr, .inr (6, fs_qr)), (qra, .inl (k1a, 16, .inr (.inl (fun _ => 0)))), (qrb, .inl (k1b, 16, .inr (.inl (fun _ => 0))))]) (w1 := []) hP hD [] [0, 1, 2, 3, 4] rfl rfl (by decide) (by decide) hk1 hFc hP1 hD1
    clear hP hD hPc hDc hKc hFc hz1; try clear hk1
    obtain ⟨hP, hD⟩ := hJ
    replace hK := (hK.sub (tys' := [(k1a, .long), (k1b, .long)]) [0, 1] rfl).app (hK1.sub (tys' := []) [] rfl)
    clear hP1 hK1 hD1 hvm ht hS; try clear t
    try clear H
    revert hS1
    intro hS
    generalize H1 = H at hP hS ⊢; try clear H1
    replace hP : va_P (dC, dI) vwCl [(h0, .inr (11, fs_h0)), (qC, .inr (2, fs_qC)), (qr, .inr (6, fs_qr)), (qra, .inl (k1a, 16, .inr (.inl (fun _ => 0)))), (qrb, .inl (k1b, 16, .inr (.inl (fun _ => 0))))] H := hP
    replace hD : va_D A [(h0, .inr (11, fs_h0)), (qC, .inr (2, fs_qC)), (qr, .inr (6, fs_qr)), (qra, .inl (k1a, 16, .inr (.inl (fun _ => 0)))), (qrb, .inl (k1b, 16, .inr (.inl (fun _ => 0))))] := hD
    replace hK : va_K (dC, dI) vwCl [(k1a, .long), (k1b, .long)] s := hK
    have hw_1 : kDig x0 := hw; clear hw
    refine lv_aload_n hx hb dX11_term_7 rfl (lv_at hl 0 rfl) ?_
    refine va_get (D := (dC, dI)) (ci := 11) (v := .ref qC) (C := RX11) (T := TX11) (N := 19) hx hb hts (in_f_term_X11) hown hK hP 0 rfl rfl 7 (by decide) (hts (.fieldLink RX11 50 "MotionSigns" "change" "LMotionSigns$Change;") (List.mem_of_getElem? (i := 4) rfl)) (fun _ h9 => h9) (mF.get hF_h0 0 rfl) dX11_term_8 ?_
    refine va_getN (D := (dC, dI)) (ci := 2) (v := .ref qr) (C := RX2) (T := TX2) (N := 13) hx hb hts (in_f_term_X2) hown hK hP 1 rfl rfl 2 (by decide) (va_Nw.use rfl (hN.2.1 (RX11, 152, RX2, "right", "LMotionSigns$Poly;", RX11) (List.mem_of_getElem? (i := 25) rfl))) (fun _ h9 => h9) (mF.get hF_qC 0 rfl) dX11_term_11 ?_
    refine lv_iload_n hx hb dX11_term_14 rfl (lv_at hl 1 rfl) ?_
    refine lv_bipush (v := 6) hx hb dX11_term_15 (by decide) ?_
    refine lv_iconst (v := 0) hx hb dX11_term_17 (by decide) ?_
    have hPc := hP.sub (ws' := []) [] rfl
    have hDc := hD.sub (ws' := []) [] (by decide) rfl
    have hKc := hK.sub (tys' := []) [] rfl
    have hFc := va_free (wc := []) hD hS hA [] rfl
    refine va_calll (va_runS (As := [.int x0, .int 6, .int 0]) (rest := [.ref qr]) ⟨hx, hb, hml, hown, hts⟩ (c_f_keyOf l dC dI x0 H.size) (va_cwS 3 hts g_f_term_f_keyOf_190 rfl rfl rfl hd_X11_keyOf ⟨Nat.le_of_ble_eq_true rfl, Nat.le_of_ble_eq_true rfl⟩) ⟨fun a U g mk q => by obtain ⟨q0, q1, qP, qK, qD, qE0⟩ := q; exact ⟨q0, q1, qP, va_K.moved (u := U) (U := U.calling g mk a) (Vm.Alike.refl U.vm) qK, qD, w_N.same rfl qE0⟩, fun U hU hW => ⟨rfl, by rw [hU], by rw [hU]; exact hPc, va_K.moved hW.alike hKc, hDc.weaken (fun _ _ _ _ => trivial), w_N.warm hW hN⟩⟩ rfl rfl hl.1 rfl (lv_room (Nat.le_of_ble_eq_true rfl)) dX11_term_18 ⟨(Nat.le_of_ble_eq_true rfl), (Nat.le_of_ble_eq_true rfl)⟩) hS (fun q _ h => hFc q h) hFc (fun r_2 u t H1 locs1 ht hvm hw hB hz1 hk1 hS1 => ?_)
    obtain ⟨hP1, hK1, hD1⟩ := hB
    rw [ht] at hP1
    have hK1 := va_K.moved hvm.symm hK1
    have hJ := va_join (wr := [(h0, .inr (11, fs_h0)), (qC, .inr (2, fs_qC)), (qr, .inr (6, fs_qr)), (qra, .inl (k1a, 16, .inr (.inl (fun _ => 0)))), (qrb, .inl (k1b, 16, .inr (.inl (fun _ => 0))))]) (w1 := []) hP hD [] [0, 1, 2, 3, 4] rfl rfl (by decide) (by decide) hk1 hFc hP1 hD1
    clear hP hD hPc hDc hKc hFc hz1; try clear hk1
    obtain ⟨hP, hD⟩ := hJ
    replace hK := (hK.sub (tys' := [(k1a, .long), (k1b, .long)]) [0, 1] rfl).app (hK1.sub (tys' := []) [] rfl)
    clear hP1 hK1 hD1 hvm ht hS; try clear t
    try clear H
    revert hS1
    intro hS
    generalize H1 = H at hP hS ⊢; try clear H1
    replace hP : va_P (dC, dI) vwCl [(h0, .inr (11, fs_h0)), (qC, .inr (2, fs_qC)), (qr, .inr (6, fs_qr)), (qra, .inl (k1a, 16, .inr (.inl (fun _ => 0)))), (qrb, .inl (k1b, 16, .inr (.inl (fun _ => 0))))] H := hP
    replace hD : va_D A [(h0, .inr (11, fs_h0)), (qC, .inr (2, fs_qC)), (qr, .inr (6, fs_qr)), (qra, .inl (k1a, 16, .inr (.inl (fun _ => 0)))), (qrb, .inl (k1b, 16, .inr (.inl (fun _ => 0))))] := hD
    replace hK : va_K (dC, dI) vwCl [(k1a, .long), (k1b, .long)] s := hK
    have hw_3 : True := hw; clear hw
    have hPc := hP.sub (ws' := [(qr, .inr (6, fs_qr)), (qra, .inl (k1a, 16, .inr (.inl (fun _ => 0)))), (qrb, .inl (k1b, 16, .inr (.inl (fun _ => 0))))]) [2, 3, 4] rfl
    have hDc := hD.sub (ws' := [(qr, .inr (6, fs_qr)), (qra, .inl (k1a, 16, .inr (.inl (fun _ => 0)))), (qrb, .inl (k1b, 16, .inr (.inl (fun _ => 0))))]) [2, 3, 4] (by decide) rfl
    have hKc := hK.sub (tys' := [(k1a, .long), (k1b, .long)]) [0, 1] rfl
    have hFc := va_free (wc := [(qr, .inr (6, fs_qr)), (qra, .inl (k1a, 16, .inr (.inl (fun _ => 0)))), (qrb, .inl (k1b, 16, .inr (.inl (fun _ => 0))))]) hD hS hA [2, 3, 4] rfl
    refine va_calll (va_runV (As := [.long r_2]) (rest := []) ⟨hx, hb, hml, hown, hts⟩ (c_p_at l dC dI qr qra qrb k1a k1b r_2 fs_qr (mF.sub hF_qr [0, 1, 2] rfl) H.size) (cwV 1 hts g_f_term_p_at_194 rfl rfl rfl hv_X6_at ⟨Nat.le_of_ble_eq_true rfl, Nat.le_of_ble_eq_true rfl⟩) ⟨fun a U g mk q => by obtain ⟨q0, q1, qP, qK, qD, qE0⟩ := q; exact ⟨q0, q1, qP, va_K.moved (u := U) (U := U.calling g mk a) (Vm.Alike.refl U.vm) qK, qD, w_N.same rfl qE0⟩, va_recv hKc hPc (ci := 6) (q0 := 0) rfl rfl, fun U hU hW => ⟨rfl, by rw [hU], by rw [hU]; exact hPc, va_K.moved hW.alike hKc, hDc.weaken (fun _ _ _ _ => trivial), w_N.warm hW hN⟩⟩ rfl rfl hl.1 rfl (lv_room (Nat.le_of_ble_eq_true rfl)) dX11_term_21 ⟨(Nat.le_of_ble_eq_true rfl), (Nat.le_of_ble_eq_true rfl)⟩) hS (fun q _ h => hFc q h) hFc (fun r_4 u t H1 locs1 ht hvm hw hB hz1 hk1 hS1 => ?_)
    obtain ⟨hP1, hK1, hD1⟩ := hB
    rw [ht] at hP1
    have hK1 := va_K.moved hvm.symm hK1
    have hJ := va_join (wr := [(h0, .inr (11, fs_h0)), (qC, .inr (2, fs_qC))]) (w1 := [(qr, .inr (6, fs_qr)), (qra, .inl (k1a, 16, .inr (.inl (fun _ => 0)))), (qrb, .inl (k1b, 16, .inr (.inl (fun _ => 0))))]) hP hD [2, 3, 4] [0, 1] rfl rfl (by decide) (by decide) hk1 hFc hP1 hD1
    clear hP hD hPc hDc hKc hFc hz1; try clear hk1
    obtain ⟨hP, hD⟩ := hJ
    replace hK := (hK.sub (tys' := [(k1a, .long), (k1b, .long)]) [0, 1] rfl).app (hK1.sub (tys' := []) [] rfl)
    clear hP1 hK1 hD1 hvm ht hS; try clear t
    try clear H
    revert hS1
    intro hS
    generalize H1 = H at hP hS ⊢; try clear H1
    replace hP : va_P (dC, dI) vwCl [(h0, .inr (11, fs_h0)), (qC, .inr (2, fs_qC)), (qr, .inr (6, fs_qr)), (qra, .inl (k1a, 16, .inr (.inl (fun _ => 0)))), (qrb, .inl (k1b, 16, .inr (.inl (fun _ => 0))))] H := hP
    replace hD : va_D A [(h0, .inr (11, fs_h0)), (qC, .inr (2, fs_qC)), (qr, .inr (6, fs_qr)), (qra, .inl (k1a, 16, .inr (.inl (fun _ => 0)))), (qrb, .inl (k1b, 16, .inr (.inl (fun _ => 0))))] := hD
    replace hK : va_K (dC, dI) vwCl [(k1a, .long), (k1b, .long)] s := hK
    have hw_5 : r_4 = 0 := hw; clear hw
    subst hw_5
    refine lv_l2i (v := 0) hx hb dX11_term_24 (by decide) ?_
    have hP9 := hP.sub (ws' := []) [] rfl
    have hD9 := hD.sub (ws' := []) [] (by decide) rfl
    have hK9 := hK.sub (tys' := []) [] rfl
    rw [← hAe] at hD9
    refine W.widen (k := 1) (n := 6) (Nat.le_of_ble_eq_true rfl) (Nat.le_of_ble_eq_true rfl) ?_
    subst hAe
    exact vx_ret (W.iret (v := 0) hx hb hr (fun t ht hW => ⟨⟨0, (), rfl, ⟨rfl, hw_1⟩, by rw [ht]; exact hP9, va_K.moved hW.alike hK9, hD9⟩, hS.F ht⟩) hS.2.2 dX11_term_25)
def wv_f_takeTape : List Cond := .code yX11_takeTape cX11_takeTape 2 none :: ([.classLink RX11 218 "java/lang/IllegalArgumentException", .initialized "java/lang/IllegalArgumentException", .fieldLink RX11 112 "MotionSigns" "tapeSize" "I"] ++ (wt_IAE ++ (wsX110 ++ ([]))))
theorem gw_f_takeTape : wv_f_takeTape.all goodWord = true := by decide +kernel
theorem in_f_takeTape_X11 : ∀ w ∈ wsX110, w ∈ wv_f_takeTape := fun _ h => List.mem_cons_of_mem _ (List.mem_append_right _ (List.mem_append_right _ (List.mem_append_left _ h)))
set_option maxHeartbeats 4000000 in
set_option maxRecDepth 100000 in
/-- takeTape -/
theorem c_f_takeTape (l : Launch) (hlt : l.stackTraces = false) (dC : Nat → ClassId) (dI : Nat → Nat → Nat) (h0 : Nat) (qR : Nat) (x0 : Int32) (fs_h0 : List Value) (hF_h0 : mF 19 [(1, .int 0), (6, .ref qR), (2, .int (-1))] fs_h0) (sz : Nat) : vx_Met l yX11_takeTape wv_f_takeTape ({ frames := 6, cells := 1, slots := 6, locals := 90 }) (va_Pc [.ref h0, .int x0] (fun U => U.heap.size = sz ∧ va_P (dC, dI) vwCl [(h0, .inr (11, fs_h0))] U.heap ∧ va_K (dC, dI) vwCl [] U ∧ va_D (fun _ => True) [(h0, .inr (11, fs_h0))] ∧ w_N U ∧ w_T (va_A [(h0, .inr (11, fs_h0))] sz) U U.heap)) (va_Qv (fun (_ : Unit) => kTape x0) (fun _ t => ∃ (fs_h02 : List Value), va_P (dC, dI) vwCl [(h0, .inr (11, fs_h02))] t.heap ∧ va_K (dC, dI) vwCl [] t ∧ va_D (va_A [(h0, .inr (11, fs_h0))] sz) [(h0, .inr (11, fs_h02))] ∧ mF 19 [(1, .int 0), (6, .ref qR), (2, .int (-1))] fs_h02) (va_A [(h0, .inr (11, fs_h0))] sz)) (vx_X (fun _ : Unit => ¬ kTape x0) (fun E _ _ => E = "java/lang/IllegalArgumentException") (va_A [(h0, .inr (11, fs_h0))] sz)) 1 6 (va_A [(h0, .inr (11, fs_h0))] sz) := by
  refine vx_ofW (cc := cX11_takeTape) (maxL := 2) (ret := none) (by decide) rfl ?_
  intro p e s m args below meth c s₁ B hml hnt hv
  obtain ⟨rfl, hsz, hP, hK, hD0, hN, hT⟩ := hv
  have hx := B.exec
  have hb := B.bytes
  have hr := B.returns
  have hts := atoms_spec (ws := wv_f_takeTape) B.pre
  have hown : s.vm.findClass RX11 = some m.cls := findClass_of_methodNamed B.named
  have hlocks := B.notSynchronized
  subst hsz
  have hD := hD0.self (sz := s.heap.size)
  generalize hAe : va_A [(h0, .inr (11, fs_h0))] s.heap.size = A at hD hT ⊢
  have hA : ∀ q : Nat, s.heap.size ≤ q → A q := fun q h => by rw [← hAe]; exact Or.inr h
  obtain ⟨H, hHe, hP, hS⟩ : ∃ H : Heap, H = s.heap ∧ va_P (dC, dI) vwCl [(h0, .inr (11, fs_h0))] H ∧ va_S A s.heap H [] := ⟨s.heap, rfl, hP, va_S.rf⟩
  have hl := lv_entry ([.ref h0, .int x0]) (n := 2) (Nat.le_of_ble_eq_true rfl)
  rw [lg_entry_eq]
  generalize (lg_sl ([.ref h0, .int x0]) ++ List.replicate (2 - (lg_sl ([.ref h0, .int x0])).length) Slot.unset).toArray = ls at hl ⊢
  have hl : lv_has ls 2 [(0, .ref h0), (1, .int x0)] := hl
  rw [← hHe]; clear hHe
  refine lv_iload_n hx hb dX11_takeTape_0 rfl (lv_at hl 1 rfl) ?_
  refine lv_if_lt (tgt := 12) hx hb dX11_takeTape_1 (by decide) (fun hc_1 => ?_) (fun hc_1 => ?_)
  · skip
    obtain ⟨sa9, hsa9⟩ := hT.2.2.1 (318, "more than the tape has") (List.mem_of_getElem? (i := 3) rfl)
    exact vx_throwSW hx hb hlt (own := RX11) (cls := "java/lang/IllegalArgumentException") (text := "more than the tape has") (names := exn) (ik := 218) (is := 318) (ic := 222) (sa := sa9) hown (by decide +kernel) exn_fit (hts (.classLink RX11 218 "java/lang/IllegalArgumentException") (List.mem_of_getElem? (i := 1) rfl)) (hts (.initialized "java/lang/IllegalArgumentException") (List.mem_of_getElem? (i := 2) rfl)) hsa9 (vx_hat (fun w h => hts w (List.mem_cons_of_mem _ (List.mem_append_right _ (List.mem_append_left _ h)))) tb_IAE (tc_IAE hT)) tg_IAE hT.1 hT.2.1 hS (by rw [hml]; exact hl.1) dX11_takeTape_12 dX11_takeTape_15 dX11_takeTape_16 dX11_takeTape_19 dX11_takeTape_22 (fun x hx9 => (hnt x hx9).elim) (Nat.le_of_ble_eq_true rfl) (Nat.le_of_ble_eq_true rfl) (Nat.le_of_ble_eq_true rfl) (Nat.le_of_ble_eq_true rfl) hlocks (fun t9 hW9 hz9 hk9 => ⟨(), (fun h9 => h9.1 hc_1), rfl, Nat.le_trans hS.1 hz9, fun q9 hq9 hA9 => (hk9 q9 (Nat.lt_of_lt_of_le hq9 hS.1)).trans (hS.2.1 q9 hq9 hA9)⟩) hS.2.2 (Nat.le_of_ble_eq_true rfl) (Nat.le_of_ble_eq_true rfl)
  · skip
    refine lv_iload_n hx hb dX11_takeTape_4 rfl (lv_at hl 1 rfl) ?_
    refine lv_aload_n hx hb dX11_takeTape_5 rfl (lv_at hl 0 rfl) ?_
    refine va_get (D := (dC, dI)) (ci := 11) (v := .int 0) (C := RX11) (T := TX11) (N := 19) hx hb hts (in_f_takeTape_X11) hown hK hP 0 rfl rfl 1 (by decide) (hts (.fieldLink RX11 112 "MotionSigns" "tapeSize" "I") (List.mem_of_getElem? (i := 3) rfl)) (fun _ h9 => h9) (mF.get hF_h0 0 rfl) dX11_takeTape_6 ?_
    refine lv_icmp_le (tgt := 23) hx hb dX11_takeTape_9 (by decide) (fun hc_2 => ?_) (fun hc_2 => ?_)
    · skip
      refine lv_aload_n hx hb dX11_takeTape_23 rfl (lv_at hl 0 rfl) ?_
      refine lv_iconst (v := 0) hx hb dX11_takeTape_24 (by decide) ?_
      refine va_put (D := (dC, dI)) (ci := 11) (v := .int 0) (ty := .int) (C := RX11) (T := TX11) (N := 19) hx hb hts (in_f_takeTape_X11) tyX11 tyX11_ok nmX11 hown hK hP hD hS 0 rfl rfl 1 (by decide) (hts (.fieldLink RX11 112 "MotionSigns" "tapeSize" "I") (List.mem_of_getElem? (i := 3) rfl)) (fun _ h9 => h9) rfl (tyX11_ok 1 (by decide)) rfl rfl (mF.lt hF_h0 (by decide)) dX11_takeTape_25 ?_
      clear hP hD hS; try clear H
      intro H locs hP hD hS
      have hF0 := mF.sub (L' := [(6, .ref qR), (2, .int (-1))]) hF_h0 [1, 2] rfl
      have hF1 := mF.put hF0 1 (.int 0) (by decide) rfl
      replace hP : va_P (dC, dI) vwCl [(h0, .inr (11, (fs_h0.set 1 (.int 0))))] H := hP
      replace hD : va_D A [(h0, .inr (11, (fs_h0.set 1 (.int 0))))] := hD
      generalize fs_h0.set 1 (.int 0) = fs_3 at hP hD hF1
      replace hF_h0 : mF 19 [(1, .int 0), (6, .ref qR), (2, .int (-1))] fs_3 := hF1
      clear hF1 hF0
      replace hP : va_P (dC, dI) vwCl [(h0, .inr (11, fs_3))] H := hP
      replace hD : va_D A [(h0, .inr (11, fs_3))] := hD
      have hP9 := hP.sub (ws' := [(h0, .inr (11, fs_3))]) [0] rfl
      have hD9 := hD.sub (ws' := [(h0, .inr (11, fs_3))]) [0] (by decide) rfl
      have hK9 := hK.sub (tys' := []) [] rfl
      rw [← hAe] at hD9
      refine W.widen (k := 1) (n := 6) (Nat.le_of_ble_eq_true rfl) (Nat.le_of_ble_eq_true rfl) ?_
      subst hAe
      exact vx_ret (W.vret hx hb hr (fun t ht hW => ⟨⟨(), rfl, ⟨hc_1, hc_2⟩, fs_3, by rw [ht]; exact hP9, va_K.moved hW.alike hK9, hD9, (mF.sub hF_h0 [0, 1, 2] rfl)⟩, hS.F ht⟩) hS.2.2 dX11_takeTape_28)
    · skip
      obtain ⟨sa9, hsa9⟩ := hT.2.2.1 (318, "more than the tape has") (List.mem_of_getElem? (i := 3) rfl)
      exact vx_throwSW hx hb hlt (own := RX11) (cls := "java/lang/IllegalArgumentException") (text := "more than the tape has") (names := exn) (ik := 218) (is := 318) (ic := 222) (sa := sa9) hown (by decide +kernel) exn_fit (hts (.classLink RX11 218 "java/lang/IllegalArgumentException") (List.mem_of_getElem? (i := 1) rfl)) (hts (.initialized "java/lang/IllegalArgumentException") (List.mem_of_getElem? (i := 2) rfl)) hsa9 (vx_hat (fun w h => hts w (List.mem_cons_of_mem _ (List.mem_append_right _ (List.mem_append_left _ h)))) tb_IAE (tc_IAE hT)) tg_IAE hT.1 hT.2.1 hS (by rw [hml]; exact hl.1) dX11_takeTape_12 dX11_takeTape_15 dX11_takeTape_16 dX11_takeTape_19 dX11_takeTape_22 (fun x hx9 => (hnt x hx9).elim) (Nat.le_of_ble_eq_true rfl) (Nat.le_of_ble_eq_true rfl) (Nat.le_of_ble_eq_true rfl) (Nat.le_of_ble_eq_true rfl) hlocks (fun t9 hW9 hz9 hk9 => ⟨(), (fun h9 => hc_2 h9.2), rfl, Nat.le_trans hS.1 hz9, fun q9 hq9 hA9 => (hk9 q9 (Nat.lt_of_lt_of_le hq9 hS.1)).trans (hS.2.1 q9 hq9 hA9)⟩) hS.2.2 (Nat.le_of_ble_eq_true rfl) (Nat.le_of_ble_eq_true rfl)
def wv_j_coder4 : List Cond := .code yJ0_coder_7d493 cJ0_coder_7d493 1 (some .byte) :: ([.fieldLink RJ0 38 "java/lang/String" "COMPACT_STRINGS" "Z", .fieldLink RJ0 15 "java/lang/String" "coder" "B"] ++ ([]))
theorem gw_j_coder4 : wv_j_coder4.all goodWord = true := by decide +kernel
set_option maxHeartbeats 4000000 in
set_option maxRecDepth 100000 in
/-- String.coder of a constant -/
theorem c_j_coder4 (l : Launch) (dC : Nat → ClassId) (dI : Nat → Nat → Nat) (qs : Nat) (vs : Nat) (sz : Nat) : Met l yJ0_coder_7d493 wv_j_coder4 ({ frames := 0, cells := 0, slots := 0, locals := 0 }) (va_Pc [.ref qs] (fun U => U.heap.size = sz ∧ va_P (dC, dI) vwCl [] U.heap ∧ va_K (dC, dI) vwCl [] U ∧ va_D (fun _ => True) [] ∧ w_N U ∧ w_S1 qs vs 4 (va_A [] sz) U U.heap)) (va_Qi (fun (r : Int32) (_ : Unit) => r = 0) (fun _ t => va_P (dC, dI) vwCl [] t.heap ∧ va_K (dC, dI) vwCl [] t ∧ va_D (va_A [] sz) []) (va_A [] sz)) 0 0 (va_A [] sz) := by
  refine Met.ofW (cc := cJ0_coder_7d493) (maxL := 1) (ret := (some .byte)) (by decide) rfl ?_
  intro p e s m args below meth c s₁ B hml hv
  obtain ⟨rfl, hsz, hP, hK, hD0, hN, hW1⟩ := hv
  have hx := B.exec
  have hb := B.bytes
  have hr := B.returns
  have hts := atoms_spec (ws := wv_j_coder4) B.pre
  have hown : s.vm.findClass RJ0 = some m.cls := findClass_of_methodNamed B.named
  have hlocks := B.notSynchronized
  subst hsz
  have hD := hD0.self (sz := s.heap.size)
  generalize hAe : va_A [] s.heap.size = A at hD hW1 ⊢
  have hA : ∀ q : Nat, s.heap.size ≤ q → A q := fun q h => by rw [← hAe]; exact Or.inr h
  obtain ⟨H, hHe, hP, hS⟩ : ∃ H : Heap, H = s.heap ∧ va_P (dC, dI) vwCl [] H ∧ va_S A s.heap H [] := ⟨s.heap, rfl, hP, va_S.rf⟩
  have hl := lv_entry ([.ref qs]) (n := 1) (Nat.le_of_ble_eq_true rfl)
  rw [lg_entry_eq]
  generalize (lg_sl ([.ref qs]) ++ List.replicate (1 - (lg_sl ([.ref qs])).length) Slot.unset).toArray = ls at hl ⊢
  have hl : lv_has ls 1 [(0, .ref qs)] := hl
  rw [← hHe]; clear hHe
  refine va_gets (v := .int 1) hx hb hW1.2.2.2.2 hS hown (hts (.fieldLink RJ0 38 "java/lang/String" "COMPACT_STRINGS" "Z") (List.mem_of_getElem? (i := 1) rfl)) (fun _ h9 => h9) dJ0_coder_7d493_0 ?_
  refine lv_if_eq (tgt := 13) hx hb dJ0_coder_7d493_3 (by decide) (fun hc => absurd hc (by decide)) (fun _ => ?_)
  refine lv_aload_n hx hb dJ0_coder_7d493_6 rfl (lv_at hl 0 rfl) ?_
  refine vk_getf (v := .int 0) hx hb hW1.2.1 hS hown (hts (.fieldLink RJ0 15 "java/lang/String" "coder" "B") (List.mem_of_getElem? (i := 2) rfl)) (fun _ h9 => h9) dJ0_coder_7d493_7 ?_
  refine lv_goto (tgt := 14) hx hb dJ0_coder_7d493_10 (by decide) ?_
  have hP9 := hP.sub (ws' := []) [] rfl
  have hD9 := hD.sub (ws' := []) [] (by decide) rfl
  have hK9 := hK.sub (tys' := []) [] rfl
  rw [← hAe] at hD9
  refine W.widen (k := 0) (n := 0) (Nat.le_of_ble_eq_true rfl) (Nat.le_of_ble_eq_true rfl) ?_
  subst hAe
  exact (W.zret (v := 0) hx hb hr (by decide) (fun t ht hW => ⟨⟨0, (), rfl, rfl, by rw [ht]; exact hP9, va_K.moved hW.alike hK9, hD9⟩, hS.F ht⟩) hS.2.2 dJ0_coder_7d493_14)
def wv_j_length4 : List Cond := .code yJ0_length_8abf5 cJ0_length_8abf5 1 (some .int) :: ([.fieldLink RJ0 9 "java/lang/String" "value" "[B", .methodLink RJ0 335 yJ0_coder_7d493, .instanceMethod yJ0_coder_7d493, .selects RJ0 yJ0_coder_7d493 yJ0_coder_7d493, .initialized RJ0] ++ (wv_j_coder4 ++ ([])))
theorem gw_j_length4 : wv_j_length4.all goodWord = true := by decide +kernel
theorem g_j_length4_j_coder4_335 : GoodIn wv_j_length4 (wsV RJ0 335 RJ0 yJ0_coder_7d493 wv_j_coder4) := goodIn_app (goodIn_of _ (by decide +kernel)) (goodIn_sub (fun _ h => List.mem_cons_of_mem _ (List.mem_append_right _ (List.mem_append_left _ h))) gw_j_coder4)
set_option maxHeartbeats 4000000 in
set_option maxRecDepth 100000 in
/-- String.length of a constant of 4 signs -/
theorem c_j_length4 (l : Launch) (dC : Nat → ClassId) (dI : Nat → Nat → Nat) (qs : Nat) (vs : Nat) (sz : Nat) : Met l yJ0_length_8abf5 wv_j_length4 ({ frames := 1, cells := 0, slots := 0, locals := 20 }) (va_Pc [.ref qs] (fun U => U.heap.size = sz ∧ va_P (dC, dI) vwCl [] U.heap ∧ va_K (dC, dI) vwCl [] U ∧ va_D (fun _ => True) [] ∧ w_N U ∧ w_S1 qs vs 4 (va_A [] sz) U U.heap)) (va_Qi (fun (r : Int32) (_ : Unit) => r = 4) (fun _ t => va_P (dC, dI) vwCl [] t.heap ∧ va_K (dC, dI) vwCl [] t ∧ va_D (va_A [] sz) []) (va_A [] sz)) 0 0 (va_A [] sz) := by
  refine Met.ofW (cc := cJ0_length_8abf5) (maxL := 1) (ret := (some .int)) (by decide) rfl ?_
  intro p e s m args below meth c s₁ B hml hv
  obtain ⟨rfl, hsz, hP, hK, hD0, hN, hW1⟩ := hv
  have hx := B.exec
  have hb := B.bytes
  have hr := B.returns
  have hts := atoms_spec (ws := wv_j_length4) B.pre
  have hown : s.vm.findClass RJ0 = some m.cls := findClass_of_methodNamed B.named
  have hlocks := B.notSynchronized
  subst hsz
  have hD := hD0.self (sz := s.heap.size)
  generalize hAe : va_A [] s.heap.size = A at hD hW1 ⊢
  have hA : ∀ q : Nat, s.heap.size ≤ q → A q := fun q h => by rw [← hAe]; exact Or.inr h
  obtain ⟨H, hHe, hP, hS⟩ : ∃ H : Heap, H = s.heap ∧ va_P (dC, dI) vwCl [] H ∧ va_S A s.heap H [] := ⟨s.heap, rfl, hP, va_S.rf⟩
  have hl := lv_entry ([.ref qs]) (n := 1) (Nat.le_of_ble_eq_true rfl)
  rw [lg_entry_eq]
  generalize (lg_sl ([.ref qs]) ++ List.replicate (1 - (lg_sl ([.ref qs])).length) Slot.unset).toArray = ls at hl ⊢
  have hl : lv_has ls 1 [(0, .ref qs)] := hl
  rw [← hHe]; clear hHe
  refine lv_aload_n hx hb dJ0_length_8abf5_0 rfl (lv_at hl 0 rfl) ?_
  refine vk_getf (v := .ref vs) hx hb hW1.2.2.1 hS hown (hts (.fieldLink RJ0 9 "java/lang/String" "value" "[B") (List.mem_of_getElem? (i := 1) rfl)) (fun _ h9 => h9) dJ0_length_8abf5_1 ?_
  refine va_tlen (v := 4) hx hb hW1.2.2.2.1.choose_spec hS (by decide) dJ0_length_8abf5_4 ?_
  refine lv_aload_n hx hb dJ0_length_8abf5_5 rfl (lv_at hl 0 rfl) ?_
  have hPc := hP.sub (ws' := []) [] rfl
  have hDc := hD.sub (ws' := []) [] (by decide) rfl
  have hKc := hK.sub (tys' := []) [] rfl
  have hFc := va_free (wc := []) hD hS hA [] rfl
  refine va_calli (va_runV (As := []) (rest := [.int 4]) ⟨hx, hb, hml, hown, hts⟩ (c_j_coder4 l dC dI qs vs H.size) (cwV 0 hts g_j_length4_j_coder4_335 rfl rfl rfl hv_J0_coder_7d493 ⟨Nat.le_of_ble_eq_true rfl, Nat.le_of_ble_eq_true rfl⟩) ⟨fun a U g mk q => by obtain ⟨q0, q1, qP, qK, qD, qE0, qE1⟩ := q; exact ⟨q0, q1, qP, va_K.moved (u := U) (U := U.calling g mk a) (Vm.Alike.refl U.vm) qK, qD, w_N.same rfl qE0, w_S1.same rfl rfl qE1⟩, (w_S1.recv hW1 hS), fun U hU hW => ⟨rfl, by rw [hU], by rw [hU]; exact hPc, va_K.moved hW.alike hKc, hDc.weaken (fun _ _ _ _ => trivial), w_N.warm hW hN, w_S1.go hW1 hW hS.2.1 hFc hU⟩⟩ rfl rfl hl.1 rfl (lv_room (Nat.le_of_ble_eq_true rfl)) dJ0_length_8abf5_6 ⟨(Nat.le_of_ble_eq_true rfl), (Nat.le_of_ble_eq_true rfl)⟩) hS (fun q _ h => hFc q h) hFc (fun r_1 u t H1 locs1 ht hvm hw hB hz1 hk1 hS1 => ?_)
  obtain ⟨hP1, hK1, hD1⟩ := hB
  rw [ht] at hP1
  have hK1 := va_K.moved hvm.symm hK1
  have hJ := va_join (wr := []) (w1 := []) hP hD [] [] rfl rfl (by decide) (by decide) hk1 hFc hP1 hD1
  clear hP hD hPc hDc hKc hFc hz1; try clear hk1
  obtain ⟨hP, hD⟩ := hJ
  replace hK := (hK.sub (tys' := []) [] rfl).app (hK1.sub (tys' := []) [] rfl)
  clear hP1 hK1 hD1 hvm ht hS; try clear t
  try clear H
  revert hS1
  intro hS
  generalize H1 = H at hP hS ⊢; try clear H1
  replace hP : va_P (dC, dI) vwCl [] H := hP
  replace hD : va_D A [] := hD
  replace hK : va_K (dC, dI) vwCl [] s := hK
  have hw_2 : r_1 = 0 := hw; clear hw
  subst hw_2
  refine lv_ishr hx hb dJ0_length_8abf5_9 ?_
  refine lv_topi (fun v_3 ev_3 => ?_)
  have ev_3 : v_3 = 4 := ev_3.trans (by decide)
  subst ev_3
  have hP9 := hP.sub (ws' := []) [] rfl
  have hD9 := hD.sub (ws' := []) [] (by decide) rfl
  have hK9 := hK.sub (tys' := []) [] rfl
  rw [← hAe] at hD9
  refine W.widen (k := 0) (n := 0) (Nat.le_of_ble_eq_true rfl) (Nat.le_of_ble_eq_true rfl) ?_
  subst hAe
  exact (W.iret (v := 4) hx hb hr (fun t ht hW => ⟨⟨4, (), rfl, rfl, by rw [ht]; exact hP9, va_K.moved hW.alike hK9, hD9⟩, hS.F ht⟩) hS.2.2 dJ0_length_8abf5_10)
def wv_j_coder5 : List Cond := .code yJ0_coder_7d493 cJ0_coder_7d493 1 (some .byte) :: ([.fieldLink RJ0 38 "java/lang/String" "COMPACT_STRINGS" "Z", .fieldLink RJ0 15 "java/lang/String" "coder" "B"] ++ ([]))
theorem gw_j_coder5 : wv_j_coder5.all goodWord = true := by decide +kernel
set_option maxHeartbeats 4000000 in
set_option maxRecDepth 100000 in
/-- String.coder of a constant -/
theorem c_j_coder5 (l : Launch) (dC : Nat → ClassId) (dI : Nat → Nat → Nat) (qs : Nat) (vs : Nat) (sz : Nat) : Met l yJ0_coder_7d493 wv_j_coder5 ({ frames := 0, cells := 0, slots := 0, locals := 0 }) (va_Pc [.ref qs] (fun U => U.heap.size = sz ∧ va_P (dC, dI) vwCl [] U.heap ∧ va_K (dC, dI) vwCl [] U ∧ va_D (fun _ => True) [] ∧ w_N U ∧ w_S1 qs vs 5 (va_A [] sz) U U.heap)) (va_Qi (fun (r : Int32) (_ : Unit) => r = 0) (fun _ t => va_P (dC, dI) vwCl [] t.heap ∧ va_K (dC, dI) vwCl [] t ∧ va_D (va_A [] sz) []) (va_A [] sz)) 0 0 (va_A [] sz) := by
  refine Met.ofW (cc := cJ0_coder_7d493) (maxL := 1) (ret := (some .byte)) (by decide) rfl ?_
  intro p e s m args below meth c s₁ B hml hv
  obtain ⟨rfl, hsz, hP, hK, hD0, hN, hW1⟩ := hv
  have hx := B.exec
  have hb := B.bytes
  have hr := B.returns
  have hts := atoms_spec (ws := wv_j_coder5) B.pre
  have hown : s.vm.findClass RJ0 = some m.cls := findClass_of_methodNamed B.named
  have hlocks := B.notSynchronized
  subst hsz
  have hD := hD0.self (sz := s.heap.size)
  generalize hAe : va_A [] s.heap.size = A at hD hW1 ⊢
  have hA : ∀ q : Nat, s.heap.size ≤ q → A q := fun q h => by rw [← hAe]; exact Or.inr h
  obtain ⟨H, hHe, hP, hS⟩ : ∃ H : Heap, H = s.heap ∧ va_P (dC, dI) vwCl [] H ∧ va_S A s.heap H [] := ⟨s.heap, rfl, hP, va_S.rf⟩
  have hl := lv_entry ([.ref qs]) (n := 1) (Nat.le_of_ble_eq_true rfl)
  rw [lg_entry_eq]
  generalize (lg_sl ([.ref qs]) ++ List.replicate (1 - (lg_sl ([.ref qs])).length) Slot.unset).toArray = ls at hl ⊢
  have hl : lv_has ls 1 [(0, .ref qs)] := hl
  rw [← hHe]; clear hHe
  refine va_gets (v := .int 1) hx hb hW1.2.2.2.2 hS hown (hts (.fieldLink RJ0 38 "java/lang/String" "COMPACT_STRINGS" "Z") (List.mem_of_getElem? (i := 1) rfl)) (fun _ h9 => h9) dJ0_coder_7d493_0 ?_
  refine lv_if_eq (tgt := 13) hx hb dJ0_coder_7d493_3 (by decide) (fun hc => absurd hc (by decide)) (fun _ => ?_)
  refine lv_aload_n hx hb dJ0_coder_7d493_6 rfl (lv_at hl 0 rfl) ?_
  refine vk_getf (v := .int 0) hx hb hW1.2.1 hS hown (hts (.fieldLink RJ0 15 "java/lang/String" "coder" "B") (List.mem_of_getElem? (i := 2) rfl)) (fun _ h9 => h9) dJ0_coder_7d493_7 ?_
  refine lv_goto (tgt := 14) hx hb dJ0_coder_7d493_10 (by decide) ?_
  have hP9 := hP.sub (ws' := []) [] rfl
  have hD9 := hD.sub (ws' := []) [] (by decide) rfl
  have hK9 := hK.sub (tys' := []) [] rfl
  rw [← hAe] at hD9
  refine W.widen (k := 0) (n := 0) (Nat.le_of_ble_eq_true rfl) (Nat.le_of_ble_eq_true rfl) ?_
  subst hAe
  exact (W.zret (v := 0) hx hb hr (by decide) (fun t ht hW => ⟨⟨0, (), rfl, rfl, by rw [ht]; exact hP9, va_K.moved hW.alike hK9, hD9⟩, hS.F ht⟩) hS.2.2 dJ0_coder_7d493_14)
def wv_j_length5 : List Cond := .code yJ0_length_8abf5 cJ0_length_8abf5 1 (some .int) :: ([.fieldLink RJ0 9 "java/lang/String" "value" "[B", .methodLink RJ0 335 yJ0_coder_7d493, .instanceMethod yJ0_coder_7d493, .selects RJ0 yJ0_coder_7d493 yJ0_coder_7d493, .initialized RJ0] ++ (wv_j_coder5 ++ ([])))
theorem gw_j_length5 : wv_j_length5.all goodWord = true := by decide +kernel
theorem g_j_length5_j_coder5_335 : GoodIn wv_j_length5 (wsV RJ0 335 RJ0 yJ0_coder_7d493 wv_j_coder5) := goodIn_app (goodIn_of _ (by decide +kernel)) (goodIn_sub (fun _ h => List.mem_cons_of_mem _ (List.mem_append_right _ (List.mem_append_left _ h))) gw_j_coder5)
set_option maxHeartbeats 4000000 in
set_option maxRecDepth 100000 in
/-- String.length of a constant of 5 signs -/
theorem c_j_length5 (l : Launch) (dC : Nat → ClassId) (dI : Nat → Nat → Nat) (qs : Nat) (vs : Nat) (sz : Nat) : Met l yJ0_length_8abf5 wv_j_length5 ({ frames := 1, cells := 0, slots := 0, locals := 20 }) (va_Pc [.ref qs] (fun U => U.heap.size = sz ∧ va_P (dC, dI) vwCl [] U.heap ∧ va_K (dC, dI) vwCl [] U ∧ va_D (fun _ => True) [] ∧ w_N U ∧ w_S1 qs vs 5 (va_A [] sz) U U.heap)) (va_Qi (fun (r : Int32) (_ : Unit) => r = 5) (fun _ t => va_P (dC, dI) vwCl [] t.heap ∧ va_K (dC, dI) vwCl [] t ∧ va_D (va_A [] sz) []) (va_A [] sz)) 0 0 (va_A [] sz) := by
  refine Met.ofW (cc := cJ0_length_8abf5) (maxL := 1) (ret := (some .int)) (by decide) rfl ?_
  intro p e s m args below meth c s₁ B hml hv
  obtain ⟨rfl, hsz, hP, hK, hD0, hN, hW1⟩ := hv
  have hx := B.exec
  have hb := B.bytes
  have hr := B.returns
  have hts := atoms_spec (ws := wv_j_length5) B.pre
  have hown : s.vm.findClass RJ0 = some m.cls := findClass_of_methodNamed B.named
  have hlocks := B.notSynchronized
  subst hsz
  have hD := hD0.self (sz := s.heap.size)
  generalize hAe : va_A [] s.heap.size = A at hD hW1 ⊢
  have hA : ∀ q : Nat, s.heap.size ≤ q → A q := fun q h => by rw [← hAe]; exact Or.inr h
  obtain ⟨H, hHe, hP, hS⟩ : ∃ H : Heap, H = s.heap ∧ va_P (dC, dI) vwCl [] H ∧ va_S A s.heap H [] := ⟨s.heap, rfl, hP, va_S.rf⟩
  have hl := lv_entry ([.ref qs]) (n := 1) (Nat.le_of_ble_eq_true rfl)
  rw [lg_entry_eq]
  generalize (lg_sl ([.ref qs]) ++ List.replicate (1 - (lg_sl ([.ref qs])).length) Slot.unset).toArray = ls at hl ⊢
  have hl : lv_has ls 1 [(0, .ref qs)] := hl
  rw [← hHe]; clear hHe
  refine lv_aload_n hx hb dJ0_length_8abf5_0 rfl (lv_at hl 0 rfl) ?_
  refine vk_getf (v := .ref vs) hx hb hW1.2.2.1 hS hown (hts (.fieldLink RJ0 9 "java/lang/String" "value" "[B") (List.mem_of_getElem? (i := 1) rfl)) (fun _ h9 => h9) dJ0_length_8abf5_1 ?_
  refine va_tlen (v := 5) hx hb hW1.2.2.2.1.choose_spec hS (by decide) dJ0_length_8abf5_4 ?_
  refine lv_aload_n hx hb dJ0_length_8abf5_5 rfl (lv_at hl 0 rfl) ?_
  have hPc := hP.sub (ws' := []) [] rfl
  have hDc := hD.sub (ws' := []) [] (by decide) rfl
  have hKc := hK.sub (tys' := []) [] rfl
  have hFc := va_free (wc := []) hD hS hA [] rfl
  refine va_calli (va_runV (As := []) (rest := [.int 5]) ⟨hx, hb, hml, hown, hts⟩ (c_j_coder5 l dC dI qs vs H.size) (cwV 0 hts g_j_length5_j_coder5_335 rfl rfl rfl hv_J0_coder_7d493 ⟨Nat.le_of_ble_eq_true rfl, Nat.le_of_ble_eq_true rfl⟩) ⟨fun a U g mk q => by obtain ⟨q0, q1, qP, qK, qD, qE0, qE1⟩ := q; exact ⟨q0, q1, qP, va_K.moved (u := U) (U := U.calling g mk a) (Vm.Alike.refl U.vm) qK, qD, w_N.same rfl qE0, w_S1.same rfl rfl qE1⟩, (w_S1.recv hW1 hS), fun U hU hW => ⟨rfl, by rw [hU], by rw [hU]; exact hPc, va_K.moved hW.alike hKc, hDc.weaken (fun _ _ _ _ => trivial), w_N.warm hW hN, w_S1.go hW1 hW hS.2.1 hFc hU⟩⟩ rfl rfl hl.1 rfl (lv_room (Nat.le_of_ble_eq_true rfl)) dJ0_length_8abf5_6 ⟨(Nat.le_of_ble_eq_true rfl), (Nat.le_of_ble_eq_true rfl)⟩) hS (fun q _ h => hFc q h) hFc (fun r_1 u t H1 locs1 ht hvm hw hB hz1 hk1 hS1 => ?_)
  obtain ⟨hP1, hK1, hD1⟩ := hB
  rw [ht] at hP1
  have hK1 := va_K.moved hvm.symm hK1
  have hJ := va_join (wr := []) (w1 := []) hP hD [] [] rfl rfl (by decide) (by decide) hk1 hFc hP1 hD1
  clear hP hD hPc hDc hKc hFc hz1; try clear hk1
  obtain ⟨hP, hD⟩ := hJ
  replace hK := (hK.sub (tys' := []) [] rfl).app (hK1.sub (tys' := []) [] rfl)
  clear hP1 hK1 hD1 hvm ht hS; try clear t
  try clear H
  revert hS1
  intro hS
  generalize H1 = H at hP hS ⊢; try clear H1
  replace hP : va_P (dC, dI) vwCl [] H := hP
  replace hD : va_D A [] := hD
  replace hK : va_K (dC, dI) vwCl [] s := hK
  have hw_2 : r_1 = 0 := hw; clear hw
  subst hw_2
  refine lv_ishr hx hb dJ0_length_8abf5_9 ?_
  refine lv_topi (fun v_3 ev_3 => ?_)
  have ev_3 : v_3 = 5 := ev_3.trans (by decide)
  subst ev_3
  have hP9 := hP.sub (ws' := []) [] rfl
  have hD9 := hD.sub (ws' := []) [] (by decide) rfl
  have hK9 := hK.sub (tys' := []) [] rfl
  rw [← hAe] at hD9
  refine W.widen (k := 0) (n := 0) (Nat.le_of_ble_eq_true rfl) (Nat.le_of_ble_eq_true rfl) ?_
  subst hAe
  exact (W.iret (v := 5) hx hb hr (fun t ht hW => ⟨⟨5, (), rfl, rfl, by rw [ht]; exact hP9, va_K.moved hW.alike hK9, hD9⟩, hS.F ht⟩) hS.2.2 dJ0_length_8abf5_10)
def wv_r_look : List Cond := .code yX7_look cX7_look 1 (some .int) :: ([.fieldLink RX7 80 "MotionSigns$Reader" "at" "I", .fieldLink RX7 110 "MotionSigns$Reader" "length" "I"] ++ (wsX70 ++ ([])))
theorem gw_r_look : wv_r_look.all goodWord = true := by decide +kernel
theorem in_r_look_X7 : ∀ w ∈ wsX70, w ∈ wv_r_look := fun _ h => List.mem_cons_of_mem _ (List.mem_append_right _ (List.mem_append_left _ h))
set_option maxHeartbeats 4000000 in
set_option maxRecDepth 100000 in
/-- look -/
theorem c_r_look (l : Launch) (dC : Nat → ClassId) (dI : Nat → Nat → Nat) (h0 : Nat) (fs_h0 : List Value) (hF_h0 : mF 10 [(5, .int 0), (4, .int 0)] fs_h0) (sz : Nat) : Met l yX7_look wv_r_look ({ frames := 0, cells := 0, slots := 0, locals := 0 }) (va_Pc [.ref h0] (fun U => U.heap.size = sz ∧ va_P (dC, dI) vwCl [(h0, .inr (7, fs_h0))] U.heap ∧ va_K (dC, dI) vwCl [] U ∧ va_D (fun _ => True) [(h0, .inr (7, fs_h0))] ∧ w_N U)) (va_Qi (fun (r : Int32) (_ : Unit) => r = (-1)) (fun _ t => va_P (dC, dI) vwCl [(h0, .inr (7, fs_h0))] t.heap ∧ va_K (dC, dI) vwCl [] t ∧ va_D (va_A [(h0, .inr (7, fs_h0))] sz) [(h0, .inr (7, fs_h0))]) (va_A [(h0, .inr (7, fs_h0))] sz)) 0 0 (va_A [(h0, .inr (7, fs_h0))] sz) := by
  refine Met.ofW (cc := cX7_look) (maxL := 1) (ret := (some .int)) (by decide) rfl ?_
  intro p e s m args below meth c s₁ B hml hv
  obtain ⟨rfl, hsz, hP, hK, hD0, hN⟩ := hv
  have hx := B.exec
  have hb := B.bytes
  have hr := B.returns
  have hts := atoms_spec (ws := wv_r_look) B.pre
  have hown : s.vm.findClass RX7 = some m.cls := findClass_of_methodNamed B.named
  have hlocks := B.notSynchronized
  subst hsz
  have hD := hD0.self (sz := s.heap.size)
  generalize hAe : va_A [(h0, .inr (7, fs_h0))] s.heap.size = A at hD ⊢
  have hA : ∀ q : Nat, s.heap.size ≤ q → A q := fun q h => by rw [← hAe]; exact Or.inr h
  obtain ⟨H, hHe, hP, hS⟩ : ∃ H : Heap, H = s.heap ∧ va_P (dC, dI) vwCl [(h0, .inr (7, fs_h0))] H ∧ va_S A s.heap H [] := ⟨s.heap, rfl, hP, va_S.rf⟩
  have hl := lv_entry ([.ref h0]) (n := 1) (Nat.le_of_ble_eq_true rfl)
  rw [lg_entry_eq]
  generalize (lg_sl ([.ref h0]) ++ List.replicate (1 - (lg_sl ([.ref h0])).length) Slot.unset).toArray = ls at hl ⊢
  have hl : lv_has ls 1 [(0, .ref h0)] := hl
  rw [← hHe]; clear hHe
  refine lv_aload_n hx hb dX7_look_0 rfl (lv_at hl 0 rfl) ?_
  refine va_get (D := (dC, dI)) (ci := 7) (v := .int 0) (C := RX7) (T := TX7) (N := 10) hx hb hts (in_r_look_X7) hown hK hP 0 rfl rfl 5 (by decide) (hts (.fieldLink RX7 80 "MotionSigns$Reader" "at" "I") (List.mem_of_getElem? (i := 1) rfl)) (fun _ h9 => h9) (mF.get hF_h0 0 rfl) dX7_look_1 ?_
  refine lv_if_lt (tgt := 57) hx hb dX7_look_4 (by decide) (fun hc => absurd hc (by decide)) (fun _ => ?_)
  refine lv_aload_n hx hb dX7_look_7 rfl (lv_at hl 0 rfl) ?_
  refine va_get (D := (dC, dI)) (ci := 7) (v := .int 0) (C := RX7) (T := TX7) (N := 10) hx hb hts (in_r_look_X7) hown hK hP 0 rfl rfl 5 (by decide) (hts (.fieldLink RX7 80 "MotionSigns$Reader" "at" "I") (List.mem_of_getElem? (i := 1) rfl)) (fun _ h9 => h9) (mF.get hF_h0 0 rfl) dX7_look_8 ?_
  refine lv_aload_n hx hb dX7_look_11 rfl (lv_at hl 0 rfl) ?_
  refine va_get (D := (dC, dI)) (ci := 7) (v := .int 0) (C := RX7) (T := TX7) (N := 10) hx hb hts (in_r_look_X7) hown hK hP 0 rfl rfl 4 (by decide) (hts (.fieldLink RX7 110 "MotionSigns$Reader" "length" "I") (List.mem_of_getElem? (i := 2) rfl)) (fun _ h9 => h9) (mF.get hF_h0 1 rfl) dX7_look_12 ?_
  refine lv_icmp_ge (tgt := 57) hx hb dX7_look_15 (by decide) (fun _ => ?_) (fun hc => absurd (by decide) hc)
  refine lv_aload_n hx hb dX7_look_57 rfl (lv_at hl 0 rfl) ?_
  refine va_get (D := (dC, dI)) (ci := 7) (v := .int 0) (C := RX7) (T := TX7) (N := 10) hx hb hts (in_r_look_X7) hown hK hP 0 rfl rfl 5 (by decide) (hts (.fieldLink RX7 80 "MotionSigns$Reader" "at" "I") (List.mem_of_getElem? (i := 1) rfl)) (fun _ h9 => h9) (mF.get hF_h0 0 rfl) dX7_look_58 ?_
  refine lv_if_lt (tgt := 103) hx hb dX7_look_61 (by decide) (fun hc => absurd hc (by decide)) (fun _ => ?_)
  refine lv_aload_n hx hb dX7_look_64 rfl (lv_at hl 0 rfl) ?_
  refine va_get (D := (dC, dI)) (ci := 7) (v := .int 0) (C := RX7) (T := TX7) (N := 10) hx hb hts (in_r_look_X7) hown hK hP 0 rfl rfl 5 (by decide) (hts (.fieldLink RX7 80 "MotionSigns$Reader" "at" "I") (List.mem_of_getElem? (i := 1) rfl)) (fun _ h9 => h9) (mF.get hF_h0 0 rfl) dX7_look_65 ?_
  refine lv_aload_n hx hb dX7_look_68 rfl (lv_at hl 0 rfl) ?_
  refine va_get (D := (dC, dI)) (ci := 7) (v := .int 0) (C := RX7) (T := TX7) (N := 10) hx hb hts (in_r_look_X7) hown hK hP 0 rfl rfl 4 (by decide) (hts (.fieldLink RX7 110 "MotionSigns$Reader" "length" "I") (List.mem_of_getElem? (i := 2) rfl)) (fun _ h9 => h9) (mF.get hF_h0 1 rfl) dX7_look_69 ?_
  refine lv_icmp_ge (tgt := 103) hx hb dX7_look_72 (by decide) (fun _ => ?_) (fun hc => absurd (by decide) hc)
  refine lv_iconst (v := -1) hx hb dX7_look_103 (by decide) ?_
  have hP9 := hP.sub (ws' := [(h0, .inr (7, fs_h0))]) [0] rfl
  have hD9 := hD.sub (ws' := [(h0, .inr (7, fs_h0))]) [0] (by decide) rfl
  have hK9 := hK.sub (tys' := []) [] rfl
  rw [← hAe] at hD9
  refine W.widen (k := 0) (n := 0) (Nat.le_of_ble_eq_true rfl) (Nat.le_of_ble_eq_true rfl) ?_
  subst hAe
  exact (W.iret (v := (-1)) hx hb hr (fun t ht hW => ⟨⟨(-1), (), rfl, rfl, by rw [ht]; exact hP9, va_K.moved hW.alike hK9, hD9⟩, hS.F ht⟩) hS.2.2 dX7_look_104)
def wv_r_wordLength : List Cond := .code yX7_wordLength cX7_wordLength 2 (some .int) :: ([.methodLink RX7 72 yX7_look, .instanceMethod yX7_look, .selects RX7 yX7_look yX7_look, .initialized RX7, .fieldLink RX7 80 "MotionSigns$Reader" "at" "I", .fieldLink RX7 110 "MotionSigns$Reader" "length" "I"] ++ (wv_r_look ++ (wsX70 ++ ([]))))
theorem gw_r_wordLength : wv_r_wordLength.all goodWord = true := by decide +kernel
theorem in_r_wordLength_X7 : ∀ w ∈ wsX70, w ∈ wv_r_wordLength := fun _ h => List.mem_cons_of_mem _ (List.mem_append_right _ (List.mem_append_right _ (List.mem_append_left _ h)))
theorem g_r_wordLength_r_look_72 : GoodIn wv_r_wordLength (wsV RX7 72 RX7 yX7_look wv_r_look) := goodIn_app (goodIn_of _ (by decide +kernel)) (goodIn_sub (fun _ h => List.mem_cons_of_mem _ (List.mem_append_right _ (List.mem_append_left _ h))) gw_r_look)
set_option maxHeartbeats 4000000 in
set_option maxRecDepth 100000 in
/-- wordLength -/
theorem c_r_wordLength (l : Launch) (dC : Nat → ClassId) (dI : Nat → Nat → Nat) (h0 : Nat) (fs_h0 : List Value) (hF_h0 : mF 10 [(5, .int 0), (4, .int 0)] fs_h0) (sz : Nat) : Met l yX7_wordLength wv_r_wordLength ({ frames := 1, cells := 0, slots := 0, locals := 20 }) (va_Pc [.ref h0] (fun U => U.heap.size = sz ∧ va_P (dC, dI) vwCl [(h0, .inr (7, fs_h0))] U.heap ∧ va_K (dC, dI) vwCl [] U ∧ va_D (fun _ => True) [(h0, .inr (7, fs_h0))] ∧ w_N U)) (va_Qi (fun (r : Int32) (_ : Unit) => r = 0) (fun _ t => va_P (dC, dI) vwCl [(h0, .inr (7, fs_h0))] t.heap ∧ va_K (dC, dI) vwCl [] t ∧ va_D (va_A [(h0, .inr (7, fs_h0))] sz) [(h0, .inr (7, fs_h0))]) (va_A [(h0, .inr (7, fs_h0))] sz)) 0 0 (va_A [(h0, .inr (7, fs_h0))] sz) := by
  refine Met.ofW (cc := cX7_wordLength) (maxL := 2) (ret := (some .int)) (by decide) rfl ?_
  intro p e s m args below meth c s₁ B hml hv
  obtain ⟨rfl, hsz, hP, hK, hD0, hN⟩ := hv
  have hx := B.exec
  have hb := B.bytes
  have hr := B.returns
  have hts := atoms_spec (ws := wv_r_wordLength) B.pre
  have hown : s.vm.findClass RX7 = some m.cls := findClass_of_methodNamed B.named
  have hlocks := B.notSynchronized
  subst hsz
  have hD := hD0.self (sz := s.heap.size)
  generalize hAe : va_A [(h0, .inr (7, fs_h0))] s.heap.size = A at hD ⊢
  have hA : ∀ q : Nat, s.heap.size ≤ q → A q := fun q h => by rw [← hAe]; exact Or.inr h
  obtain ⟨H, hHe, hP, hS⟩ : ∃ H : Heap, H = s.heap ∧ va_P (dC, dI) vwCl [(h0, .inr (7, fs_h0))] H ∧ va_S A s.heap H [] := ⟨s.heap, rfl, hP, va_S.rf⟩
  have hl := lv_entry ([.ref h0]) (n := 2) (Nat.le_of_ble_eq_true rfl)
  rw [lg_entry_eq]
  generalize (lg_sl ([.ref h0]) ++ List.replicate (2 - (lg_sl ([.ref h0])).length) Slot.unset).toArray = ls at hl ⊢
  have hl : lv_has ls 2 [(0, .ref h0)] := hl
  rw [← hHe]; clear hHe
  refine lv_aload_n hx hb dX7_wordLength_0 rfl (lv_at hl 0 rfl) ?_
  have hPc := hP.sub (ws' := [(h0, .inr (7, fs_h0))]) [0] rfl
  have hDc := hD.sub (ws' := [(h0, .inr (7, fs_h0))]) [0] (by decide) rfl
  have hKc := hK.sub (tys' := []) [] rfl
  have hFc := va_free (wc := [(h0, .inr (7, fs_h0))]) hD hS hA [0] rfl
  refine va_calli (va_runV (As := []) (rest := []) ⟨hx, hb, hml, hown, hts⟩ (c_r_look l dC dI h0 fs_h0 (mF.sub hF_h0 [0, 1] rfl) H.size) (cwV 0 hts g_r_wordLength_r_look_72 rfl rfl rfl hv_X7_look ⟨Nat.le_of_ble_eq_true rfl, Nat.le_of_ble_eq_true rfl⟩) ⟨fun a U g mk q => by obtain ⟨q0, q1, qP, qK, qD, qE0⟩ := q; exact ⟨q0, q1, qP, va_K.moved (u := U) (U := U.calling g mk a) (Vm.Alike.refl U.vm) qK, qD, w_N.same rfl qE0⟩, va_recv hKc hPc (ci := 7) (q0 := 0) rfl rfl, fun U hU hW => ⟨rfl, by rw [hU], by rw [hU]; exact hPc, va_K.moved hW.alike hKc, hDc.weaken (fun _ _ _ _ => trivial), w_N.warm hW hN⟩⟩ rfl rfl hl.1 rfl (lv_room (Nat.le_of_ble_eq_true rfl)) dX7_wordLength_1 ⟨(Nat.le_of_ble_eq_true rfl), (Nat.le_of_ble_eq_true rfl)⟩) hS (fun q _ h => hFc q h) hFc (fun r_1 u t H1 locs1 ht hvm hw hB hz1 hk1 hS1 => ?_)
  obtain ⟨hP1, hK1, hD1⟩ := hB
  rw [ht] at hP1
  have hK1 := va_K.moved hvm.symm hK1
  have hJ := va_join (wr := []) (w1 := [(h0, .inr (7, fs_h0))]) hP hD [0] [] rfl rfl (by decide) (by decide) hk1 hFc hP1 hD1
  clear hP hD hPc hDc hKc hFc hz1; try clear hk1
  obtain ⟨hP, hD⟩ := hJ
  replace hK := (hK.sub (tys' := []) [] rfl).app (hK1.sub (tys' := []) [] rfl)
  clear hP1 hK1 hD1 hvm ht hS; try clear t
  try clear H
  revert hS1
  intro hS
  generalize H1 = H at hP hS ⊢; try clear H1
  replace hP : va_P (dC, dI) vwCl [(h0, .inr (7, fs_h0))] H := hP
  replace hD : va_D A [(h0, .inr (7, fs_h0))] := hD
  replace hK : va_K (dC, dI) vwCl [] s := hK
  have hw_2 : r_1 = (-1) := hw; clear hw
  subst hw_2
  refine lv_pop hx hb dX7_wordLength_4 rfl ?_
  refine lv_iconst (v := 0) hx hb dX7_wordLength_5 (by decide) ?_
  refine lv_istore_n (lv' := [(1, .int 0), (0, .ref h0)]) hx hb dX7_wordLength_6 rfl hl (by decide) rfl (fun ls hl => ?_)
  refine lv_aload_n hx hb dX7_wordLength_7 rfl (lv_at hl 1 rfl) ?_
  refine va_get (D := (dC, dI)) (ci := 7) (v := .int 0) (C := RX7) (T := TX7) (N := 10) hx hb hts (in_r_wordLength_X7) hown hK hP 0 rfl rfl 5 (by decide) (hts (.fieldLink RX7 80 "MotionSigns$Reader" "at" "I") (List.mem_of_getElem? (i := 5) rfl)) (fun _ h9 => h9) (mF.get hF_h0 0 rfl) dX7_wordLength_8 ?_
  refine lv_if_lt (tgt := 64) hx hb dX7_wordLength_11 (by decide) (fun hc => absurd hc (by decide)) (fun _ => ?_)
  refine lv_aload_n hx hb dX7_wordLength_14 rfl (lv_at hl 1 rfl) ?_
  refine va_get (D := (dC, dI)) (ci := 7) (v := .int 0) (C := RX7) (T := TX7) (N := 10) hx hb hts (in_r_wordLength_X7) hown hK hP 0 rfl rfl 5 (by decide) (hts (.fieldLink RX7 80 "MotionSigns$Reader" "at" "I") (List.mem_of_getElem? (i := 5) rfl)) (fun _ h9 => h9) (mF.get hF_h0 0 rfl) dX7_wordLength_15 ?_
  refine lv_iload_n hx hb dX7_wordLength_18 rfl (lv_at hl 0 rfl) ?_
  refine lv_iadd hx hb dX7_wordLength_19 ?_
  refine lv_topi (fun v_3 ev_3 => ?_)
  have ev_3 : v_3 = 0 := ev_3.trans (by decide)
  subst ev_3
  refine lv_aload_n hx hb dX7_wordLength_20 rfl (lv_at hl 1 rfl) ?_
  refine va_get (D := (dC, dI)) (ci := 7) (v := .int 0) (C := RX7) (T := TX7) (N := 10) hx hb hts (in_r_wordLength_X7) hown hK hP 0 rfl rfl 4 (by decide) (hts (.fieldLink RX7 110 "MotionSigns$Reader" "length" "I") (List.mem_of_getElem? (i := 6) rfl)) (fun _ h9 => h9) (mF.get hF_h0 1 rfl) dX7_wordLength_21 ?_
  refine lv_icmp_ge (tgt := 64) hx hb dX7_wordLength_24 (by decide) (fun _ => ?_) (fun hc => absurd (by decide) hc)
  refine lv_iload_n hx hb dX7_wordLength_64 rfl (lv_at hl 0 rfl) ?_
  have hP9 := hP.sub (ws' := [(h0, .inr (7, fs_h0))]) [0] rfl
  have hD9 := hD.sub (ws' := [(h0, .inr (7, fs_h0))]) [0] (by decide) rfl
  have hK9 := hK.sub (tys' := []) [] rfl
  rw [← hAe] at hD9
  refine W.widen (k := 0) (n := 0) (Nat.le_of_ble_eq_true rfl) (Nat.le_of_ble_eq_true rfl) ?_
  subst hAe
  exact (W.iret (v := 0) hx hb hr (fun t ht hW => ⟨⟨0, (), rfl, rfl, by rw [ht]; exact hP9, va_K.moved hW.alike hK9, hD9⟩, hS.F ht⟩) hS.2.2 dX7_wordLength_65)
def wv_r_eatWord4 : List Cond := .code yX7_eatWord cX7_eatWord 4 (some .boolean) :: ([.methodLink RX7 123 yX7_wordLength, .instanceMethod yX7_wordLength, .selects RX7 yX7_wordLength yX7_wordLength, .initialized RX7, .methodLink RX7 126 yJ0_length_8abf5, .instanceMethod yJ0_length_8abf5, .selects RJ0 yJ0_length_8abf5 yJ0_length_8abf5, .initialized RJ0] ++ (wv_r_wordLength ++ (wv_j_length4 ++ ([]))))
theorem gw_r_eatWord4 : wv_r_eatWord4.all goodWord = true := by decide +kernel
theorem g_r_eatWord4_r_wordLength_123 : GoodIn wv_r_eatWord4 (wsV RX7 123 RX7 yX7_wordLength wv_r_wordLength) := goodIn_app (goodIn_of _ (by decide +kernel)) (goodIn_sub (fun _ h => List.mem_cons_of_mem _ (List.mem_append_right _ (List.mem_append_left _ h))) gw_r_wordLength)
theorem g_r_eatWord4_j_length4_126 : GoodIn wv_r_eatWord4 (wsV RX7 126 RJ0 yJ0_length_8abf5 wv_j_length4) := goodIn_app (goodIn_of _ (by decide +kernel)) (goodIn_sub (fun _ h => List.mem_cons_of_mem _ (List.mem_append_right _ (List.mem_append_right _ (List.mem_append_left _ h)))) gw_j_length4)
set_option maxHeartbeats 4000000 in
set_option maxRecDepth 100000 in
/-- a word of 4 signs where the text has none -/
theorem c_r_eatWord4 (l : Launch) (dC : Nat → ClassId) (dI : Nat → Nat → Nat) (h0 : Nat) (qs : Nat) (vs : Nat) (fs_h0 : List Value) (hF_h0 : mF 10 [(5, .int 0), (4, .int 0)] fs_h0) (sz : Nat) : Met l yX7_eatWord wv_r_eatWord4 ({ frames := 2, cells := 0, slots := 0, locals := 41 }) (va_Pc [.ref h0, .ref qs] (fun U => U.heap.size = sz ∧ va_P (dC, dI) vwCl [(h0, .inr (7, fs_h0))] U.heap ∧ va_K (dC, dI) vwCl [] U ∧ va_D (fun _ => True) [(h0, .inr (7, fs_h0))] ∧ w_N U ∧ w_S1 qs vs 4 (va_A [(h0, .inr (7, fs_h0))] sz) U U.heap)) (va_Qi (fun (r : Int32) (_ : Unit) => r = 0) (fun _ t => va_P (dC, dI) vwCl [(h0, .inr (7, fs_h0))] t.heap ∧ va_K (dC, dI) vwCl [] t ∧ va_D (va_A [(h0, .inr (7, fs_h0))] sz) [(h0, .inr (7, fs_h0))]) (va_A [(h0, .inr (7, fs_h0))] sz)) 0 0 (va_A [(h0, .inr (7, fs_h0))] sz) := by
  refine Met.ofW (cc := cX7_eatWord) (maxL := 4) (ret := (some .boolean)) (by decide) rfl ?_
  intro p e s m args below meth c s₁ B hml hv
  obtain ⟨rfl, hsz, hP, hK, hD0, hN, hW1⟩ := hv
  have hx := B.exec
  have hb := B.bytes
  have hr := B.returns
  have hts := atoms_spec (ws := wv_r_eatWord4) B.pre
  have hown : s.vm.findClass RX7 = some m.cls := findClass_of_methodNamed B.named
  have hlocks := B.notSynchronized
  subst hsz
  have hD := hD0.self (sz := s.heap.size)
  generalize hAe : va_A [(h0, .inr (7, fs_h0))] s.heap.size = A at hD hW1 ⊢
  have hA : ∀ q : Nat, s.heap.size ≤ q → A q := fun q h => by rw [← hAe]; exact Or.inr h
  obtain ⟨H, hHe, hP, hS⟩ : ∃ H : Heap, H = s.heap ∧ va_P (dC, dI) vwCl [(h0, .inr (7, fs_h0))] H ∧ va_S A s.heap H [] := ⟨s.heap, rfl, hP, va_S.rf⟩
  have hl := lv_entry ([.ref h0, .ref qs]) (n := 4) (Nat.le_of_ble_eq_true rfl)
  rw [lg_entry_eq]
  generalize (lg_sl ([.ref h0, .ref qs]) ++ List.replicate (4 - (lg_sl ([.ref h0, .ref qs])).length) Slot.unset).toArray = ls at hl ⊢
  have hl : lv_has ls 4 [(0, .ref h0), (1, .ref qs)] := hl
  rw [← hHe]; clear hHe
  refine lv_aload_n hx hb dX7_eatWord_0 rfl (lv_at hl 0 rfl) ?_
  have hPc := hP.sub (ws' := [(h0, .inr (7, fs_h0))]) [0] rfl
  have hDc := hD.sub (ws' := [(h0, .inr (7, fs_h0))]) [0] (by decide) rfl
  have hKc := hK.sub (tys' := []) [] rfl
  have hFc := va_free (wc := [(h0, .inr (7, fs_h0))]) hD hS hA [0] rfl
  refine va_calli (va_runV (As := []) (rest := []) ⟨hx, hb, hml, hown, hts⟩ (c_r_wordLength l dC dI h0 fs_h0 (mF.sub hF_h0 [0, 1] rfl) H.size) (cwV 0 hts g_r_eatWord4_r_wordLength_123 rfl rfl rfl hv_X7_wordLength ⟨Nat.le_of_ble_eq_true rfl, Nat.le_of_ble_eq_true rfl⟩) ⟨fun a U g mk q => by obtain ⟨q0, q1, qP, qK, qD, qE0⟩ := q; exact ⟨q0, q1, qP, va_K.moved (u := U) (U := U.calling g mk a) (Vm.Alike.refl U.vm) qK, qD, w_N.same rfl qE0⟩, va_recv hKc hPc (ci := 7) (q0 := 0) rfl rfl, fun U hU hW => ⟨rfl, by rw [hU], by rw [hU]; exact hPc, va_K.moved hW.alike hKc, hDc.weaken (fun _ _ _ _ => trivial), w_N.warm hW hN⟩⟩ rfl rfl hl.1 rfl (lv_room (Nat.le_of_ble_eq_true rfl)) dX7_eatWord_1 ⟨(Nat.le_of_ble_eq_true rfl), (Nat.le_of_ble_eq_true rfl)⟩) hS (fun q _ h => hFc q h) hFc (fun r_1 u t H1 locs1 ht hvm hw hB hz1 hk1 hS1 => ?_)
  obtain ⟨hP1, hK1, hD1⟩ := hB
  rw [ht] at hP1
  have hK1 := va_K.moved hvm.symm hK1
  have hJ := va_join (wr := []) (w1 := [(h0, .inr (7, fs_h0))]) hP hD [0] [] rfl rfl (by decide) (by decide) hk1 hFc hP1 hD1
  clear hP hD hPc hDc hKc hFc hz1; try clear hk1
  obtain ⟨hP, hD⟩ := hJ
  replace hK := (hK.sub (tys' := []) [] rfl).app (hK1.sub (tys' := []) [] rfl)
  clear hP1 hK1 hD1 hvm ht hS; try clear t
  try clear H
  revert hS1
  intro hS
  generalize H1 = H at hP hS ⊢; try clear H1
  replace hP : va_P (dC, dI) vwCl [(h0, .inr (7, fs_h0))] H := hP
  replace hD : va_D A [(h0, .inr (7, fs_h0))] := hD
  replace hK : va_K (dC, dI) vwCl [] s := hK
  have hw_2 : r_1 = 0 := hw; clear hw
  subst hw_2
  refine lv_istore_n (lv' := [(2, .int 0), (0, .ref h0), (1, .ref qs)]) hx hb dX7_eatWord_4 rfl hl (by decide) rfl (fun ls hl => ?_)
  refine lv_iload_n hx hb dX7_eatWord_5 rfl (lv_at hl 0 rfl) ?_
  refine lv_aload_n hx hb dX7_eatWord_6 rfl (lv_at hl 2 rfl) ?_
  have hPc := hP.sub (ws' := []) [] rfl
  have hDc := hD.sub (ws' := []) [] (by decide) rfl
  have hKc := hK.sub (tys' := []) [] rfl
  have hFc := va_free (wc := []) hD hS hA [] rfl
  refine va_calli (va_runV (As := []) (rest := [.int 0]) ⟨hx, hb, hml, hown, hts⟩ (c_j_length4 l dC dI qs vs H.size) (cwV 0 hts g_r_eatWord4_j_length4_126 rfl rfl rfl hv_J0_length_8abf5 ⟨Nat.le_of_ble_eq_true rfl, Nat.le_of_ble_eq_true rfl⟩) ⟨fun a U g mk q => by obtain ⟨q0, q1, qP, qK, qD, qE0, qE1⟩ := q; exact ⟨q0, q1, qP, va_K.moved (u := U) (U := U.calling g mk a) (Vm.Alike.refl U.vm) qK, qD, w_N.same rfl qE0, w_S1.same rfl rfl qE1⟩, (w_S1.recv hW1 hS), fun U hU hW => ⟨rfl, by rw [hU], by rw [hU]; exact hPc, va_K.moved hW.alike hKc, hDc.weaken (fun _ _ _ _ => trivial), w_N.warm hW hN, w_S1.go hW1 hW hS.2.1 hFc hU⟩⟩ rfl rfl hl.1 rfl (lv_room (Nat.le_of_ble_eq_true rfl)) dX7_eatWord_7 ⟨(Nat.le_of_ble_eq_true rfl), (Nat.le_of_ble_eq_true rfl)⟩) hS (fun q _ h => hFc q h) hFc (fun r_3 u t H1 locs1 ht hvm hw hB hz1 hk1 hS1 => ?_)
  obtain ⟨hP1, hK1, hD1⟩ := hB
  rw [ht] at hP1
  have hK1 := va_K.moved hvm.symm hK1
  have hJ := va_join (wr := [(h0, .inr (7, fs_h0))]) (w1 := []) hP hD [] [0] rfl rfl (by decide) (by decide) hk1 hFc hP1 hD1
  clear hP hD hPc hDc hKc hFc hz1; try clear hk1
  obtain ⟨hP, hD⟩ := hJ
  replace hK := (hK.sub (tys' := []) [] rfl).app (hK1.sub (tys' := []) [] rfl)
  clear hP1 hK1 hD1 hvm ht hS; try clear t
  try clear H
  revert hS1
  intro hS
  generalize H1 = H at hP hS ⊢; try clear H1
  replace hP : va_P (dC, dI) vwCl [(h0, .inr (7, fs_h0))] H := hP
  replace hD : va_D A [(h0, .inr (7, fs_h0))] := hD
  replace hK : va_K (dC, dI) vwCl [] s := hK
  have hw_4 : r_3 = 4 := hw; clear hw
  subst hw_4
  refine lv_icmp_eq (tgt := 15) hx hb dX7_eatWord_10 (by decide) (fun hc => absurd hc (by decide)) (fun _ => ?_)
  refine lv_iconst (v := 0) hx hb dX7_eatWord_13 (by decide) ?_
  have hP9 := hP.sub (ws' := [(h0, .inr (7, fs_h0))]) [0] rfl
  have hD9 := hD.sub (ws' := [(h0, .inr (7, fs_h0))]) [0] (by decide) rfl
  have hK9 := hK.sub (tys' := []) [] rfl
  rw [← hAe] at hD9
  refine W.widen (k := 0) (n := 0) (Nat.le_of_ble_eq_true rfl) (Nat.le_of_ble_eq_true rfl) ?_
  subst hAe
  exact (W.zret (v := 0) hx hb hr (by decide) (fun t ht hW => ⟨⟨0, (), rfl, rfl, by rw [ht]; exact hP9, va_K.moved hW.alike hK9, hD9⟩, hS.F ht⟩) hS.2.2 dX7_eatWord_14)
def wv_r_eatWord5 : List Cond := .code yX7_eatWord cX7_eatWord 4 (some .boolean) :: ([.methodLink RX7 123 yX7_wordLength, .instanceMethod yX7_wordLength, .selects RX7 yX7_wordLength yX7_wordLength, .initialized RX7, .methodLink RX7 126 yJ0_length_8abf5, .instanceMethod yJ0_length_8abf5, .selects RJ0 yJ0_length_8abf5 yJ0_length_8abf5, .initialized RJ0] ++ (wv_r_wordLength ++ (wv_j_length5 ++ ([]))))
theorem gw_r_eatWord5 : wv_r_eatWord5.all goodWord = true := by decide +kernel
theorem g_r_eatWord5_r_wordLength_123 : GoodIn wv_r_eatWord5 (wsV RX7 123 RX7 yX7_wordLength wv_r_wordLength) := goodIn_app (goodIn_of _ (by decide +kernel)) (goodIn_sub (fun _ h => List.mem_cons_of_mem _ (List.mem_append_right _ (List.mem_append_left _ h))) gw_r_wordLength)
theorem g_r_eatWord5_j_length5_126 : GoodIn wv_r_eatWord5 (wsV RX7 126 RJ0 yJ0_length_8abf5 wv_j_length5) := goodIn_app (goodIn_of _ (by decide +kernel)) (goodIn_sub (fun _ h => List.mem_cons_of_mem _ (List.mem_append_right _ (List.mem_append_right _ (List.mem_append_left _ h)))) gw_j_length5)
set_option maxHeartbeats 4000000 in
set_option maxRecDepth 100000 in
/-- a word of 5 signs where the text has none -/
theorem c_r_eatWord5 (l : Launch) (dC : Nat → ClassId) (dI : Nat → Nat → Nat) (h0 : Nat) (qs : Nat) (vs : Nat) (fs_h0 : List Value) (hF_h0 : mF 10 [(5, .int 0), (4, .int 0)] fs_h0) (sz : Nat) : Met l yX7_eatWord wv_r_eatWord5 ({ frames := 2, cells := 0, slots := 0, locals := 41 }) (va_Pc [.ref h0, .ref qs] (fun U => U.heap.size = sz ∧ va_P (dC, dI) vwCl [(h0, .inr (7, fs_h0))] U.heap ∧ va_K (dC, dI) vwCl [] U ∧ va_D (fun _ => True) [(h0, .inr (7, fs_h0))] ∧ w_N U ∧ w_S1 qs vs 5 (va_A [(h0, .inr (7, fs_h0))] sz) U U.heap)) (va_Qi (fun (r : Int32) (_ : Unit) => r = 0) (fun _ t => va_P (dC, dI) vwCl [(h0, .inr (7, fs_h0))] t.heap ∧ va_K (dC, dI) vwCl [] t ∧ va_D (va_A [(h0, .inr (7, fs_h0))] sz) [(h0, .inr (7, fs_h0))]) (va_A [(h0, .inr (7, fs_h0))] sz)) 0 0 (va_A [(h0, .inr (7, fs_h0))] sz) := by
  refine Met.ofW (cc := cX7_eatWord) (maxL := 4) (ret := (some .boolean)) (by decide) rfl ?_
  intro p e s m args below meth c s₁ B hml hv
  obtain ⟨rfl, hsz, hP, hK, hD0, hN, hW1⟩ := hv
  have hx := B.exec
  have hb := B.bytes
  have hr := B.returns
  have hts := atoms_spec (ws := wv_r_eatWord5) B.pre
  have hown : s.vm.findClass RX7 = some m.cls := findClass_of_methodNamed B.named
  have hlocks := B.notSynchronized
  subst hsz
  have hD := hD0.self (sz := s.heap.size)
  generalize hAe : va_A [(h0, .inr (7, fs_h0))] s.heap.size = A at hD hW1 ⊢
  have hA : ∀ q : Nat, s.heap.size ≤ q → A q := fun q h => by rw [← hAe]; exact Or.inr h
  obtain ⟨H, hHe, hP, hS⟩ : ∃ H : Heap, H = s.heap ∧ va_P (dC, dI) vwCl [(h0, .inr (7, fs_h0))] H ∧ va_S A s.heap H [] := ⟨s.heap, rfl, hP, va_S.rf⟩
  have hl := lv_entry ([.ref h0, .ref qs]) (n := 4) (Nat.le_of_ble_eq_true rfl)
  rw [lg_entry_eq]
  generalize (lg_sl ([.ref h0, .ref qs]) ++ List.replicate (4 - (lg_sl ([.ref h0, .ref qs])).length) Slot.unset).toArray = ls at hl ⊢
  have hl : lv_has ls 4 [(0, .ref h0), (1, .ref qs)] := hl
  rw [← hHe]; clear hHe
  refine lv_aload_n hx hb dX7_eatWord_0 rfl (lv_at hl 0 rfl) ?_
  have hPc := hP.sub (ws' := [(h0, .inr (7, fs_h0))]) [0] rfl
  have hDc := hD.sub (ws' := [(h0, .inr (7, fs_h0))]) [0] (by decide) rfl
  have hKc := hK.sub (tys' := []) [] rfl
  have hFc := va_free (wc := [(h0, .inr (7, fs_h0))]) hD hS hA [0] rfl
  refine va_calli (va_runV (As := []) (rest := []) ⟨hx, hb, hml, hown, hts⟩ (c_r_wordLength l dC dI h0 fs_h0 (mF.sub hF_h0 [0, 1] rfl) H.size) (cwV 0 hts g_r_eatWord5_r_wordLength_123 rfl rfl rfl hv_X7_wordLength ⟨Nat.le_of_ble_eq_true rfl, Nat.le_of_ble_eq_true rfl⟩) ⟨fun a U g mk q => by obtain ⟨q0, q1, qP, qK, qD, qE0⟩ := q; exact ⟨q0, q1, qP, va_K.moved (u := U) (U := U.calling g mk a) (Vm.Alike.refl U.vm) qK, qD, w_N.same rfl qE0⟩, va_recv hKc hPc (ci := 7) (q0 := 0) rfl rfl, fun U hU hW => ⟨rfl, by rw [hU], by rw [hU]; exact hPc, va_K.moved hW.alike hKc, hDc.weaken (fun _ _ _ _ => trivial), w_N.warm hW hN⟩⟩ rfl rfl hl.1 rfl (lv_room (Nat.le_of_ble_eq_true rfl)) dX7_eatWord_1 ⟨(Nat.le_of_ble_eq_true rfl), (Nat.le_of_ble_eq_true rfl)⟩) hS (fun q _ h => hFc q h) hFc (fun r_1 u t H1 locs1 ht hvm hw hB hz1 hk1 hS1 => ?_)
  obtain ⟨hP1, hK1, hD1⟩ := hB
  rw [ht] at hP1
  have hK1 := va_K.moved hvm.symm hK1
  have hJ := va_join (wr := []) (w1 := [(h0, .inr (7, fs_h0))]) hP hD [0] [] rfl rfl (by decide) (by decide) hk1 hFc hP1 hD1
  clear hP hD hPc hDc hKc hFc hz1; try clear hk1
  obtain ⟨hP, hD⟩ := hJ
  replace hK := (hK.sub (tys' := []) [] rfl).app (hK1.sub (tys' := []) [] rfl)
  clear hP1 hK1 hD1 hvm ht hS; try clear t
  try clear H
  revert hS1
  intro hS
  generalize H1 = H at hP hS ⊢; try clear H1
  replace hP : va_P (dC, dI) vwCl [(h0, .inr (7, fs_h0))] H := hP
  replace hD : va_D A [(h0, .inr (7, fs_h0))] := hD
  replace hK : va_K (dC, dI) vwCl [] s := hK
  have hw_2 : r_1 = 0 := hw; clear hw
  subst hw_2
  refine lv_istore_n (lv' := [(2, .int 0), (0, .ref h0), (1, .ref qs)]) hx hb dX7_eatWord_4 rfl hl (by decide) rfl (fun ls hl => ?_)
  refine lv_iload_n hx hb dX7_eatWord_5 rfl (lv_at hl 0 rfl) ?_
  refine lv_aload_n hx hb dX7_eatWord_6 rfl (lv_at hl 2 rfl) ?_
  have hPc := hP.sub (ws' := []) [] rfl
  have hDc := hD.sub (ws' := []) [] (by decide) rfl
  have hKc := hK.sub (tys' := []) [] rfl
  have hFc := va_free (wc := []) hD hS hA [] rfl
  refine va_calli (va_runV (As := []) (rest := [.int 0]) ⟨hx, hb, hml, hown, hts⟩ (c_j_length5 l dC dI qs vs H.size) (cwV 0 hts g_r_eatWord5_j_length5_126 rfl rfl rfl hv_J0_length_8abf5 ⟨Nat.le_of_ble_eq_true rfl, Nat.le_of_ble_eq_true rfl⟩) ⟨fun a U g mk q => by obtain ⟨q0, q1, qP, qK, qD, qE0, qE1⟩ := q; exact ⟨q0, q1, qP, va_K.moved (u := U) (U := U.calling g mk a) (Vm.Alike.refl U.vm) qK, qD, w_N.same rfl qE0, w_S1.same rfl rfl qE1⟩, (w_S1.recv hW1 hS), fun U hU hW => ⟨rfl, by rw [hU], by rw [hU]; exact hPc, va_K.moved hW.alike hKc, hDc.weaken (fun _ _ _ _ => trivial), w_N.warm hW hN, w_S1.go hW1 hW hS.2.1 hFc hU⟩⟩ rfl rfl hl.1 rfl (lv_room (Nat.le_of_ble_eq_true rfl)) dX7_eatWord_7 ⟨(Nat.le_of_ble_eq_true rfl), (Nat.le_of_ble_eq_true rfl)⟩) hS (fun q _ h => hFc q h) hFc (fun r_3 u t H1 locs1 ht hvm hw hB hz1 hk1 hS1 => ?_)
  obtain ⟨hP1, hK1, hD1⟩ := hB
  rw [ht] at hP1
  have hK1 := va_K.moved hvm.symm hK1
  have hJ := va_join (wr := [(h0, .inr (7, fs_h0))]) (w1 := []) hP hD [] [0] rfl rfl (by decide) (by decide) hk1 hFc hP1 hD1
  clear hP hD hPc hDc hKc hFc hz1; try clear hk1
  obtain ⟨hP, hD⟩ := hJ
  replace hK := (hK.sub (tys' := []) [] rfl).app (hK1.sub (tys' := []) [] rfl)
  clear hP1 hK1 hD1 hvm ht hS; try clear t
  try clear H
  revert hS1
  intro hS
  generalize H1 = H at hP hS ⊢; try clear H1
  replace hP : va_P (dC, dI) vwCl [(h0, .inr (7, fs_h0))] H := hP
  replace hD : va_D A [(h0, .inr (7, fs_h0))] := hD
  replace hK : va_K (dC, dI) vwCl [] s := hK
  have hw_4 : r_3 = 5 := hw; clear hw
  subst hw_4
  refine lv_icmp_eq (tgt := 15) hx hb dX7_eatWord_10 (by decide) (fun hc => absurd hc (by decide)) (fun _ => ?_)
  refine lv_iconst (v := 0) hx hb dX7_eatWord_13 (by decide) ?_
  have hP9 := hP.sub (ws' := [(h0, .inr (7, fs_h0))]) [0] rfl
  have hD9 := hD.sub (ws' := [(h0, .inr (7, fs_h0))]) [0] (by decide) rfl
  have hK9 := hK.sub (tys' := []) [] rfl
  rw [← hAe] at hD9
  refine W.widen (k := 0) (n := 0) (Nat.le_of_ble_eq_true rfl) (Nat.le_of_ble_eq_true rfl) ?_
  subst hAe
  exact (W.zret (v := 0) hx hb hr (by decide) (fun t ht hW => ⟨⟨0, (), rfl, rfl, by rw [ht]; exact hP9, va_K.moved hW.alike hK9, hD9⟩, hS.F ht⟩) hS.2.2 dX7_eatWord_14)
def wv_r_fail : List Cond := .code yX7_fail cX7_fail 2 none :: ([.fieldLink RX7 69 "MotionSigns$Reader" "wrong" "I", .fieldLink RX7 80 "MotionSigns$Reader" "at" "I", .fieldLink RX7 22 "MotionSigns$Reader" "place" "I"] ++ (wsX70 ++ ([])))
theorem gw_r_fail : wv_r_fail.all goodWord = true := by decide +kernel
theorem in_r_fail_X7 : ∀ w ∈ wsX70, w ∈ wv_r_fail := fun _ h => List.mem_cons_of_mem _ (List.mem_append_right _ (List.mem_append_left _ h))
set_option maxHeartbeats 4000000 in
set_option maxRecDepth 100000 in
/-- fail -/
theorem c_r_fail (l : Launch) (dC : Nat → ClassId) (dI : Nat → Nat → Nat) (h0 : Nat) (qt : Nat) (qm : Nat) (qp : Nat) (fs_h0 : List Value) (hF_h0 : mF 10 [(0, .ref qt), (3, .ref qm), (2, .ref qp), (4, .int 0), (5, .int 0), (8, .int 0), (9, .int (-1)), (6, .int 0), (7, .int 0)] fs_h0) (sz : Nat) : Met l yX7_fail wv_r_fail ({ frames := 0, cells := 0, slots := 0, locals := 0 }) (va_Pc [.ref h0, .int 1] (fun U => U.heap.size = sz ∧ va_P (dC, dI) vwCl [(h0, .inr (7, fs_h0))] U.heap ∧ va_K (dC, dI) vwCl [] U ∧ va_D (fun _ => True) [(h0, .inr (7, fs_h0))] ∧ w_N U)) (va_Qv (fun (_ : Unit) => True) (fun _ t => ∃ (fs_h02 : List Value), va_P (dC, dI) vwCl [(h0, .inr (7, fs_h02))] t.heap ∧ va_K (dC, dI) vwCl [] t ∧ va_D (va_A [(h0, .inr (7, fs_h0))] sz) [(h0, .inr (7, fs_h02))] ∧ mF 10 [(0, .ref qt), (3, .ref qm), (2, .ref qp), (4, .int 0), (5, .int 0), (8, .int 1), (9, .int 0), (6, .int 0), (7, .int 0)] fs_h02) (va_A [(h0, .inr (7, fs_h0))] sz)) 0 0 (va_A [(h0, .inr (7, fs_h0))] sz) := by
  refine Met.ofW (cc := cX7_fail) (maxL := 2) (ret := none) (by decide) rfl ?_
  intro p e s m args below meth c s₁ B hml hv
  obtain ⟨rfl, hsz, hP, hK, hD0, hN⟩ := hv
  have hx := B.exec
  have hb := B.bytes
  have hr := B.returns
  have hts := atoms_spec (ws := wv_r_fail) B.pre
  have hown : s.vm.findClass RX7 = some m.cls := findClass_of_methodNamed B.named
  have hlocks := B.notSynchronized
  subst hsz
  have hD := hD0.self (sz := s.heap.size)
  generalize hAe : va_A [(h0, .inr (7, fs_h0))] s.heap.size = A at hD ⊢
  have hA : ∀ q : Nat, s.heap.size ≤ q → A q := fun q h => by rw [← hAe]; exact Or.inr h
  obtain ⟨H, hHe, hP, hS⟩ : ∃ H : Heap, H = s.heap ∧ va_P (dC, dI) vwCl [(h0, .inr (7, fs_h0))] H ∧ va_S A s.heap H [] := ⟨s.heap, rfl, hP, va_S.rf⟩
  have hl := lv_entry ([.ref h0, .int 1]) (n := 2) (Nat.le_of_ble_eq_true rfl)
  rw [lg_entry_eq]
  generalize (lg_sl ([.ref h0, .int 1]) ++ List.replicate (2 - (lg_sl ([.ref h0, .int 1])).length) Slot.unset).toArray = ls at hl ⊢
  have hl : lv_has ls 2 [(0, .ref h0), (1, .int 1)] := hl
  rw [← hHe]; clear hHe
  refine lv_aload_n hx hb dX7_fail_0 rfl (lv_at hl 0 rfl) ?_
  refine va_get (D := (dC, dI)) (ci := 7) (v := .int 0) (C := RX7) (T := TX7) (N := 10) hx hb hts (in_r_fail_X7) hown hK hP 0 rfl rfl 8 (by decide) (hts (.fieldLink RX7 69 "MotionSigns$Reader" "wrong" "I") (List.mem_of_getElem? (i := 1) rfl)) (fun _ h9 => h9) (mF.get hF_h0 5 rfl) dX7_fail_1 ?_
  refine lv_if_ne (tgt := 20) hx hb dX7_fail_4 (by decide) (fun hc => absurd (by decide) hc) (fun _ => ?_)
  refine lv_aload_n hx hb dX7_fail_7 rfl (lv_at hl 0 rfl) ?_
  refine lv_iload_n hx hb dX7_fail_8 rfl (lv_at hl 1 rfl) ?_
  refine va_put (D := (dC, dI)) (ci := 7) (v := .int 1) (ty := .int) (C := RX7) (T := TX7) (N := 10) hx hb hts (in_r_fail_X7) tyX7 tyX7_ok nmX7 hown hK hP hD hS 0 rfl rfl 8 (by decide) (hts (.fieldLink RX7 69 "MotionSigns$Reader" "wrong" "I") (List.mem_of_getElem? (i := 1) rfl)) (fun _ h9 => h9) rfl (tyX7_ok 8 (by decide)) rfl rfl (mF.lt hF_h0 (by decide)) dX7_fail_9 ?_
  clear hP hD hS; try clear H
  intro H locs hP hD hS
  have hF0 := mF.sub (L' := [(0, .ref qt), (3, .ref qm), (2, .ref qp), (4, .int 0), (5, .int 0), (9, .int (-1)), (6, .int 0), (7, .int 0)]) hF_h0 [0, 1, 2, 3, 4, 6, 7, 8] rfl
  have hF1 := mF.put hF0 8 (.int 1) (by decide) rfl
  replace hP : va_P (dC, dI) vwCl [(h0, .inr (7, (fs_h0.set 8 (.int 1))))] H := hP
  replace hD : va_D A [(h0, .inr (7, (fs_h0.set 8 (.int 1))))] := hD
  generalize fs_h0.set 8 (.int 1) = fs_1 at hP hD hF1
  replace hF_h0 : mF 10 [(8, .int 1), (0, .ref qt), (3, .ref qm), (2, .ref qp), (4, .int 0), (5, .int 0), (9, .int (-1)), (6, .int 0), (7, .int 0)] fs_1 := hF1
  clear hF1 hF0
  replace hP : va_P (dC, dI) vwCl [(h0, .inr (7, fs_1))] H := hP
  replace hD : va_D A [(h0, .inr (7, fs_1))] := hD
  refine lv_aload_n hx hb dX7_fail_12 rfl (lv_at hl 0 rfl) ?_
  refine lv_aload_n hx hb dX7_fail_13 rfl (lv_at hl 0 rfl) ?_
  refine va_get (D := (dC, dI)) (ci := 7) (v := .int 0) (C := RX7) (T := TX7) (N := 10) hx hb hts (in_r_fail_X7) hown hK hP 0 rfl rfl 5 (by decide) (hts (.fieldLink RX7 80 "MotionSigns$Reader" "at" "I") (List.mem_of_getElem? (i := 2) rfl)) (fun _ h9 => h9) (mF.get hF_h0 5 rfl) dX7_fail_14 ?_
  refine va_put (D := (dC, dI)) (ci := 7) (v := .int 0) (ty := .int) (C := RX7) (T := TX7) (N := 10) hx hb hts (in_r_fail_X7) tyX7 tyX7_ok nmX7 hown hK hP hD hS 0 rfl rfl 9 (by decide) (hts (.fieldLink RX7 22 "MotionSigns$Reader" "place" "I") (List.mem_of_getElem? (i := 3) rfl)) (fun _ h9 => h9) rfl (tyX7_ok 9 (by decide)) rfl rfl (mF.lt hF_h0 (by decide)) dX7_fail_17 ?_
  clear hP hD hS; try clear H
  intro H locs hP hD hS
  have hF0 := mF.sub (L' := [(8, .int 1), (0, .ref qt), (3, .ref qm), (2, .ref qp), (4, .int 0), (5, .int 0), (6, .int 0), (7, .int 0)]) hF_h0 [0, 1, 2, 3, 4, 5, 7, 8] rfl
  have hF1 := mF.put hF0 9 (.int 0) (by decide) rfl
  replace hP : va_P (dC, dI) vwCl [(h0, .inr (7, (fs_1.set 9 (.int 0))))] H := hP
  replace hD : va_D A [(h0, .inr (7, (fs_1.set 9 (.int 0))))] := hD
  generalize fs_1.set 9 (.int 0) = fs_2 at hP hD hF1
  replace hF_h0 : mF 10 [(9, .int 0), (8, .int 1), (0, .ref qt), (3, .ref qm), (2, .ref qp), (4, .int 0), (5, .int 0), (6, .int 0), (7, .int 0)] fs_2 := hF1
  clear hF1 hF0
  replace hP : va_P (dC, dI) vwCl [(h0, .inr (7, fs_2))] H := hP
  replace hD : va_D A [(h0, .inr (7, fs_2))] := hD
  have hP9 := hP.sub (ws' := [(h0, .inr (7, fs_2))]) [0] rfl
  have hD9 := hD.sub (ws' := [(h0, .inr (7, fs_2))]) [0] (by decide) rfl
  have hK9 := hK.sub (tys' := []) [] rfl
  rw [← hAe] at hD9
  refine W.widen (k := 0) (n := 0) (Nat.le_of_ble_eq_true rfl) (Nat.le_of_ble_eq_true rfl) ?_
  subst hAe
  exact (W.vret hx hb hr (fun t ht hW => ⟨⟨(), rfl, trivial, fs_2, by rw [ht]; exact hP9, va_K.moved hW.alike hK9, hD9, (mF.sub hF_h0 [2, 3, 4, 5, 6, 1, 0, 7, 8] rfl)⟩, hS.F ht⟩) hS.2.2 dX7_fail_20)
def wv_r_start : List Cond := .code yX7_start cX7_start 2 none :: ([.fieldLink RX7 26 "MotionSigns$Reader" "text" "[B", .methodLink RX7 104 Lib.Math.min.name, .static Lib.Math.min.name, .initialized "java/lang/Math", .code Lib.Math.min.name Lib.Math.min.code 2 (some .int), .fieldLink RX7 110 "MotionSigns$Reader" "length" "I", .fieldLink RX7 80 "MotionSigns$Reader" "at" "I", .fieldLink RX7 69 "MotionSigns$Reader" "wrong" "I", .fieldLink RX7 22 "MotionSigns$Reader" "place" "I", .fieldLink RX7 18 "MotionSigns$Reader" "made" "LMotionSigns$Poly;", .methodLink RX7 112 yX6_clear, .instanceMethod yX6_clear, .selects RX6 yX6_clear yX6_clear, .initialized RX6] ++ (wsX70 ++ (wv_p_clear ++ ([]))))
theorem gw_r_start : wv_r_start.all goodWord = true := by decide +kernel
theorem in_r_start_X7 : ∀ w ∈ wsX70, w ∈ wv_r_start := fun _ h => List.mem_cons_of_mem _ (List.mem_append_right _ (List.mem_append_left _ h))
theorem g_r_start_p_clear_112 : GoodIn wv_r_start (wsV RX7 112 RX6 yX6_clear wv_p_clear) := goodIn_app (goodIn_of _ (by decide +kernel)) (goodIn_sub (fun _ h => List.mem_cons_of_mem _ (List.mem_append_right _ (List.mem_append_right _ (List.mem_append_left _ h)))) gw_p_clear)
set_option maxHeartbeats 4000000 in
set_option maxRecDepth 100000 in
/-- start -/
theorem c_r_start (l : Launch) (dC : Nat → ClassId) (dI : Nat → Nat → Nat) (h0 : Nat) (qt : Nat) (qm : Nat) (qp : Nat) (kt : Nat) (qma : Nat) (qmb : Nat) (ft : Nat → Int32) (fs_h0 : List Value) (fs_qm : List Value) (hF_h0 : mF 10 [(0, .ref qt), (3, .ref qm), (2, .ref qp), (4, .int 0), (5, .int 0), (8, .int 0), (9, .int (-1)), (6, .int 0), (7, .int 0)] fs_h0) (hF_qm : mF 3 [(0, .ref qma), (1, .ref qmb), (2, .int 0)] fs_qm) (sz : Nat) : Met l yX7_start wv_r_start ({ frames := 1, cells := 0, slots := 0, locals := 20 }) (va_Pc [.ref h0, .int 0] (fun U => U.heap.size = sz ∧ va_P (dC, dI) vwCl [(h0, .inr (7, fs_h0)), (qt, .inl (kt, 200, .inl ft)), (qm, .inr (6, fs_qm))] U.heap ∧ va_K (dC, dI) vwCl [(kt, .byte)] U ∧ va_D (fun _ => True) [(h0, .inr (7, fs_h0)), (qt, .inl (kt, 200, .inl ft)), (qm, .inr (6, fs_qm))] ∧ w_N U)) (va_Qv (fun (_ : Unit) => True) (fun _ t => ∃ (fs_h02 : List Value) (fs_qm2 : List Value), va_P (dC, dI) vwCl [(h0, .inr (7, fs_h02)), (qt, .inl (kt, 200, .inl ft)), (qm, .inr (6, fs_qm2))] t.heap ∧ va_K (dC, dI) vwCl [(kt, .byte)] t ∧ va_D (va_A [(h0, .inr (7, fs_h0)), (qt, .inl (kt, 200, .inl ft)), (qm, .inr (6, fs_qm))] sz) [(h0, .inr (7, fs_h02)), (qt, .inl (kt, 200, .inl ft)), (qm, .inr (6, fs_qm2))] ∧ mF 10 [(0, .ref qt), (3, .ref qm), (2, .ref qp), (4, .int 0), (5, .int 0), (8, .int 0), (9, .int (-1)), (6, .int 0), (7, .int 0)] fs_h02 ∧ mF 3 [(0, .ref qma), (1, .ref qmb), (2, .int 0)] fs_qm2) (va_A [(h0, .inr (7, fs_h0)), (qt, .inl (kt, 200, .inl ft)), (qm, .inr (6, fs_qm))] sz)) 0 0 (va_A [(h0, .inr (7, fs_h0)), (qt, .inl (kt, 200, .inl ft)), (qm, .inr (6, fs_qm))] sz) := by
  refine Met.ofW (cc := cX7_start) (maxL := 2) (ret := none) (by decide) rfl ?_
  intro p e s m args below meth c s₁ B hml hv
  obtain ⟨rfl, hsz, hP, hK, hD0, hN⟩ := hv
  have hx := B.exec
  have hb := B.bytes
  have hr := B.returns
  have hts := atoms_spec (ws := wv_r_start) B.pre
  have hown : s.vm.findClass RX7 = some m.cls := findClass_of_methodNamed B.named
  have hlocks := B.notSynchronized
  subst hsz
  have hD := hD0.self (sz := s.heap.size)
  generalize hAe : va_A [(h0, .inr (7, fs_h0)), (qt, .inl (kt, 200, .inl ft)), (qm, .inr (6, fs_qm))] s.heap.size = A at hD ⊢
  have hA : ∀ q : Nat, s.heap.size ≤ q → A q := fun q h => by rw [← hAe]; exact Or.inr h
  obtain ⟨H, hHe, hP, hS⟩ : ∃ H : Heap, H = s.heap ∧ va_P (dC, dI) vwCl [(h0, .inr (7, fs_h0)), (qt, .inl (kt, 200, .inl ft)), (qm, .inr (6, fs_qm))] H ∧ va_S A s.heap H [] := ⟨s.heap, rfl, hP, va_S.rf⟩
  have hl := lv_entry ([.ref h0, .int 0]) (n := 2) (Nat.le_of_ble_eq_true rfl)
  rw [lg_entry_eq]
  generalize (lg_sl ([.ref h0, .int 0]) ++ List.replicate (2 - (lg_sl ([.ref h0, .int 0])).length) Slot.unset).toArray = ls at hl ⊢
  have hl : lv_has ls 2 [(0, .ref h0), (1, .int 0)] := hl
  rw [← hHe]; clear hHe
  refine lv_aload_n hx hb dX7_start_0 rfl (lv_at hl 0 rfl) ?_
  refine lv_iload_n hx hb dX7_start_1 rfl (lv_at hl 1 rfl) ?_
  refine lv_aload_n hx hb dX7_start_2 rfl (lv_at hl 0 rfl) ?_
  refine va_get (D := (dC, dI)) (ci := 7) (v := .ref qt) (C := RX7) (T := TX7) (N := 10) hx hb hts (in_r_start_X7) hown hK hP 0 rfl rfl 0 (by decide) (hts (.fieldLink RX7 26 "MotionSigns$Reader" "text" "[B") (List.mem_of_getElem? (i := 1) rfl)) (fun _ h9 => h9) (mF.get hF_h0 0 rfl) dX7_start_3 ?_
  refine va_alen (v := 200) hx hb hK hP 1 0 rfl rfl rfl dX7_start_6 ?_
  refine va_mmin hx hb (by rw [hml]; exact hl.1.symm) hown (hts (.methodLink RX7 104 Lib.Math.min.name) (List.mem_of_getElem? (i := 2) rfl)) (hts (.static Lib.Math.min.name) (List.mem_of_getElem? (i := 3) rfl)) (hts (.initialized "java/lang/Math") (List.mem_of_getElem? (i := 4) rfl)) (hts (.code Lib.Math.min.name Lib.Math.min.code 2 (some .int)) (List.mem_of_getElem? (i := 5) rfl)) (Nat.le_of_ble_eq_true rfl) (Nat.le_of_ble_eq_true rfl) (Nat.le_of_ble_eq_true rfl) (Nat.le_of_ble_eq_true rfl) dX7_start_7 ?_
  refine lv_topi (fun v_1 ev_1 => ?_)
  have ev_1 : v_1 = 0 := ev_1.trans (by decide)
  subst ev_1
  refine va_put (D := (dC, dI)) (ci := 7) (v := .int 0) (ty := .int) (C := RX7) (T := TX7) (N := 10) hx hb hts (in_r_start_X7) tyX7 tyX7_ok nmX7 hown hK hP hD hS 0 rfl rfl 4 (by decide) (hts (.fieldLink RX7 110 "MotionSigns$Reader" "length" "I") (List.mem_of_getElem? (i := 6) rfl)) (fun _ h9 => h9) rfl (tyX7_ok 4 (by decide)) rfl rfl (mF.lt hF_h0 (by decide)) dX7_start_10 ?_
  clear hP hD hS; try clear H
  intro H locs hP hD hS
  have hF0 := mF.sub (L' := [(0, .ref qt), (3, .ref qm), (2, .ref qp), (5, .int 0), (8, .int 0), (9, .int (-1)), (6, .int 0), (7, .int 0)]) hF_h0 [0, 1, 2, 4, 5, 6, 7, 8] rfl
  have hF1 := mF.put hF0 4 (.int 0) (by decide) rfl
  replace hP : va_P (dC, dI) vwCl [(h0, .inr (7, (fs_h0.set 4 (.int 0)))), (qt, .inl (kt, 200, .inl ft)), (qm, .inr (6, fs_qm))] H := hP
  replace hD : va_D A [(h0, .inr (7, (fs_h0.set 4 (.int 0)))), (qt, .inl (kt, 200, .inl ft)), (qm, .inr (6, fs_qm))] := hD
  generalize fs_h0.set 4 (.int 0) = fs_2 at hP hD hF1
  replace hF_h0 : mF 10 [(4, .int 0), (0, .ref qt), (3, .ref qm), (2, .ref qp), (5, .int 0), (8, .int 0), (9, .int (-1)), (6, .int 0), (7, .int 0)] fs_2 := hF1
  clear hF1 hF0
  replace hP : va_P (dC, dI) vwCl [(h0, .inr (7, fs_2)), (qt, .inl (kt, 200, .inl ft)), (qm, .inr (6, fs_qm))] H := hP
  replace hD : va_D A [(h0, .inr (7, fs_2)), (qt, .inl (kt, 200, .inl ft)), (qm, .inr (6, fs_qm))] := hD
  refine lv_aload_n hx hb dX7_start_13 rfl (lv_at hl 0 rfl) ?_
  refine lv_iconst (v := 0) hx hb dX7_start_14 (by decide) ?_
  refine va_put (D := (dC, dI)) (ci := 7) (v := .int 0) (ty := .int) (C := RX7) (T := TX7) (N := 10) hx hb hts (in_r_start_X7) tyX7 tyX7_ok nmX7 hown hK hP hD hS 0 rfl rfl 5 (by decide) (hts (.fieldLink RX7 80 "MotionSigns$Reader" "at" "I") (List.mem_of_getElem? (i := 7) rfl)) (fun _ h9 => h9) rfl (tyX7_ok 5 (by decide)) rfl rfl (mF.lt hF_h0 (by decide)) dX7_start_15 ?_
  clear hP hD hS; try clear H
  intro H locs hP hD hS
  have hF0 := mF.sub (L' := [(4, .int 0), (0, .ref qt), (3, .ref qm), (2, .ref qp), (8, .int 0), (9, .int (-1)), (6, .int 0), (7, .int 0)]) hF_h0 [0, 1, 2, 3, 5, 6, 7, 8] rfl
  have hF1 := mF.put hF0 5 (.int 0) (by decide) rfl
  replace hP : va_P (dC, dI) vwCl [(h0, .inr (7, (fs_2.set 5 (.int 0)))), (qt, .inl (kt, 200, .inl ft)), (qm, .inr (6, fs_qm))] H := hP
  replace hD : va_D A [(h0, .inr (7, (fs_2.set 5 (.int 0)))), (qt, .inl (kt, 200, .inl ft)), (qm, .inr (6, fs_qm))] := hD
  generalize fs_2.set 5 (.int 0) = fs_3 at hP hD hF1
  replace hF_h0 : mF 10 [(5, .int 0), (4, .int 0), (0, .ref qt), (3, .ref qm), (2, .ref qp), (8, .int 0), (9, .int (-1)), (6, .int 0), (7, .int 0)] fs_3 := hF1
  clear hF1 hF0
  replace hP : va_P (dC, dI) vwCl [(h0, .inr (7, fs_3)), (qt, .inl (kt, 200, .inl ft)), (qm, .inr (6, fs_qm))] H := hP
  replace hD : va_D A [(h0, .inr (7, fs_3)), (qt, .inl (kt, 200, .inl ft)), (qm, .inr (6, fs_qm))] := hD
  refine lv_aload_n hx hb dX7_start_18 rfl (lv_at hl 0 rfl) ?_
  refine lv_iconst (v := 0) hx hb dX7_start_19 (by decide) ?_
  refine va_put (D := (dC, dI)) (ci := 7) (v := .int 0) (ty := .int) (C := RX7) (T := TX7) (N := 10) hx hb hts (in_r_start_X7) tyX7 tyX7_ok nmX7 hown hK hP hD hS 0 rfl rfl 8 (by decide) (hts (.fieldLink RX7 69 "MotionSigns$Reader" "wrong" "I") (List.mem_of_getElem? (i := 8) rfl)) (fun _ h9 => h9) rfl (tyX7_ok 8 (by decide)) rfl rfl (mF.lt hF_h0 (by decide)) dX7_start_20 ?_
  clear hP hD hS; try clear H
  intro H locs hP hD hS
  have hF0 := mF.sub (L' := [(5, .int 0), (4, .int 0), (0, .ref qt), (3, .ref qm), (2, .ref qp), (9, .int (-1)), (6, .int 0), (7, .int 0)]) hF_h0 [0, 1, 2, 3, 4, 6, 7, 8] rfl
  have hF1 := mF.put hF0 8 (.int 0) (by decide) rfl
  replace hP : va_P (dC, dI) vwCl [(h0, .inr (7, (fs_3.set 8 (.int 0)))), (qt, .inl (kt, 200, .inl ft)), (qm, .inr (6, fs_qm))] H := hP
  replace hD : va_D A [(h0, .inr (7, (fs_3.set 8 (.int 0)))), (qt, .inl (kt, 200, .inl ft)), (qm, .inr (6, fs_qm))] := hD
  generalize fs_3.set 8 (.int 0) = fs_4 at hP hD hF1
  replace hF_h0 : mF 10 [(8, .int 0), (5, .int 0), (4, .int 0), (0, .ref qt), (3, .ref qm), (2, .ref qp), (9, .int (-1)), (6, .int 0), (7, .int 0)] fs_4 := hF1
  clear hF1 hF0
  replace hP : va_P (dC, dI) vwCl [(h0, .inr (7, fs_4)), (qt, .inl (kt, 200, .inl ft)), (qm, .inr (6, fs_qm))] H := hP
  replace hD : va_D A [(h0, .inr (7, fs_4)), (qt, .inl (kt, 200, .inl ft)), (qm, .inr (6, fs_qm))] := hD
  refine lv_aload_n hx hb dX7_start_23 rfl (lv_at hl 0 rfl) ?_
  refine lv_iconst (v := -1) hx hb dX7_start_24 (by decide) ?_
  refine va_put (D := (dC, dI)) (ci := 7) (v := .int (-1)) (ty := .int) (C := RX7) (T := TX7) (N := 10) hx hb hts (in_r_start_X7) tyX7 tyX7_ok nmX7 hown hK hP hD hS 0 rfl rfl 9 (by decide) (hts (.fieldLink RX7 22 "MotionSigns$Reader" "place" "I") (List.mem_of_getElem? (i := 9) rfl)) (fun _ h9 => h9) rfl (tyX7_ok 9 (by decide)) rfl rfl (mF.lt hF_h0 (by decide)) dX7_start_25 ?_
  clear hP hD hS; try clear H
  intro H locs hP hD hS
  have hF0 := mF.sub (L' := [(8, .int 0), (5, .int 0), (4, .int 0), (0, .ref qt), (3, .ref qm), (2, .ref qp), (6, .int 0), (7, .int 0)]) hF_h0 [0, 1, 2, 3, 4, 5, 7, 8] rfl
  have hF1 := mF.put hF0 9 (.int (-1)) (by decide) rfl
  replace hP : va_P (dC, dI) vwCl [(h0, .inr (7, (fs_4.set 9 (.int (-1))))), (qt, .inl (kt, 200, .inl ft)), (qm, .inr (6, fs_qm))] H := hP
  replace hD : va_D A [(h0, .inr (7, (fs_4.set 9 (.int (-1))))), (qt, .inl (kt, 200, .inl ft)), (qm, .inr (6, fs_qm))] := hD
  generalize fs_4.set 9 (.int (-1)) = fs_5 at hP hD hF1
  replace hF_h0 : mF 10 [(9, .int (-1)), (8, .int 0), (5, .int 0), (4, .int 0), (0, .ref qt), (3, .ref qm), (2, .ref qp), (6, .int 0), (7, .int 0)] fs_5 := hF1
  clear hF1 hF0
  replace hP : va_P (dC, dI) vwCl [(h0, .inr (7, fs_5)), (qt, .inl (kt, 200, .inl ft)), (qm, .inr (6, fs_qm))] H := hP
  replace hD : va_D A [(h0, .inr (7, fs_5)), (qt, .inl (kt, 200, .inl ft)), (qm, .inr (6, fs_qm))] := hD
  refine lv_aload_n hx hb dX7_start_28 rfl (lv_at hl 0 rfl) ?_
  refine va_get (D := (dC, dI)) (ci := 7) (v := .ref qm) (C := RX7) (T := TX7) (N := 10) hx hb hts (in_r_start_X7) hown hK hP 0 rfl rfl 3 (by decide) (hts (.fieldLink RX7 18 "MotionSigns$Reader" "made" "LMotionSigns$Poly;") (List.mem_of_getElem? (i := 10) rfl)) (fun _ h9 => h9) (mF.get hF_h0 5 rfl) dX7_start_29 ?_
  have hPc := hP.sub (ws' := [(qm, .inr (6, fs_qm))]) [2] rfl
  have hDc := hD.sub (ws' := [(qm, .inr (6, fs_qm))]) [2] (by decide) rfl
  have hKc := hK.sub (tys' := []) [] rfl
  have hFc := va_free (wc := [(qm, .inr (6, fs_qm))]) hD hS hA [2] rfl
  refine va_callv (va_runV (As := []) (rest := []) ⟨hx, hb, hml, hown, hts⟩ (c_p_clear l dC dI qm qma qmb fs_qm (mF.sub hF_qm [0, 1, 2] rfl) H.size) (cwV 0 hts g_r_start_p_clear_112 rfl rfl rfl hv_X6_clear ⟨Nat.le_of_ble_eq_true rfl, Nat.le_of_ble_eq_true rfl⟩) ⟨fun a U g mk q => by obtain ⟨q0, q1, qP, qK, qD, qE0⟩ := q; exact ⟨q0, q1, qP, va_K.moved (u := U) (U := U.calling g mk a) (Vm.Alike.refl U.vm) qK, qD, w_N.same rfl qE0⟩, va_recv hKc hPc (ci := 6) (q0 := 0) rfl rfl, fun U hU hW => ⟨rfl, by rw [hU], by rw [hU]; exact hPc, va_K.moved hW.alike hKc, hDc.weaken (fun _ _ _ _ => trivial), w_N.warm hW hN⟩⟩ rfl rfl hl.1 rfl (lv_room (Nat.le_of_ble_eq_true rfl)) dX7_start_32 ⟨(Nat.le_of_ble_eq_true rfl), (Nat.le_of_ble_eq_true rfl)⟩) hS (fun q _ h => hFc q h) hFc (fun u t H1 locs1 ht hvm hw hB hz1 hk1 hS1 => ?_)
  obtain ⟨fs_6, hP1, hK1, hD1, hp_7⟩ := hB
  rw [ht] at hP1
  have hK1 := va_K.moved hvm.symm hK1
  have hJ := va_join (wr := [(h0, .inr (7, fs_5)), (qt, .inl (kt, 200, .inl ft))]) (w1 := [(qm, .inr (6, fs_6))]) hP hD [2] [0, 1] rfl rfl (by decide) (by decide) hk1 hFc hP1 hD1
  clear hP hD hPc hDc hKc hFc hz1; try clear hk1
  obtain ⟨hP, hD⟩ := hJ
  replace hK := (hK.sub (tys' := [(kt, .byte)]) [0] rfl).app (hK1.sub (tys' := []) [] rfl)
  clear hP1 hK1 hD1 hvm ht hS; try clear t
  try clear H
  revert hS1
  intro hS
  generalize H1 = H at hP hS ⊢; try clear H1
  replace hP : va_P (dC, dI) vwCl [(h0, .inr (7, fs_5)), (qt, .inl (kt, 200, .inl ft)), (qm, .inr (6, fs_6))] H := hP
  replace hD : va_D A [(h0, .inr (7, fs_5)), (qt, .inl (kt, 200, .inl ft)), (qm, .inr (6, fs_6))] := hD
  replace hK : va_K (dC, dI) vwCl [(kt, .byte)] s := hK
  have hw_8 : True := hw; clear hw
  have hP9 := hP.sub (ws' := [(h0, .inr (7, fs_5)), (qt, .inl (kt, 200, .inl ft)), (qm, .inr (6, fs_6))]) [0, 1, 2] rfl
  have hD9 := hD.sub (ws' := [(h0, .inr (7, fs_5)), (qt, .inl (kt, 200, .inl ft)), (qm, .inr (6, fs_6))]) [0, 1, 2] (by decide) rfl
  have hK9 := hK.sub (tys' := [(kt, .byte)]) [0] rfl
  rw [← hAe] at hD9
  refine W.widen (k := 0) (n := 0) (Nat.le_of_ble_eq_true rfl) (Nat.le_of_ble_eq_true rfl) ?_
  subst hAe
  exact (W.vret hx hb hr (fun t ht hW => ⟨⟨(), rfl, trivial, fs_5, fs_6, by rw [ht]; exact hP9, va_K.moved hW.alike hK9, hD9, (mF.sub hF_h0 [4, 5, 6, 3, 2, 1, 0, 7, 8] rfl), (mF.sub hp_7 [0, 1, 2] rfl)⟩, hS.F ht⟩) hS.2.2 dX7_start_35)
def wv_r_row0 : List Cond := .code yX7_row cX7_row 4 (some (.object "MotionSigns$Poly")) :: ([.fieldLink RX7 13 "MotionSigns$Reader" "pool" "[LMotionSigns$Poly;"] ++ (wsX70 ++ ([])))
theorem gw_r_row0 : wv_r_row0.all goodWord = true := by decide +kernel
theorem in_r_row0_X7 : ∀ w ∈ wsX70, w ∈ wv_r_row0 := fun _ h => List.mem_cons_of_mem _ (List.mem_append_right _ (List.mem_append_left _ h))
set_option maxHeartbeats 4000000 in
set_option maxRecDepth 100000 in
/-- the first row of the pool -/
theorem c_r_row0 (l : Launch) (dC : Nat → ClassId) (dI : Nat → Nat → Nat) (h0 : Nat) (qp : Nat) (kp : Nat) (fp : Nat → Option Nat) (p0 : Nat) (fs_h0 : List Value) (hF_h0 : mF 10 [(2, .ref qp)] fs_h0) (hfp : fp 0 = some p0) (sz : Nat) : Met l yX7_row wv_r_row0 ({ frames := 0, cells := 0, slots := 0, locals := 0 }) (va_Pc [.ref h0, .int 0, .int 0] (fun U => U.heap.size = sz ∧ va_P (dC, dI) vwCl [(h0, .inr (7, fs_h0)), (qp, .inl (kp, 28, .inr (.inr (.inr (.inr fp)))))] U.heap ∧ va_K (dC, dI) vwCl [(kp, .object RX6)] U ∧ va_D (fun _ => True) [(h0, .inr (7, fs_h0)), (qp, .inl (kp, 28, .inr (.inr (.inr (.inr fp)))))] ∧ w_N U)) (va_Qr (fun (_ : Unit) => True) (fun _ r t => va_P (dC, dI) vwCl [(h0, .inr (7, fs_h0)), (qp, .inl (kp, 28, .inr (.inr (.inr (.inr fp)))))] t.heap ∧ va_K (dC, dI) vwCl [(kp, .object RX6)] t ∧ va_D (va_A [(h0, .inr (7, fs_h0)), (qp, .inl (kp, 28, .inr (.inr (.inr (.inr fp)))))] sz) [(h0, .inr (7, fs_h0)), (qp, .inl (kp, 28, .inr (.inr (.inr (.inr fp)))))] ∧ r = p0) (va_A [(h0, .inr (7, fs_h0)), (qp, .inl (kp, 28, .inr (.inr (.inr (.inr fp)))))] sz)) 0 0 (va_A [(h0, .inr (7, fs_h0)), (qp, .inl (kp, 28, .inr (.inr (.inr (.inr fp)))))] sz) := by
  refine Met.ofW (cc := cX7_row) (maxL := 4) (ret := (some (.object "MotionSigns$Poly"))) (by decide) rfl ?_
  intro p e s m args below meth c s₁ B hml hv
  obtain ⟨rfl, hsz, hP, hK, hD0, hN⟩ := hv
  have hx := B.exec
  have hb := B.bytes
  have hr := B.returns
  have hts := atoms_spec (ws := wv_r_row0) B.pre
  have hown : s.vm.findClass RX7 = some m.cls := findClass_of_methodNamed B.named
  have hlocks := B.notSynchronized
  subst hsz
  have hD := hD0.self (sz := s.heap.size)
  generalize hAe : va_A [(h0, .inr (7, fs_h0)), (qp, .inl (kp, 28, .inr (.inr (.inr (.inr fp)))))] s.heap.size = A at hD ⊢
  have hA : ∀ q : Nat, s.heap.size ≤ q → A q := fun q h => by rw [← hAe]; exact Or.inr h
  obtain ⟨H, hHe, hP, hS⟩ : ∃ H : Heap, H = s.heap ∧ va_P (dC, dI) vwCl [(h0, .inr (7, fs_h0)), (qp, .inl (kp, 28, .inr (.inr (.inr (.inr fp)))))] H ∧ va_S A s.heap H [] := ⟨s.heap, rfl, hP, va_S.rf⟩
  have hl := lv_entry ([.ref h0, .int 0, .int 0]) (n := 4) (Nat.le_of_ble_eq_true rfl)
  rw [lg_entry_eq]
  generalize (lg_sl ([.ref h0, .int 0, .int 0]) ++ List.replicate (4 - (lg_sl ([.ref h0, .int 0, .int 0])).length) Slot.unset).toArray = ls at hl ⊢
  have hl : lv_has ls 4 [(0, .ref h0), (1, .int 0), (2, .int 0)] := hl
  rw [← hHe]; clear hHe
  refine lv_iload_n hx hb dX7_row_0 rfl (lv_at hl 1 rfl) ?_
  refine lv_iconst (v := 4) hx hb dX7_row_1 (by decide) ?_
  refine lv_imul hx hb dX7_row_2 ?_
  refine lv_topi (fun v_1 ev_1 => ?_)
  have ev_1 : v_1 = 0 := ev_1.trans (by decide)
  subst ev_1
  refine lv_iload_n hx hb dX7_row_3 rfl (lv_at hl 2 rfl) ?_
  refine lv_iadd hx hb dX7_row_4 ?_
  refine lv_topi (fun v_2 ev_2 => ?_)
  have ev_2 : v_2 = 0 := ev_2.trans (by decide)
  subst ev_2
  refine lv_istore_n (lv' := [(3, .int 0), (0, .ref h0), (1, .int 0), (2, .int 0)]) hx hb dX7_row_5 rfl hl (by decide) rfl (fun ls hl => ?_)
  refine lv_aload_n hx hb dX7_row_6 rfl (lv_at hl 1 rfl) ?_
  refine va_get (D := (dC, dI)) (ci := 7) (v := .ref qp) (C := RX7) (T := TX7) (N := 10) hx hb hts (in_r_row0_X7) hown hK hP 0 rfl rfl 2 (by decide) (hts (.fieldLink RX7 13 "MotionSigns$Reader" "pool" "[LMotionSigns$Poly;") (List.mem_of_getElem? (i := 1) rfl)) (fun _ h9 => h9) (mF.get hF_h0 0 rfl) dX7_row_7 ?_
  refine lv_iload_n hx hb dX7_row_10 rfl (lv_at hl 0 rfl) ?_
  refine lv_if_lt (tgt := 27) hx hb dX7_row_11 (by decide) (fun hc => absurd hc (by decide)) (fun _ => ?_)
  refine lv_iload_n hx hb dX7_row_14 rfl (lv_at hl 0 rfl) ?_
  refine lv_aload_n hx hb dX7_row_15 rfl (lv_at hl 1 rfl) ?_
  refine va_get (D := (dC, dI)) (ci := 7) (v := .ref qp) (C := RX7) (T := TX7) (N := 10) hx hb hts (in_r_row0_X7) hown hK hP 0 rfl rfl 2 (by decide) (hts (.fieldLink RX7 13 "MotionSigns$Reader" "pool" "[LMotionSigns$Poly;") (List.mem_of_getElem? (i := 1) rfl)) (fun _ h9 => h9) (mF.get hF_h0 0 rfl) dX7_row_16 ?_
  refine va_alen (v := 28) hx hb hK hP 1 0 rfl rfl rfl dX7_row_19 ?_
  refine lv_icmp_ge (tgt := 27) hx hb dX7_row_20 (by decide) (fun hc => absurd hc (by decide)) (fun _ => ?_)
  refine lv_iload_n hx hb dX7_row_23 rfl (lv_at hl 0 rfl) ?_
  refine lv_goto (tgt := 28) hx hb dX7_row_24 (by decide) ?_
  refine wk_ald (y := p0) hx hb hK hP 1 0 rfl rfl (by exact fun h => by rcases h with h | h <;> revert h <;> decide) (by exact hfp) dX7_row_28 ?_
  have hP9 := hP.sub (ws' := [(h0, .inr (7, fs_h0)), (qp, .inl (kp, 28, .inr (.inr (.inr (.inr fp)))))]) [0, 1] rfl
  have hD9 := hD.sub (ws' := [(h0, .inr (7, fs_h0)), (qp, .inl (kp, 28, .inr (.inr (.inr (.inr fp)))))]) [0, 1] (by decide) rfl
  have hK9 := hK.sub (tys' := [(kp, .object RX6)]) [0] rfl
  rw [← hAe] at hD9
  refine W.widen (k := 0) (n := 0) (Nat.le_of_ble_eq_true rfl) (Nat.le_of_ble_eq_true rfl) ?_
  subst hAe
  exact (W.aret (v := .ref p0) hx hb hr (Or.inl ⟨_, rfl⟩) (Or.inr ⟨_, rfl⟩) (fun t ht hW => ⟨⟨(), p0, rfl, trivial, by rw [ht]; exact hP9, va_K.moved hW.alike hK9, hD9, rfl⟩, hS.F ht⟩) hS.2.2 dX7_row_29)
def wv_r_eat : List Cond := .code yX7_eat cX7_eat 2 (some .boolean) :: ([.fieldLink RX7 69 "MotionSigns$Reader" "wrong" "I"] ++ (wsX70 ++ ([])))
theorem gw_r_eat : wv_r_eat.all goodWord = true := by decide +kernel
theorem in_r_eat_X7 : ∀ w ∈ wsX70, w ∈ wv_r_eat := fun _ h => List.mem_cons_of_mem _ (List.mem_append_right _ (List.mem_append_left _ h))
set_option maxHeartbeats 4000000 in
set_option maxRecDepth 100000 in
/-- eat -/
theorem c_r_eat (l : Launch) (dC : Nat → ClassId) (dI : Nat → Nat → Nat) (h0 : Nat) (ch : Int32) (fs_h0 : List Value) (hF_h0 : mF 10 [(8, .int 1)] fs_h0) (sz : Nat) : Met l yX7_eat wv_r_eat ({ frames := 0, cells := 0, slots := 0, locals := 0 }) (va_Pc [.ref h0, .int ch] (fun U => U.heap.size = sz ∧ va_P (dC, dI) vwCl [(h0, .inr (7, fs_h0))] U.heap ∧ va_K (dC, dI) vwCl [] U ∧ va_D (fun _ => True) [(h0, .inr (7, fs_h0))] ∧ w_N U)) (va_Qi (fun (r : Int32) (_ : Unit) => r = 0) (fun _ t => va_P (dC, dI) vwCl [(h0, .inr (7, fs_h0))] t.heap ∧ va_K (dC, dI) vwCl [] t ∧ va_D (va_A [(h0, .inr (7, fs_h0))] sz) [(h0, .inr (7, fs_h0))]) (va_A [(h0, .inr (7, fs_h0))] sz)) 0 0 (va_A [(h0, .inr (7, fs_h0))] sz) := by
  refine Met.ofW (cc := cX7_eat) (maxL := 2) (ret := (some .boolean)) (by decide) rfl ?_
  intro p e s m args below meth c s₁ B hml hv
  obtain ⟨rfl, hsz, hP, hK, hD0, hN⟩ := hv
  have hx := B.exec
  have hb := B.bytes
  have hr := B.returns
  have hts := atoms_spec (ws := wv_r_eat) B.pre
  have hown : s.vm.findClass RX7 = some m.cls := findClass_of_methodNamed B.named
  have hlocks := B.notSynchronized
  subst hsz
  have hD := hD0.self (sz := s.heap.size)
  generalize hAe : va_A [(h0, .inr (7, fs_h0))] s.heap.size = A at hD ⊢
  have hA : ∀ q : Nat, s.heap.size ≤ q → A q := fun q h => by rw [← hAe]; exact Or.inr h
  obtain ⟨H, hHe, hP, hS⟩ : ∃ H : Heap, H = s.heap ∧ va_P (dC, dI) vwCl [(h0, .inr (7, fs_h0))] H ∧ va_S A s.heap H [] := ⟨s.heap, rfl, hP, va_S.rf⟩
  have hl := lv_entry ([.ref h0, .int ch]) (n := 2) (Nat.le_of_ble_eq_true rfl)
  rw [lg_entry_eq]
  generalize (lg_sl ([.ref h0, .int ch]) ++ List.replicate (2 - (lg_sl ([.ref h0, .int ch])).length) Slot.unset).toArray = ls at hl ⊢
  have hl : lv_has ls 2 [(0, .ref h0), (1, .int ch)] := hl
  rw [← hHe]; clear hHe
  refine lv_aload_n hx hb dX7_eat_0 rfl (lv_at hl 0 rfl) ?_
  refine va_get (D := (dC, dI)) (ci := 7) (v := .int 1) (C := RX7) (T := TX7) (N := 10) hx hb hts (in_r_eat_X7) hown hK hP 0 rfl rfl 8 (by decide) (hts (.fieldLink RX7 69 "MotionSigns$Reader" "wrong" "I") (List.mem_of_getElem? (i := 1) rfl)) (fun _ h9 => h9) (mF.get hF_h0 0 rfl) dX7_eat_1 ?_
  refine lv_if_ne (tgt := 15) hx hb dX7_eat_4 (by decide) (fun _ => ?_) (fun hc => absurd hc (by decide))
  refine lv_iconst (v := 0) hx hb dX7_eat_15 (by decide) ?_
  have hP9 := hP.sub (ws' := [(h0, .inr (7, fs_h0))]) [0] rfl
  have hD9 := hD.sub (ws' := [(h0, .inr (7, fs_h0))]) [0] (by decide) rfl
  have hK9 := hK.sub (tys' := []) [] rfl
  rw [← hAe] at hD9
  refine W.widen (k := 0) (n := 0) (Nat.le_of_ble_eq_true rfl) (Nat.le_of_ble_eq_true rfl) ?_
  subst hAe
  exact (W.zret (v := 0) hx hb hr (by decide) (fun t ht hW => ⟨⟨0, (), rfl, rfl, by rw [ht]; exact hP9, va_K.moved hW.alike hK9, hD9⟩, hS.F ht⟩) hS.2.2 dX7_eat_16)
def wv_r_needEnd : List Cond := .code yX7_needEnd cX7_needEnd 1 none :: ([.fieldLink RX7 69 "MotionSigns$Reader" "wrong" "I"] ++ (wsX70 ++ ([])))
theorem gw_r_needEnd : wv_r_needEnd.all goodWord = true := by decide +kernel
theorem in_r_needEnd_X7 : ∀ w ∈ wsX70, w ∈ wv_r_needEnd := fun _ h => List.mem_cons_of_mem _ (List.mem_append_right _ (List.mem_append_left _ h))
set_option maxHeartbeats 4000000 in
set_option maxRecDepth 100000 in
/-- needEnd -/
theorem c_r_needEnd (l : Launch) (dC : Nat → ClassId) (dI : Nat → Nat → Nat) (h0 : Nat) (fs_h0 : List Value) (hF_h0 : mF 10 [(8, .int 1)] fs_h0) (sz : Nat) : Met l yX7_needEnd wv_r_needEnd ({ frames := 0, cells := 0, slots := 0, locals := 0 }) (va_Pc [.ref h0] (fun U => U.heap.size = sz ∧ va_P (dC, dI) vwCl [(h0, .inr (7, fs_h0))] U.heap ∧ va_K (dC, dI) vwCl [] U ∧ va_D (fun _ => True) [(h0, .inr (7, fs_h0))] ∧ w_N U)) (va_Qv (fun (_ : Unit) => True) (fun _ t => va_P (dC, dI) vwCl [(h0, .inr (7, fs_h0))] t.heap ∧ va_K (dC, dI) vwCl [] t ∧ va_D (va_A [(h0, .inr (7, fs_h0))] sz) [(h0, .inr (7, fs_h0))]) (va_A [(h0, .inr (7, fs_h0))] sz)) 0 0 (va_A [(h0, .inr (7, fs_h0))] sz) := by
  refine Met.ofW (cc := cX7_needEnd) (maxL := 1) (ret := none) (by decide) rfl ?_
  intro p e s m args below meth c s₁ B hml hv
  obtain ⟨rfl, hsz, hP, hK, hD0, hN⟩ := hv
  have hx := B.exec
  have hb := B.bytes
  have hr := B.returns
  have hts := atoms_spec (ws := wv_r_needEnd) B.pre
  have hown : s.vm.findClass RX7 = some m.cls := findClass_of_methodNamed B.named
  have hlocks := B.notSynchronized
  subst hsz
  have hD := hD0.self (sz := s.heap.size)
  generalize hAe : va_A [(h0, .inr (7, fs_h0))] s.heap.size = A at hD ⊢
  have hA : ∀ q : Nat, s.heap.size ≤ q → A q := fun q h => by rw [← hAe]; exact Or.inr h
  obtain ⟨H, hHe, hP, hS⟩ : ∃ H : Heap, H = s.heap ∧ va_P (dC, dI) vwCl [(h0, .inr (7, fs_h0))] H ∧ va_S A s.heap H [] := ⟨s.heap, rfl, hP, va_S.rf⟩
  have hl := lv_entry ([.ref h0]) (n := 1) (Nat.le_of_ble_eq_true rfl)
  rw [lg_entry_eq]
  generalize (lg_sl ([.ref h0]) ++ List.replicate (1 - (lg_sl ([.ref h0])).length) Slot.unset).toArray = ls at hl ⊢
  have hl : lv_has ls 1 [(0, .ref h0)] := hl
  rw [← hHe]; clear hHe
  refine lv_aload_n hx hb dX7_needEnd_0 rfl (lv_at hl 0 rfl) ?_
  refine va_get (D := (dC, dI)) (ci := 7) (v := .int 1) (C := RX7) (T := TX7) (N := 10) hx hb hts (in_r_needEnd_X7) hown hK hP 0 rfl rfl 8 (by decide) (hts (.fieldLink RX7 69 "MotionSigns$Reader" "wrong" "I") (List.mem_of_getElem? (i := 1) rfl)) (fun _ h9 => h9) (mF.get hF_h0 0 rfl) dX7_needEnd_1 ?_
  refine lv_if_ne (tgt := 20) hx hb dX7_needEnd_4 (by decide) (fun _ => ?_) (fun hc => absurd hc (by decide))
  have hP9 := hP.sub (ws' := [(h0, .inr (7, fs_h0))]) [0] rfl
  have hD9 := hD.sub (ws' := [(h0, .inr (7, fs_h0))]) [0] (by decide) rfl
  have hK9 := hK.sub (tys' := []) [] rfl
  rw [← hAe] at hD9
  refine W.widen (k := 0) (n := 0) (Nat.le_of_ble_eq_true rfl) (Nat.le_of_ble_eq_true rfl) ?_
  subst hAe
  exact (W.vret hx hb hr (fun t ht hW => ⟨⟨(), rfl, trivial, by rw [ht]; exact hP9, va_K.moved hW.alike hK9, hD9⟩, hS.F ht⟩) hS.2.2 dX7_needEnd_20)
def wv_r_readSum : List Cond := .code yX7_readSum cX7_readSum 5 none :: ([.methodLink RX7 52 yX7_row, .instanceMethod yX7_row, .selects RX7 yX7_row yX7_row, .initialized RX7, .methodLink RX7 115 yX7_eat, .instanceMethod yX7_eat, .selects RX7 yX7_eat yX7_eat, .methodLink RX7 112 yX6_clear, .instanceMethod yX6_clear, .selects RX6 yX6_clear yX6_clear, .initialized RX6, .fieldLink RX7 69 "MotionSigns$Reader" "wrong" "I"] ++ (wv_r_row0 ++ (wv_r_eat ++ (wv_p_clear ++ (wsX70 ++ ([]))))))
theorem gw_r_readSum : wv_r_readSum.all goodWord = true := by decide +kernel
theorem in_r_readSum_X7 : ∀ w ∈ wsX70, w ∈ wv_r_readSum := fun _ h => List.mem_cons_of_mem _ (List.mem_append_right _ (List.mem_append_right _ (List.mem_append_right _ (List.mem_append_right _ (List.mem_append_left _ h)))))
theorem g_r_readSum_r_row0_52 : GoodIn wv_r_readSum (wsV RX7 52 RX7 yX7_row wv_r_row0) := goodIn_app (goodIn_of _ (by decide +kernel)) (goodIn_sub (fun _ h => List.mem_cons_of_mem _ (List.mem_append_right _ (List.mem_append_left _ h))) gw_r_row0)
theorem g_r_readSum_r_eat_115 : GoodIn wv_r_readSum (wsV RX7 115 RX7 yX7_eat wv_r_eat) := goodIn_app (goodIn_of _ (by decide +kernel)) (goodIn_sub (fun _ h => List.mem_cons_of_mem _ (List.mem_append_right _ (List.mem_append_right _ (List.mem_append_left _ h)))) gw_r_eat)
theorem g_r_readSum_p_clear_112 : GoodIn wv_r_readSum (wsV RX7 112 RX6 yX6_clear wv_p_clear) := goodIn_app (goodIn_of _ (by decide +kernel)) (goodIn_sub (fun _ h => List.mem_cons_of_mem _ (List.mem_append_right _ (List.mem_append_right _ (List.mem_append_right _ (List.mem_append_left _ h))))) gw_p_clear)
set_option maxHeartbeats 4000000 in
set_option maxRecDepth 100000 in
/-- readSum -/
theorem c_r_readSum (l : Launch) (dC : Nat → ClassId) (dI : Nat → Nat → Nat) (h0 : Nat) (qp : Nat) (kp : Nat) (p0a : Nat) (p0b : Nat) (fp : Nat → Option Nat) (p0 : Nat) (fs_h0 : List Value) (fs_p0 : List Value) (hF_h0 : mF 10 [(8, .int 1), (2, .ref qp)] fs_h0) (hF_p0 : mF 3 [(0, .ref p0a), (1, .ref p0b), (2, .int 0)] fs_p0) (hfp : fp 0 = some p0) (sz : Nat) : Met l yX7_readSum wv_r_readSum ({ frames := 1, cells := 0, slots := 0, locals := 23 }) (va_Pc [.ref h0, .int 0] (fun U => U.heap.size = sz ∧ va_P (dC, dI) vwCl [(h0, .inr (7, fs_h0)), (qp, .inl (kp, 28, .inr (.inr (.inr (.inr fp))))), (p0, .inr (6, fs_p0))] U.heap ∧ va_K (dC, dI) vwCl [(kp, .object RX6)] U ∧ va_D (fun _ => True) [(h0, .inr (7, fs_h0)), (qp, .inl (kp, 28, .inr (.inr (.inr (.inr fp))))), (p0, .inr (6, fs_p0))] ∧ w_N U)) (va_Qv (fun (_ : Unit) => True) (fun _ t => ∃ (fs_p02 : List Value), va_P (dC, dI) vwCl [(h0, .inr (7, fs_h0)), (qp, .inl (kp, 28, .inr (.inr (.inr (.inr fp))))), (p0, .inr (6, fs_p02))] t.heap ∧ va_K (dC, dI) vwCl [(kp, .object RX6)] t ∧ va_D (va_A [(h0, .inr (7, fs_h0)), (qp, .inl (kp, 28, .inr (.inr (.inr (.inr fp))))), (p0, .inr (6, fs_p0))] sz) [(h0, .inr (7, fs_h0)), (qp, .inl (kp, 28, .inr (.inr (.inr (.inr fp))))), (p0, .inr (6, fs_p02))] ∧ mF 3 [(0, .ref p0a), (1, .ref p0b), (2, .int 0)] fs_p02) (va_A [(h0, .inr (7, fs_h0)), (qp, .inl (kp, 28, .inr (.inr (.inr (.inr fp))))), (p0, .inr (6, fs_p0))] sz)) 0 0 (va_A [(h0, .inr (7, fs_h0)), (qp, .inl (kp, 28, .inr (.inr (.inr (.inr fp))))), (p0, .inr (6, fs_p0))] sz) := by
  refine Met.ofW (cc := cX7_readSum) (maxL := 5) (ret := none) (by decide) rfl ?_
  intro p e s m args below meth c s₁ B hml hv
  obtain ⟨rfl, hsz, hP, hK, hD0, hN⟩ := hv
  have hx := B.exec
  have hb := B.bytes
  have hr := B.returns
  have hts := atoms_spec (ws := wv_r_readSum) B.pre
  have hown : s.vm.findClass RX7 = some m.cls := findClass_of_methodNamed B.named
  have hlocks := B.notSynchronized
  subst hsz
  have hD := hD0.self (sz := s.heap.size)
  generalize hAe : va_A [(h0, .inr (7, fs_h0)), (qp, .inl (kp, 28, .inr (.inr (.inr (.inr fp))))), (p0, .inr (6, fs_p0))] s.heap.size = A at hD ⊢
  have hA : ∀ q : Nat, s.heap.size ≤ q → A q := fun q h => by rw [← hAe]; exact Or.inr h
  obtain ⟨H, hHe, hP, hS⟩ : ∃ H : Heap, H = s.heap ∧ va_P (dC, dI) vwCl [(h0, .inr (7, fs_h0)), (qp, .inl (kp, 28, .inr (.inr (.inr (.inr fp))))), (p0, .inr (6, fs_p0))] H ∧ va_S A s.heap H [] := ⟨s.heap, rfl, hP, va_S.rf⟩
  have hl := lv_entry ([.ref h0, .int 0]) (n := 5) (Nat.le_of_ble_eq_true rfl)
  rw [lg_entry_eq]
  generalize (lg_sl ([.ref h0, .int 0]) ++ List.replicate (5 - (lg_sl ([.ref h0, .int 0])).length) Slot.unset).toArray = ls at hl ⊢
  have hl : lv_has ls 5 [(0, .ref h0), (1, .int 0)] := hl
  rw [← hHe]; clear hHe
  refine lv_aload_n hx hb dX7_readSum_0 rfl (lv_at hl 0 rfl) ?_
  refine lv_iload_n hx hb dX7_readSum_1 rfl (lv_at hl 1 rfl) ?_
  refine lv_iconst (v := 0) hx hb dX7_readSum_2 (by decide) ?_
  have hPc := hP.sub (ws' := [(h0, .inr (7, fs_h0)), (qp, .inl (kp, 28, .inr (.inr (.inr (.inr fp)))))]) [0, 1] rfl
  have hDc := hD.sub (ws' := [(h0, .inr (7, fs_h0)), (qp, .inl (kp, 28, .inr (.inr (.inr (.inr fp)))))]) [0, 1] (by decide) rfl
  have hKc := hK.sub (tys' := [(kp, .object RX6)]) [0] rfl
  have hFc := va_free (wc := [(h0, .inr (7, fs_h0)), (qp, .inl (kp, 28, .inr (.inr (.inr (.inr fp)))))]) hD hS hA [0, 1] rfl
  refine va_callr (va_runV (As := [.int 0, .int 0]) (rest := []) ⟨hx, hb, hml, hown, hts⟩ (c_r_row0 l dC dI h0 qp kp fp p0 fs_h0 (mF.sub hF_h0 [1] rfl) hfp H.size) (cwV 2 hts g_r_readSum_r_row0_52 rfl rfl rfl hv_X7_row ⟨Nat.le_of_ble_eq_true rfl, Nat.le_of_ble_eq_true rfl⟩) ⟨fun a U g mk q => by obtain ⟨q0, q1, qP, qK, qD, qE0⟩ := q; exact ⟨q0, q1, qP, va_K.moved (u := U) (U := U.calling g mk a) (Vm.Alike.refl U.vm) qK, qD, w_N.same rfl qE0⟩, va_recv hKc hPc (ci := 7) (q0 := 0) rfl rfl, fun U hU hW => ⟨rfl, by rw [hU], by rw [hU]; exact hPc, va_K.moved hW.alike hKc, hDc.weaken (fun _ _ _ _ => trivial), w_N.warm hW hN⟩⟩ rfl rfl hl.1 rfl (lv_room (Nat.le_of_ble_eq_true rfl)) dX7_readSum_3 ⟨(Nat.le_of_ble_eq_true rfl), (Nat.le_of_ble_eq_true rfl)⟩) hS (fun q _ h => hFc q h) hFc (fun u r_1 t H1 locs1 ht hvm hw hB hz1 hk1 hS1 => ?_)
  obtain ⟨hP1, hK1, hD1, hp_2⟩ := hB
  rw [ht] at hP1
  have hK1 := va_K.moved hvm.symm hK1
  have hJ := va_join (wr := [(p0, .inr (6, fs_p0))]) (w1 := [(h0, .inr (7, fs_h0)), (qp, .inl (kp, 28, .inr (.inr (.inr (.inr fp)))))]) hP hD [0, 1] [2] rfl rfl (by decide) (by decide) hk1 hFc hP1 hD1
  clear hP hD hPc hDc hKc hFc hz1; try clear hk1
  obtain ⟨hP, hD⟩ := hJ
  replace hK := (hK.sub (tys' := [(kp, .object RX6)]) [0] rfl).app (hK1.sub (tys' := []) [] rfl)
  clear hP1 hK1 hD1 hvm ht hS; try clear t
  try clear H
  revert hS1
  intro hS
  generalize H1 = H at hP hS ⊢; try clear H1
  replace hP : va_P (dC, dI) vwCl [(p0, .inr (6, fs_p0)), (h0, .inr (7, fs_h0)), (qp, .inl (kp, 28, .inr (.inr (.inr (.inr fp)))))] H := hP
  replace hD : va_D A [(p0, .inr (6, fs_p0)), (h0, .inr (7, fs_h0)), (qp, .inl (kp, 28, .inr (.inr (.inr (.inr fp)))))] := hD
  replace hK : va_K (dC, dI) vwCl [(kp, .object RX6)] s := hK
  have hw_3 : True := hw; clear hw
  rw [hp_2]
  refine lv_astore_n (lv' := [(2, .ref p0), (0, .ref h0), (1, .int 0)]) hx hb dX7_readSum_6 rfl hl (by decide) rfl (fun ls hl => ?_)
  refine lv_aload_n hx hb dX7_readSum_7 rfl (lv_at hl 1 rfl) ?_
  refine lv_bipush (v := 45) hx hb dX7_readSum_8 (by decide) ?_
  have hPc := hP.sub (ws' := [(h0, .inr (7, fs_h0))]) [1] rfl
  have hDc := hD.sub (ws' := [(h0, .inr (7, fs_h0))]) [1] (by decide) rfl
  have hKc := hK.sub (tys' := []) [] rfl
  have hFc := va_free (wc := [(h0, .inr (7, fs_h0))]) hD hS hA [1] rfl
  refine va_calli (va_runV (As := [.int 45]) (rest := []) ⟨hx, hb, hml, hown, hts⟩ (c_r_eat l dC dI h0 45 fs_h0 (mF.sub hF_h0 [0] rfl) H.size) (cwV 1 hts g_r_readSum_r_eat_115 rfl rfl rfl hv_X7_eat ⟨Nat.le_of_ble_eq_true rfl, Nat.le_of_ble_eq_true rfl⟩) ⟨fun a U g mk q => by obtain ⟨q0, q1, qP, qK, qD, qE0⟩ := q; exact ⟨q0, q1, qP, va_K.moved (u := U) (U := U.calling g mk a) (Vm.Alike.refl U.vm) qK, qD, w_N.same rfl qE0⟩, va_recv hKc hPc (ci := 7) (q0 := 0) rfl rfl, fun U hU hW => ⟨rfl, by rw [hU], by rw [hU]; exact hPc, va_K.moved hW.alike hKc, hDc.weaken (fun _ _ _ _ => trivial), w_N.warm hW hN⟩⟩ rfl rfl hl.1 rfl (lv_room (Nat.le_of_ble_eq_true rfl)) dX7_readSum_10 ⟨(Nat.le_of_ble_eq_true rfl), (Nat.le_of_ble_eq_true rfl)⟩) hS (fun q _ h => hFc q h) hFc (fun r_4 u t H1 locs1 ht hvm hw hB hz1 hk1 hS1 => ?_)
  obtain ⟨hP1, hK1, hD1⟩ := hB
  rw [ht] at hP1
  have hK1 := va_K.moved hvm.symm hK1
  have hJ := va_join (wr := [(p0, .inr (6, fs_p0)), (qp, .inl (kp, 28, .inr (.inr (.inr (.inr fp)))))]) (w1 := [(h0, .inr (7, fs_h0))]) hP hD [1] [0, 2] rfl rfl (by decide) (by decide) hk1 hFc hP1 hD1
  clear hP hD hPc hDc hKc hFc hz1; try clear hk1
  obtain ⟨hP, hD⟩ := hJ
  replace hK := (hK.sub (tys' := [(kp, .object RX6)]) [0] rfl).app (hK1.sub (tys' := []) [] rfl)
  clear hP1 hK1 hD1 hvm ht hS; try clear t
  try clear H
  revert hS1
  intro hS
  generalize H1 = H at hP hS ⊢; try clear H1
  replace hP : va_P (dC, dI) vwCl [(p0, .inr (6, fs_p0)), (qp, .inl (kp, 28, .inr (.inr (.inr (.inr fp))))), (h0, .inr (7, fs_h0))] H := hP
  replace hD : va_D A [(p0, .inr (6, fs_p0)), (qp, .inl (kp, 28, .inr (.inr (.inr (.inr fp))))), (h0, .inr (7, fs_h0))] := hD
  replace hK : va_K (dC, dI) vwCl [(kp, .object RX6)] s := hK
  have hw_5 : r_4 = 0 := hw; clear hw
  subst hw_5
  refine lv_if_eq (tgt := 20) hx hb dX7_readSum_13 (by decide) (fun _ => ?_) (fun hc => absurd (by decide) hc)
  refine lv_iconst (v := 1) hx hb dX7_readSum_20 (by decide) ?_
  refine lv_istore_n (lv' := [(3, .int 1), (2, .ref p0), (0, .ref h0), (1, .int 0)]) hx hb dX7_readSum_21 rfl hl (by decide) rfl (fun ls hl => ?_)
  refine lv_aload_n hx hb dX7_readSum_22 rfl (lv_at hl 1 rfl) ?_
  have hPc := hP.sub (ws' := [(p0, .inr (6, fs_p0))]) [0] rfl
  have hDc := hD.sub (ws' := [(p0, .inr (6, fs_p0))]) [0] (by decide) rfl
  have hKc := hK.sub (tys' := []) [] rfl
  have hFc := va_free (wc := [(p0, .inr (6, fs_p0))]) hD hS hA [0] rfl
  refine va_callv (va_runV (As := []) (rest := []) ⟨hx, hb, hml, hown, hts⟩ (c_p_clear l dC dI p0 p0a p0b fs_p0 (mF.sub hF_p0 [0, 1, 2] rfl) H.size) (cwV 0 hts g_r_readSum_p_clear_112 rfl rfl rfl hv_X6_clear ⟨Nat.le_of_ble_eq_true rfl, Nat.le_of_ble_eq_true rfl⟩) ⟨fun a U g mk q => by obtain ⟨q0, q1, qP, qK, qD, qE0⟩ := q; exact ⟨q0, q1, qP, va_K.moved (u := U) (U := U.calling g mk a) (Vm.Alike.refl U.vm) qK, qD, w_N.same rfl qE0⟩, va_recv hKc hPc (ci := 6) (q0 := 0) rfl rfl, fun U hU hW => ⟨rfl, by rw [hU], by rw [hU]; exact hPc, va_K.moved hW.alike hKc, hDc.weaken (fun _ _ _ _ => trivial), w_N.warm hW hN⟩⟩ rfl rfl hl.1 rfl (lv_room (Nat.le_of_ble_eq_true rfl)) dX7_readSum_23 ⟨(Nat.le_of_ble_eq_true rfl), (Nat.le_of_ble_eq_true rfl)⟩) hS (fun q _ h => hFc q h) hFc (fun u t H1 locs1 ht hvm hw hB hz1 hk1 hS1 => ?_)
  obtain ⟨fs_6, hP1, hK1, hD1, hp_7⟩ := hB
  rw [ht] at hP1
  have hK1 := va_K.moved hvm.symm hK1
  have hJ := va_join (wr := [(qp, .inl (kp, 28, .inr (.inr (.inr (.inr fp))))), (h0, .inr (7, fs_h0))]) (w1 := [(p0, .inr (6, fs_6))]) hP hD [0] [1, 2] rfl rfl (by decide) (by decide) hk1 hFc hP1 hD1
  clear hP hD hPc hDc hKc hFc hz1; try clear hk1
  obtain ⟨hP, hD⟩ := hJ
  replace hK := (hK.sub (tys' := [(kp, .object RX6)]) [0] rfl).app (hK1.sub (tys' := []) [] rfl)
  clear hP1 hK1 hD1 hvm ht hS; try clear t
  try clear H
  revert hS1
  intro hS
  generalize H1 = H at hP hS ⊢; try clear H1
  replace hP : va_P (dC, dI) vwCl [(qp, .inl (kp, 28, .inr (.inr (.inr (.inr fp))))), (h0, .inr (7, fs_h0)), (p0, .inr (6, fs_6))] H := hP
  replace hD : va_D A [(qp, .inl (kp, 28, .inr (.inr (.inr (.inr fp))))), (h0, .inr (7, fs_h0)), (p0, .inr (6, fs_6))] := hD
  replace hK : va_K (dC, dI) vwCl [(kp, .object RX6)] s := hK
  have hw_8 : True := hw; clear hw
  refine lv_iconst (v := 0) hx hb dX7_readSum_26 (by decide) ?_
  refine lv_istore (lv' := [(4, .int 0), (3, .int 1), (2, .ref p0), (0, .ref h0), (1, .int 0)]) hx hb dX7_readSum_27 hl (by decide) rfl (fun ls hl => ?_)
  refine lv_iload hx hb dX7_readSum_29 (lv_at hl 0 rfl) ?_
  refine lv_sipush (v := 200) hx hb dX7_readSum_31 (by decide) ?_
  refine lv_icmp_gt (tgt := 99) hx hb dX7_readSum_34 (by decide) (fun hc => absurd hc (by decide)) (fun _ => ?_)
  refine lv_iload_n hx hb dX7_readSum_37 rfl (lv_at hl 1 rfl) ?_
  refine lv_if_eq (tgt := 99) hx hb dX7_readSum_38 (by decide) (fun hc => absurd hc (by decide)) (fun _ => ?_)
  refine lv_aload_n hx hb dX7_readSum_41 rfl (lv_at hl 3 rfl) ?_
  refine va_get (D := (dC, dI)) (ci := 7) (v := .int 1) (C := RX7) (T := TX7) (N := 10) hx hb hts (in_r_readSum_X7) hown hK hP 1 rfl rfl 8 (by decide) (hts (.fieldLink RX7 69 "MotionSigns$Reader" "wrong" "I") (List.mem_of_getElem? (i := 12) rfl)) (fun _ h9 => h9) (mF.get hF_h0 0 rfl) dX7_readSum_42 ?_
  refine lv_if_ne (tgt := 99) hx hb dX7_readSum_45 (by decide) (fun _ => ?_) (fun hc => absurd hc (by decide))
  have hP9 := hP.sub (ws' := [(h0, .inr (7, fs_h0)), (qp, .inl (kp, 28, .inr (.inr (.inr (.inr fp))))), (p0, .inr (6, fs_6))]) [1, 0, 2] rfl
  have hD9 := hD.sub (ws' := [(h0, .inr (7, fs_h0)), (qp, .inl (kp, 28, .inr (.inr (.inr (.inr fp))))), (p0, .inr (6, fs_6))]) [1, 0, 2] (by decide) rfl
  have hK9 := hK.sub (tys' := [(kp, .object RX6)]) [0] rfl
  rw [← hAe] at hD9
  refine W.widen (k := 0) (n := 0) (Nat.le_of_ble_eq_true rfl) (Nat.le_of_ble_eq_true rfl) ?_
  subst hAe
  exact (W.vret hx hb hr (fun t ht hW => ⟨⟨(), rfl, trivial, fs_6, by rw [ht]; exact hP9, va_K.moved hW.alike hK9, hD9, (mF.sub hp_7 [0, 1, 2] rfl)⟩, hS.F ht⟩) hS.2.2 dX7_readSum_99)
def wv_r_readPolynomial : List Cond := .code yX7_readPolynomial cX7_readPolynomial 2 none :: ([.fieldLink RX7 142 "MotionSigns$Reader" "letters" "I", .fieldLink RX7 145 "MotionSigns$Reader" "over" "Z", .methodLink RX7 149 yX7_readSum, .instanceMethod yX7_readSum, .selects RX7 yX7_readSum yX7_readSum, .initialized RX7, .fieldLink RX7 69 "MotionSigns$Reader" "wrong" "I"] ++ (wsX70 ++ (wv_r_readSum ++ ([]))))
theorem gw_r_readPolynomial : wv_r_readPolynomial.all goodWord = true := by decide +kernel
theorem in_r_readPolynomial_X7 : ∀ w ∈ wsX70, w ∈ wv_r_readPolynomial := fun _ h => List.mem_cons_of_mem _ (List.mem_append_right _ (List.mem_append_left _ h))
theorem g_r_readPolynomial_r_readSum_149 : GoodIn wv_r_readPolynomial (wsV RX7 149 RX7 yX7_readSum wv_r_readSum) := goodIn_app (goodIn_of _ (by decide +kernel)) (goodIn_sub (fun _ h => List.mem_cons_of_mem _ (List.mem_append_right _ (List.mem_append_right _ (List.mem_append_left _ h)))) gw_r_readSum)
set_option maxHeartbeats 4000000 in
set_option maxRecDepth 100000 in
/-- readPolynomial -/
theorem c_r_readPolynomial (l : Launch) (dC : Nat → ClassId) (dI : Nat → Nat → Nat) (h0 : Nat) (qt : Nat) (qm : Nat) (qp : Nat) (kp : Nat) (p0a : Nat) (p0b : Nat) (fp : Nat → Option Nat) (p0 : Nat) (fs_h0 : List Value) (fs_p0 : List Value) (hF_h0 : mF 10 [(0, .ref qt), (3, .ref qm), (2, .ref qp), (4, .int 0), (5, .int 0), (8, .int 1), (9, .int 0), (6, .int 0), (7, .int 0)] fs_h0) (hF_p0 : mF 3 [(0, .ref p0a), (1, .ref p0b), (2, .int 0)] fs_p0) (hfp : fp 0 = some p0) (sz : Nat) : Met l yX7_readPolynomial wv_r_readPolynomial ({ frames := 2, cells := 0, slots := 0, locals := 47 }) (va_Pc [.ref h0, .int 13] (fun U => U.heap.size = sz ∧ va_P (dC, dI) vwCl [(h0, .inr (7, fs_h0)), (qp, .inl (kp, 28, .inr (.inr (.inr (.inr fp))))), (p0, .inr (6, fs_p0))] U.heap ∧ va_K (dC, dI) vwCl [(kp, .object RX6)] U ∧ va_D (fun _ => True) [(h0, .inr (7, fs_h0)), (qp, .inl (kp, 28, .inr (.inr (.inr (.inr fp))))), (p0, .inr (6, fs_p0))] ∧ w_N U)) (va_Qv (fun (_ : Unit) => True) (fun _ t => ∃ (fs_h02 : List Value) (fs_p02 : List Value), va_P (dC, dI) vwCl [(h0, .inr (7, fs_h02)), (qp, .inl (kp, 28, .inr (.inr (.inr (.inr fp))))), (p0, .inr (6, fs_p02))] t.heap ∧ va_K (dC, dI) vwCl [(kp, .object RX6)] t ∧ va_D (va_A [(h0, .inr (7, fs_h0)), (qp, .inl (kp, 28, .inr (.inr (.inr (.inr fp))))), (p0, .inr (6, fs_p0))] sz) [(h0, .inr (7, fs_h02)), (qp, .inl (kp, 28, .inr (.inr (.inr (.inr fp))))), (p0, .inr (6, fs_p02))] ∧ mF 10 [(0, .ref qt), (3, .ref qm), (2, .ref qp), (4, .int 0), (5, .int 0), (8, .int 1), (9, .int 0), (6, .int 13), (7, .int 0)] fs_h02 ∧ mF 3 [(0, .ref p0a), (1, .ref p0b), (2, .int 0)] fs_p02) (va_A [(h0, .inr (7, fs_h0)), (qp, .inl (kp, 28, .inr (.inr (.inr (.inr fp))))), (p0, .inr (6, fs_p0))] sz)) 0 0 (va_A [(h0, .inr (7, fs_h0)), (qp, .inl (kp, 28, .inr (.inr (.inr (.inr fp))))), (p0, .inr (6, fs_p0))] sz) := by
  refine Met.ofW (cc := cX7_readPolynomial) (maxL := 2) (ret := none) (by decide) rfl ?_
  intro p e s m args below meth c s₁ B hml hv
  obtain ⟨rfl, hsz, hP, hK, hD0, hN⟩ := hv
  have hx := B.exec
  have hb := B.bytes
  have hr := B.returns
  have hts := atoms_spec (ws := wv_r_readPolynomial) B.pre
  have hown : s.vm.findClass RX7 = some m.cls := findClass_of_methodNamed B.named
  have hlocks := B.notSynchronized
  subst hsz
  have hD := hD0.self (sz := s.heap.size)
  generalize hAe : va_A [(h0, .inr (7, fs_h0)), (qp, .inl (kp, 28, .inr (.inr (.inr (.inr fp))))), (p0, .inr (6, fs_p0))] s.heap.size = A at hD ⊢
  have hA : ∀ q : Nat, s.heap.size ≤ q → A q := fun q h => by rw [← hAe]; exact Or.inr h
  obtain ⟨H, hHe, hP, hS⟩ : ∃ H : Heap, H = s.heap ∧ va_P (dC, dI) vwCl [(h0, .inr (7, fs_h0)), (qp, .inl (kp, 28, .inr (.inr (.inr (.inr fp))))), (p0, .inr (6, fs_p0))] H ∧ va_S A s.heap H [] := ⟨s.heap, rfl, hP, va_S.rf⟩
  have hl := lv_entry ([.ref h0, .int 13]) (n := 2) (Nat.le_of_ble_eq_true rfl)
  rw [lg_entry_eq]
  generalize (lg_sl ([.ref h0, .int 13]) ++ List.replicate (2 - (lg_sl ([.ref h0, .int 13])).length) Slot.unset).toArray = ls at hl ⊢
  have hl : lv_has ls 2 [(0, .ref h0), (1, .int 13)] := hl
  rw [← hHe]; clear hHe
  refine lv_aload_n hx hb dX7_readPolynomial_0 rfl (lv_at hl 0 rfl) ?_
  refine lv_iload_n hx hb dX7_readPolynomial_1 rfl (lv_at hl 1 rfl) ?_
  refine va_put (D := (dC, dI)) (ci := 7) (v := .int 13) (ty := .int) (C := RX7) (T := TX7) (N := 10) hx hb hts (in_r_readPolynomial_X7) tyX7 tyX7_ok nmX7 hown hK hP hD hS 0 rfl rfl 6 (by decide) (hts (.fieldLink RX7 142 "MotionSigns$Reader" "letters" "I") (List.mem_of_getElem? (i := 1) rfl)) (fun _ h9 => h9) rfl (tyX7_ok 6 (by decide)) rfl rfl (mF.lt hF_h0 (by decide)) dX7_readPolynomial_2 ?_
  clear hP hD hS; try clear H
  intro H locs hP hD hS
  have hF0 := mF.sub (L' := [(0, .ref qt), (3, .ref qm), (2, .ref qp), (4, .int 0), (5, .int 0), (8, .int 1), (9, .int 0), (7, .int 0)]) hF_h0 [0, 1, 2, 3, 4, 5, 6, 8] rfl
  have hF1 := mF.put hF0 6 (.int 13) (by decide) rfl
  replace hP : va_P (dC, dI) vwCl [(h0, .inr (7, (fs_h0.set 6 (.int 13)))), (qp, .inl (kp, 28, .inr (.inr (.inr (.inr fp))))), (p0, .inr (6, fs_p0))] H := hP
  replace hD : va_D A [(h0, .inr (7, (fs_h0.set 6 (.int 13)))), (qp, .inl (kp, 28, .inr (.inr (.inr (.inr fp))))), (p0, .inr (6, fs_p0))] := hD
  generalize fs_h0.set 6 (.int 13) = fs_1 at hP hD hF1
  replace hF_h0 : mF 10 [(6, .int 13), (0, .ref qt), (3, .ref qm), (2, .ref qp), (4, .int 0), (5, .int 0), (8, .int 1), (9, .int 0), (7, .int 0)] fs_1 := hF1
  clear hF1 hF0
  replace hP : va_P (dC, dI) vwCl [(h0, .inr (7, fs_1)), (qp, .inl (kp, 28, .inr (.inr (.inr (.inr fp))))), (p0, .inr (6, fs_p0))] H := hP
  replace hD : va_D A [(h0, .inr (7, fs_1)), (qp, .inl (kp, 28, .inr (.inr (.inr (.inr fp))))), (p0, .inr (6, fs_p0))] := hD
  refine lv_aload_n hx hb dX7_readPolynomial_5 rfl (lv_at hl 0 rfl) ?_
  refine lv_iconst (v := 0) hx hb dX7_readPolynomial_6 (by decide) ?_
  refine va_put (D := (dC, dI)) (ci := 7) (v := .int 0) (ty := .boolean) (C := RX7) (T := TX7) (N := 10) hx hb hts (in_r_readPolynomial_X7) tyX7 tyX7_ok nmX7 hown hK hP hD hS 0 rfl rfl 7 (by decide) (hts (.fieldLink RX7 145 "MotionSigns$Reader" "over" "Z") (List.mem_of_getElem? (i := 2) rfl)) (fun _ h9 => h9) rfl (tyX7_ok 7 (by decide)) (by first | rfl | decide | exact rfl) rfl (mF.lt hF_h0 (by decide)) dX7_readPolynomial_7 ?_
  clear hP hD hS; try clear H
  intro H locs hP hD hS
  have hF0 := mF.sub (L' := [(6, .int 13), (0, .ref qt), (3, .ref qm), (2, .ref qp), (4, .int 0), (5, .int 0), (8, .int 1), (9, .int 0)]) hF_h0 [0, 1, 2, 3, 4, 5, 6, 7] rfl
  have hF1 := mF.put hF0 7 (.int 0) (by decide) rfl
  replace hP : va_P (dC, dI) vwCl [(h0, .inr (7, (fs_1.set 7 (.int 0)))), (qp, .inl (kp, 28, .inr (.inr (.inr (.inr fp))))), (p0, .inr (6, fs_p0))] H := hP
  replace hD : va_D A [(h0, .inr (7, (fs_1.set 7 (.int 0)))), (qp, .inl (kp, 28, .inr (.inr (.inr (.inr fp))))), (p0, .inr (6, fs_p0))] := hD
  generalize fs_1.set 7 (.int 0) = fs_2 at hP hD hF1
  replace hF_h0 : mF 10 [(7, .int 0), (6, .int 13), (0, .ref qt), (3, .ref qm), (2, .ref qp), (4, .int 0), (5, .int 0), (8, .int 1), (9, .int 0)] fs_2 := hF1
  clear hF1 hF0
  replace hP : va_P (dC, dI) vwCl [(h0, .inr (7, fs_2)), (qp, .inl (kp, 28, .inr (.inr (.inr (.inr fp))))), (p0, .inr (6, fs_p0))] H := hP
  replace hD : va_D A [(h0, .inr (7, fs_2)), (qp, .inl (kp, 28, .inr (.inr (.inr (.inr fp))))), (p0, .inr (6, fs_p0))] := hD
  refine lv_aload_n hx hb dX7_readPolynomial_10 rfl (lv_at hl 0 rfl) ?_
  refine lv_iconst (v := 0) hx hb dX7_readPolynomial_11 (by decide) ?_
  have hPc := hP.sub (ws' := [(h0, .inr (7, fs_2)), (qp, .inl (kp, 28, .inr (.inr (.inr (.inr fp))))), (p0, .inr (6, fs_p0))]) [0, 1, 2] rfl
  have hDc := hD.sub (ws' := [(h0, .inr (7, fs_2)), (qp, .inl (kp, 28, .inr (.inr (.inr (.inr fp))))), (p0, .inr (6, fs_p0))]) [0, 1, 2] (by decide) rfl
  have hKc := hK.sub (tys' := [(kp, .object RX6)]) [0] rfl
  have hFc := va_free (wc := [(h0, .inr (7, fs_2)), (qp, .inl (kp, 28, .inr (.inr (.inr (.inr fp))))), (p0, .inr (6, fs_p0))]) hD hS hA [0, 1, 2] rfl
  refine va_callv (va_runV (As := [.int 0]) (rest := []) ⟨hx, hb, hml, hown, hts⟩ (c_r_readSum l dC dI h0 qp kp p0a p0b fp p0 fs_2 fs_p0 (mF.sub hF_h0 [7, 4] rfl) (mF.sub hF_p0 [0, 1, 2] rfl) hfp H.size) (cwV 1 hts g_r_readPolynomial_r_readSum_149 rfl rfl rfl hv_X7_readSum ⟨Nat.le_of_ble_eq_true rfl, Nat.le_of_ble_eq_true rfl⟩) ⟨fun a U g mk q => by obtain ⟨q0, q1, qP, qK, qD, qE0⟩ := q; exact ⟨q0, q1, qP, va_K.moved (u := U) (U := U.calling g mk a) (Vm.Alike.refl U.vm) qK, qD, w_N.same rfl qE0⟩, va_recv hKc hPc (ci := 7) (q0 := 0) rfl rfl, fun U hU hW => ⟨rfl, by rw [hU], by rw [hU]; exact hPc, va_K.moved hW.alike hKc, hDc.weaken (fun _ _ _ _ => trivial), w_N.warm hW hN⟩⟩ rfl rfl hl.1 rfl (lv_room (Nat.le_of_ble_eq_true rfl)) dX7_readPolynomial_12 ⟨(Nat.le_of_ble_eq_true rfl), (Nat.le_of_ble_eq_true rfl)⟩) hS (fun q _ h => hFc q h) hFc (fun u t H1 locs1 ht hvm hw hB hz1 hk1 hS1 => ?_)
  obtain ⟨fs_3, hP1, hK1, hD1, hp_4⟩ := hB
  rw [ht] at hP1
  have hK1 := va_K.moved hvm.symm hK1
  have hJ := va_join (wr := []) (w1 := [(h0, .inr (7, fs_2)), (qp, .inl (kp, 28, .inr (.inr (.inr (.inr fp))))), (p0, .inr (6, fs_3))]) hP hD [0, 1, 2] [] rfl rfl (by decide) (by decide) hk1 hFc hP1 hD1
  clear hP hD hPc hDc hKc hFc hz1; try clear hk1
  obtain ⟨hP, hD⟩ := hJ
  replace hK := (hK.sub (tys' := [(kp, .object RX6)]) [0] rfl).app (hK1.sub (tys' := []) [] rfl)
  clear hP1 hK1 hD1 hvm ht hS; try clear t
  try clear H
  revert hS1
  intro hS
  generalize H1 = H at hP hS ⊢; try clear H1
  replace hP : va_P (dC, dI) vwCl [(h0, .inr (7, fs_2)), (qp, .inl (kp, 28, .inr (.inr (.inr (.inr fp))))), (p0, .inr (6, fs_3))] H := hP
  replace hD : va_D A [(h0, .inr (7, fs_2)), (qp, .inl (kp, 28, .inr (.inr (.inr (.inr fp))))), (p0, .inr (6, fs_3))] := hD
  replace hK : va_K (dC, dI) vwCl [(kp, .object RX6)] s := hK
  have hw_5 : True := hw; clear hw
  refine lv_aload_n hx hb dX7_readPolynomial_15 rfl (lv_at hl 0 rfl) ?_
  refine va_get (D := (dC, dI)) (ci := 7) (v := .int 1) (C := RX7) (T := TX7) (N := 10) hx hb hts (in_r_readPolynomial_X7) hown hK hP 0 rfl rfl 8 (by decide) (hts (.fieldLink RX7 69 "MotionSigns$Reader" "wrong" "I") (List.mem_of_getElem? (i := 7) rfl)) (fun _ h9 => h9) (mF.get hF_h0 7 rfl) dX7_readPolynomial_16 ?_
  refine lv_if_eq (tgt := 23) hx hb dX7_readPolynomial_19 (by decide) (fun hc => absurd hc (by decide)) (fun _ => ?_)
  have hP9 := hP.sub (ws' := [(h0, .inr (7, fs_2)), (qp, .inl (kp, 28, .inr (.inr (.inr (.inr fp))))), (p0, .inr (6, fs_3))]) [0, 1, 2] rfl
  have hD9 := hD.sub (ws' := [(h0, .inr (7, fs_2)), (qp, .inl (kp, 28, .inr (.inr (.inr (.inr fp))))), (p0, .inr (6, fs_3))]) [0, 1, 2] (by decide) rfl
  have hK9 := hK.sub (tys' := [(kp, .object RX6)]) [0] rfl
  rw [← hAe] at hD9
  refine W.widen (k := 0) (n := 0) (Nat.le_of_ble_eq_true rfl) (Nat.le_of_ble_eq_true rfl) ?_
  subst hAe
  exact (W.vret hx hb hr (fun t ht hW => ⟨⟨(), rfl, trivial, fs_2, fs_3, by rw [ht]; exact hP9, va_K.moved hW.alike hK9, hD9, (mF.sub hF_h0 [2, 3, 4, 5, 6, 7, 8, 1, 0] rfl), (mF.sub hp_4 [0, 1, 2] rfl)⟩, hS.F ht⟩) hS.2.2 dX7_readPolynomial_22)
def wv_r_readEquation : List Cond := .code yX7_readEquation cX7_readEquation 3 (some .int) :: ([.methodLink RX7 34 yX7_start, .instanceMethod yX7_start, .selects RX7 yX7_start yX7_start, .initialized RX7, .methodLink RX7 40 yX7_eatWord, .instanceMethod yX7_eatWord, .selects RX7 yX7_eatWord yX7_eatWord, .methodLink RX7 46 yX7_fail, .instanceMethod yX7_fail, .selects RX7 yX7_fail yX7_fail, .methodLink RX7 49 yX7_readPolynomial, .instanceMethod yX7_readPolynomial, .selects RX7 yX7_readPolynomial yX7_readPolynomial, .fieldLink RX7 18 "MotionSigns$Reader" "made" "LMotionSigns$Poly;", .methodLink RX7 52 yX7_row, .instanceMethod yX7_row, .selects RX7 yX7_row yX7_row, .methodLink RX7 56 yX6_copy, .instanceMethod yX6_copy, .selects RX6 yX6_copy yX6_copy, .initialized RX6, .methodLink RX7 60 yX7_needEnd, .instanceMethod yX7_needEnd, .selects RX7 yX7_needEnd yX7_needEnd] ++ (wv_r_start ++ (wv_r_eatWord4 ++ (wv_r_eatWord5 ++ (wv_r_fail ++ (wv_r_readPolynomial ++ (wsX70 ++ (wv_r_row0 ++ (wv_p_copy ++ (wv_r_needEnd ++ ([])))))))))))
theorem gw_r_readEquation : wv_r_readEquation.all goodWord = true := by decide +kernel
theorem in_r_readEquation_X7 : ∀ w ∈ wsX70, w ∈ wv_r_readEquation := fun _ h => List.mem_cons_of_mem _ (List.mem_append_right _ (List.mem_append_right _ (List.mem_append_right _ (List.mem_append_right _ (List.mem_append_right _ (List.mem_append_right _ (List.mem_append_left _ h)))))))
theorem g_r_readEquation_r_start_34 : GoodIn wv_r_readEquation (wsV RX7 34 RX7 yX7_start wv_r_start) := goodIn_app (goodIn_of _ (by decide +kernel)) (goodIn_sub (fun _ h => List.mem_cons_of_mem _ (List.mem_append_right _ (List.mem_append_left _ h))) gw_r_start)
theorem g_r_readEquation_r_eatWord4_40 : GoodIn wv_r_readEquation (wsV RX7 40 RX7 yX7_eatWord wv_r_eatWord4) := goodIn_app (goodIn_of _ (by decide +kernel)) (goodIn_sub (fun _ h => List.mem_cons_of_mem _ (List.mem_append_right _ (List.mem_append_right _ (List.mem_append_left _ h)))) gw_r_eatWord4)
theorem g_r_readEquation_r_eatWord5_40 : GoodIn wv_r_readEquation (wsV RX7 40 RX7 yX7_eatWord wv_r_eatWord5) := goodIn_app (goodIn_of _ (by decide +kernel)) (goodIn_sub (fun _ h => List.mem_cons_of_mem _ (List.mem_append_right _ (List.mem_append_right _ (List.mem_append_right _ (List.mem_append_left _ h))))) gw_r_eatWord5)
theorem g_r_readEquation_r_fail_46 : GoodIn wv_r_readEquation (wsV RX7 46 RX7 yX7_fail wv_r_fail) := goodIn_app (goodIn_of _ (by decide +kernel)) (goodIn_sub (fun _ h => List.mem_cons_of_mem _ (List.mem_append_right _ (List.mem_append_right _ (List.mem_append_right _ (List.mem_append_right _ (List.mem_append_left _ h)))))) gw_r_fail)
theorem g_r_readEquation_r_readPolynomial_49 : GoodIn wv_r_readEquation (wsV RX7 49 RX7 yX7_readPolynomial wv_r_readPolynomial) := goodIn_app (goodIn_of _ (by decide +kernel)) (goodIn_sub (fun _ h => List.mem_cons_of_mem _ (List.mem_append_right _ (List.mem_append_right _ (List.mem_append_right _ (List.mem_append_right _ (List.mem_append_right _ (List.mem_append_left _ h))))))) gw_r_readPolynomial)
theorem g_r_readEquation_r_row0_52 : GoodIn wv_r_readEquation (wsV RX7 52 RX7 yX7_row wv_r_row0) := goodIn_app (goodIn_of _ (by decide +kernel)) (goodIn_sub (fun _ h => List.mem_cons_of_mem _ (List.mem_append_right _ (List.mem_append_right _ (List.mem_append_right _ (List.mem_append_right _ (List.mem_append_right _ (List.mem_append_right _ (List.mem_append_right _ (List.mem_append_left _ h))))))))) gw_r_row0)
theorem g_r_readEquation_p_copy_56 : GoodIn wv_r_readEquation (wsV RX7 56 RX6 yX6_copy wv_p_copy) := goodIn_app (goodIn_of _ (by decide +kernel)) (goodIn_sub (fun _ h => List.mem_cons_of_mem _ (List.mem_append_right _ (List.mem_append_right _ (List.mem_append_right _ (List.mem_append_right _ (List.mem_append_right _ (List.mem_append_right _ (List.mem_append_right _ (List.mem_append_right _ (List.mem_append_left _ h)))))))))) gw_p_copy)
theorem g_r_readEquation_r_needEnd_60 : GoodIn wv_r_readEquation (wsV RX7 60 RX7 yX7_needEnd wv_r_needEnd) := goodIn_app (goodIn_of _ (by decide +kernel)) (goodIn_sub (fun _ h => List.mem_cons_of_mem _ (List.mem_append_right _ (List.mem_append_right _ (List.mem_append_right _ (List.mem_append_right _ (List.mem_append_right _ (List.mem_append_right _ (List.mem_append_right _ (List.mem_append_right _ (List.mem_append_right _ (List.mem_append_left _ h))))))))))) gw_r_needEnd)
set_option maxHeartbeats 4000000 in
set_option maxRecDepth 100000 in
/-- readEquation -/
theorem c_r_readEquation (l : Launch) (dC : Nat → ClassId) (dI : Nat → Nat → Nat) (h0 : Nat) (qt : Nat) (qm : Nat) (qp : Nat) (kt : Nat) (kp : Nat) (qma : Nat) (qmb : Nat) (p0a : Nat) (p0b : Nat) (k1a : Nat) (k1b : Nat) (ft : Nat → Int32) (fp : Nat → Option Nat) (p0 : Nat) (fs_h0 : List Value) (fs_qm : List Value) (fs_p0 : List Value) (hF_h0 : mF 10 [(0, .ref qt), (3, .ref qm), (2, .ref qp), (4, .int 0), (5, .int 0), (8, .int 0), (9, .int (-1)), (6, .int 0), (7, .int 0)] fs_h0) (hF_qm : mF 3 [(0, .ref qma), (1, .ref qmb), (2, .int 0)] fs_qm) (hF_p0 : mF 3 [(0, .ref p0a), (1, .ref p0b), (2, .int 0)] fs_p0) (hfp : fp 0 = some p0) (sz : Nat) : Met l yX7_readEquation wv_r_readEquation ({ frames := 3, cells := 0, slots := 0, locals := 68 }) (va_Pc [.ref h0, .int 0] (fun U => U.heap.size = sz ∧ va_P (dC, dI) vwCl [(h0, .inr (7, fs_h0)), (qt, .inl (kt, 200, .inl ft)), (qp, .inl (kp, 28, .inr (.inr (.inr (.inr fp))))), (qm, .inr (6, fs_qm)), (p0, .inr (6, fs_p0)), (p0a, .inl (k1a, 16, .inr (.inl (fun _ => 0)))), (p0b, .inl (k1b, 16, .inr (.inl (fun _ => 0))))] U.heap ∧ va_K (dC, dI) vwCl [(kt, .byte), (kp, .object RX6), (k1a, .long), (k1b, .long)] U ∧ va_D (fun _ => True) [(h0, .inr (7, fs_h0)), (qt, .inl (kt, 200, .inl ft)), (qp, .inl (kp, 28, .inr (.inr (.inr (.inr fp))))), (qm, .inr (6, fs_qm)), (p0, .inr (6, fs_p0)), (p0a, .inl (k1a, 16, .inr (.inl (fun _ => 0)))), (p0b, .inl (k1b, 16, .inr (.inl (fun _ => 0))))] ∧ w_N U ∧ w_S (va_A [(h0, .inr (7, fs_h0)), (qt, .inl (kt, 200, .inl ft)), (qp, .inl (kp, 28, .inr (.inr (.inr (.inr fp))))), (qm, .inr (6, fs_qm)), (p0, .inr (6, fs_p0)), (p0a, .inl (k1a, 16, .inr (.inl (fun _ => 0)))), (p0b, .inl (k1b, 16, .inr (.inl (fun _ => 0))))] sz) U U.heap)) (va_Qi (fun (r : Int32) (_ : Unit) => r = 0) (fun _ t => ∃ (fs_h02 : List Value) (fs_qm2 : List Value) (fs_p02 : List Value), va_P (dC, dI) vwCl [(h0, .inr (7, fs_h02)), (qt, .inl (kt, 200, .inl ft)), (qp, .inl (kp, 28, .inr (.inr (.inr (.inr fp))))), (qm, .inr (6, fs_qm2)), (p0, .inr (6, fs_p02)), (p0a, .inl (k1a, 16, .inr (.inl (fun _ => 0)))), (p0b, .inl (k1b, 16, .inr (.inl (fun _ => 0))))] t.heap ∧ va_K (dC, dI) vwCl [(kt, .byte), (kp, .object RX6), (k1a, .long), (k1b, .long)] t ∧ va_D (va_A [(h0, .inr (7, fs_h0)), (qt, .inl (kt, 200, .inl ft)), (qp, .inl (kp, 28, .inr (.inr (.inr (.inr fp))))), (qm, .inr (6, fs_qm)), (p0, .inr (6, fs_p0)), (p0a, .inl (k1a, 16, .inr (.inl (fun _ => 0)))), (p0b, .inl (k1b, 16, .inr (.inl (fun _ => 0))))] sz) [(h0, .inr (7, fs_h02)), (qt, .inl (kt, 200, .inl ft)), (qp, .inl (kp, 28, .inr (.inr (.inr (.inr fp))))), (qm, .inr (6, fs_qm2)), (p0, .inr (6, fs_p02)), (p0a, .inl (k1a, 16, .inr (.inl (fun _ => 0)))), (p0b, .inl (k1b, 16, .inr (.inl (fun _ => 0))))] ∧ mF 10 [(0, .ref qt), (3, .ref qm), (2, .ref qp), (4, .int 0), (5, .int 0), (8, .int 1), (9, .int 0), (6, .int 13), (7, .int 0)] fs_h02 ∧ mF 3 [(0, .ref qma), (1, .ref qmb), (2, .int 0)] fs_qm2 ∧ mF 3 [(0, .ref p0a), (1, .ref p0b), (2, .int 0)] fs_p02) (va_A [(h0, .inr (7, fs_h0)), (qt, .inl (kt, 200, .inl ft)), (qp, .inl (kp, 28, .inr (.inr (.inr (.inr fp))))), (qm, .inr (6, fs_qm)), (p0, .inr (6, fs_p0)), (p0a, .inl (k1a, 16, .inr (.inl (fun _ => 0)))), (p0b, .inl (k1b, 16, .inr (.inl (fun _ => 0))))] sz)) 0 0 (va_A [(h0, .inr (7, fs_h0)), (qt, .inl (kt, 200, .inl ft)), (qp, .inl (kp, 28, .inr (.inr (.inr (.inr fp))))), (qm, .inr (6, fs_qm)), (p0, .inr (6, fs_p0)), (p0a, .inl (k1a, 16, .inr (.inl (fun _ => 0)))), (p0b, .inl (k1b, 16, .inr (.inl (fun _ => 0))))] sz) := by
  refine Met.ofW (cc := cX7_readEquation) (maxL := 3) (ret := (some .int)) (by decide) rfl ?_
  intro p e s m args below meth c s₁ B hml hv
  obtain ⟨rfl, hsz, hP, hK, hD0, hN, hSt⟩ := hv
  have hx := B.exec
  have hb := B.bytes
  have hr := B.returns
  have hts := atoms_spec (ws := wv_r_readEquation) B.pre
  have hown : s.vm.findClass RX7 = some m.cls := findClass_of_methodNamed B.named
  have hlocks := B.notSynchronized
  subst hsz
  have hD := hD0.self (sz := s.heap.size)
  generalize hAe : va_A [(h0, .inr (7, fs_h0)), (qt, .inl (kt, 200, .inl ft)), (qp, .inl (kp, 28, .inr (.inr (.inr (.inr fp))))), (qm, .inr (6, fs_qm)), (p0, .inr (6, fs_p0)), (p0a, .inl (k1a, 16, .inr (.inl (fun _ => 0)))), (p0b, .inl (k1b, 16, .inr (.inl (fun _ => 0))))] s.heap.size = A at hD hSt ⊢
  have hA : ∀ q : Nat, s.heap.size ≤ q → A q := fun q h => by rw [← hAe]; exact Or.inr h
  obtain ⟨H, hHe, hP, hS⟩ : ∃ H : Heap, H = s.heap ∧ va_P (dC, dI) vwCl [(h0, .inr (7, fs_h0)), (qt, .inl (kt, 200, .inl ft)), (qp, .inl (kp, 28, .inr (.inr (.inr (.inr fp))))), (qm, .inr (6, fs_qm)), (p0, .inr (6, fs_p0)), (p0a, .inl (k1a, 16, .inr (.inl (fun _ => 0)))), (p0b, .inl (k1b, 16, .inr (.inl (fun _ => 0))))] H ∧ va_S A s.heap H [] := ⟨s.heap, rfl, hP, va_S.rf⟩
  have hl := lv_entry ([.ref h0, .int 0]) (n := 3) (Nat.le_of_ble_eq_true rfl)
  rw [lg_entry_eq]
  generalize (lg_sl ([.ref h0, .int 0]) ++ List.replicate (3 - (lg_sl ([.ref h0, .int 0])).length) Slot.unset).toArray = ls at hl ⊢
  have hl : lv_has ls 3 [(0, .ref h0), (1, .int 0)] := hl
  rw [← hHe]; clear hHe
  obtain ⟨⟨sf, vf, hRf, hWf⟩, ⟨sc, vc, hRc, hWc⟩⟩ := hSt
  refine lv_aload_n hx hb dX7_readEquation_0 rfl (lv_at hl 0 rfl) ?_
  refine lv_iload_n hx hb dX7_readEquation_1 rfl (lv_at hl 1 rfl) ?_
  have hPc := hP.sub (ws' := [(h0, .inr (7, fs_h0)), (qt, .inl (kt, 200, .inl ft)), (qm, .inr (6, fs_qm))]) [0, 1, 3] rfl
  have hDc := hD.sub (ws' := [(h0, .inr (7, fs_h0)), (qt, .inl (kt, 200, .inl ft)), (qm, .inr (6, fs_qm))]) [0, 1, 3] (by decide) rfl
  have hKc := hK.sub (tys' := [(kt, .byte)]) [0] rfl
  have hFc := va_free (wc := [(h0, .inr (7, fs_h0)), (qt, .inl (kt, 200, .inl ft)), (qm, .inr (6, fs_qm))]) hD hS hA [0, 1, 3] rfl
  refine va_callv (va_runV (As := [.int 0]) (rest := []) ⟨hx, hb, hml, hown, hts⟩ (c_r_start l dC dI h0 qt qm qp kt qma qmb ft fs_h0 fs_qm (mF.sub hF_h0 [0, 1, 2, 3, 4, 5, 6, 7, 8] rfl) (mF.sub hF_qm [0, 1, 2] rfl) H.size) (cwV 1 hts g_r_readEquation_r_start_34 rfl rfl rfl hv_X7_start ⟨Nat.le_of_ble_eq_true rfl, Nat.le_of_ble_eq_true rfl⟩) ⟨fun a U g mk q => by obtain ⟨q0, q1, qP, qK, qD, qE0⟩ := q; exact ⟨q0, q1, qP, va_K.moved (u := U) (U := U.calling g mk a) (Vm.Alike.refl U.vm) qK, qD, w_N.same rfl qE0⟩, va_recv hKc hPc (ci := 7) (q0 := 0) rfl rfl, fun U hU hW => ⟨rfl, by rw [hU], by rw [hU]; exact hPc, va_K.moved hW.alike hKc, hDc.weaken (fun _ _ _ _ => trivial), w_N.warm hW hN⟩⟩ rfl rfl hl.1 rfl (lv_room (Nat.le_of_ble_eq_true rfl)) dX7_readEquation_2 ⟨(Nat.le_of_ble_eq_true rfl), (Nat.le_of_ble_eq_true rfl)⟩) hS (fun q _ h => hFc q h) hFc (fun u t H1 locs1 ht hvm hw hB hz1 hk1 hS1 => ?_)
  obtain ⟨fs_1, fs_2, hP1, hK1, hD1, hp_3, hp_4⟩ := hB
  rw [ht] at hP1
  have hK1 := va_K.moved hvm.symm hK1
  have hJ := va_join (wr := [(qp, .inl (kp, 28, .inr (.inr (.inr (.inr fp))))), (p0, .inr (6, fs_p0)), (p0a, .inl (k1a, 16, .inr (.inl (fun _ => 0)))), (p0b, .inl (k1b, 16, .inr (.inl (fun _ => 0))))]) (w1 := [(h0, .inr (7, fs_1)), (qt, .inl (kt, 200, .inl ft)), (qm, .inr (6, fs_2))]) hP hD [0, 1, 3] [2, 4, 5, 6] rfl rfl (by decide) (by decide) hk1 hFc hP1 hD1
  clear hP hD hPc hDc hKc hFc hz1; try clear hk1
  obtain ⟨hP, hD⟩ := hJ
  replace hK := (hK.sub (tys' := [(kt, .byte), (kp, .object RX6), (k1a, .long), (k1b, .long)]) [0, 1, 2, 3] rfl).app (hK1.sub (tys' := []) [] rfl)
  clear hP1 hK1 hD1 hvm ht hS; try clear t
  try clear H
  revert hS1
  intro hS
  generalize H1 = H at hP hS ⊢; try clear H1
  replace hP : va_P (dC, dI) vwCl [(qp, .inl (kp, 28, .inr (.inr (.inr (.inr fp))))), (p0, .inr (6, fs_p0)), (p0a, .inl (k1a, 16, .inr (.inl (fun _ => 0)))), (p0b, .inl (k1b, 16, .inr (.inl (fun _ => 0)))), (h0, .inr (7, fs_1)), (qt, .inl (kt, 200, .inl ft)), (qm, .inr (6, fs_2))] H := hP
  replace hD : va_D A [(qp, .inl (kp, 28, .inr (.inr (.inr (.inr fp))))), (p0, .inr (6, fs_p0)), (p0a, .inl (k1a, 16, .inr (.inl (fun _ => 0)))), (p0b, .inl (k1b, 16, .inr (.inl (fun _ => 0)))), (h0, .inr (7, fs_1)), (qt, .inl (kt, 200, .inl ft)), (qm, .inr (6, fs_2))] := hD
  replace hK : va_K (dC, dI) vwCl [(kt, .byte), (kp, .object RX6), (k1a, .long), (k1b, .long)] s := hK
  have hw_5 : True := hw; clear hw
  refine lv_aload_n hx hb dX7_readEquation_5 rfl (lv_at hl 0 rfl) ?_
  refine va_ldcS hx hb hown hRf dX7_readEquation_6 ?_
  have hPc := hP.sub (ws' := [(h0, .inr (7, fs_1))]) [4] rfl
  have hDc := hD.sub (ws' := [(h0, .inr (7, fs_1))]) [4] (by decide) rfl
  have hKc := hK.sub (tys' := []) [] rfl
  have hFc := va_free (wc := [(h0, .inr (7, fs_1))]) hD hS hA [4] rfl
  refine va_calli (va_runV (As := [.ref sf]) (rest := []) ⟨hx, hb, hml, hown, hts⟩ (c_r_eatWord4 l dC dI h0 sf vf fs_1 (mF.sub hp_3 [4, 3] rfl) H.size) (cwV 1 hts g_r_readEquation_r_eatWord4_40 rfl rfl rfl hv_X7_eatWord ⟨Nat.le_of_ble_eq_true rfl, Nat.le_of_ble_eq_true rfl⟩) ⟨fun a U g mk q => by obtain ⟨q0, q1, qP, qK, qD, qE0, qE1⟩ := q; exact ⟨q0, q1, qP, va_K.moved (u := U) (U := U.calling g mk a) (Vm.Alike.refl U.vm) qK, qD, w_N.same rfl qE0, w_S1.same rfl rfl qE1⟩, va_recv hKc hPc (ci := 7) (q0 := 0) rfl rfl, fun U hU hW => ⟨rfl, by rw [hU], by rw [hU]; exact hPc, va_K.moved hW.alike hKc, hDc.weaken (fun _ _ _ _ => trivial), w_N.warm hW hN, w_S1.go hWf hW hS.2.1 hFc hU⟩⟩ rfl rfl hl.1 rfl (lv_room (Nat.le_of_ble_eq_true rfl)) dX7_readEquation_8 ⟨(Nat.le_of_ble_eq_true rfl), (Nat.le_of_ble_eq_true rfl)⟩) hS (fun q _ h => hFc q h) hFc (fun r_6 u t H1 locs1 ht hvm hw hB hz1 hk1 hS1 => ?_)
  obtain ⟨hP1, hK1, hD1⟩ := hB
  rw [ht] at hP1
  have hK1 := va_K.moved hvm.symm hK1
  have hJ := va_join (wr := [(qp, .inl (kp, 28, .inr (.inr (.inr (.inr fp))))), (p0, .inr (6, fs_p0)), (p0a, .inl (k1a, 16, .inr (.inl (fun _ => 0)))), (p0b, .inl (k1b, 16, .inr (.inl (fun _ => 0)))), (qt, .inl (kt, 200, .inl ft)), (qm, .inr (6, fs_2))]) (w1 := [(h0, .inr (7, fs_1))]) hP hD [4] [0, 1, 2, 3, 5, 6] rfl rfl (by decide) (by decide) hk1 hFc hP1 hD1
  clear hP hD hPc hDc hKc hFc hz1; try clear hk1
  obtain ⟨hP, hD⟩ := hJ
  replace hK := (hK.sub (tys' := [(kt, .byte), (kp, .object RX6), (k1a, .long), (k1b, .long)]) [0, 1, 2, 3] rfl).app (hK1.sub (tys' := []) [] rfl)
  clear hP1 hK1 hD1 hvm ht hS; try clear t
  try clear H
  revert hS1
  intro hS
  generalize H1 = H at hP hS ⊢; try clear H1
  replace hP : va_P (dC, dI) vwCl [(qp, .inl (kp, 28, .inr (.inr (.inr (.inr fp))))), (p0, .inr (6, fs_p0)), (p0a, .inl (k1a, 16, .inr (.inl (fun _ => 0)))), (p0b, .inl (k1b, 16, .inr (.inl (fun _ => 0)))), (qt, .inl (kt, 200, .inl ft)), (qm, .inr (6, fs_2)), (h0, .inr (7, fs_1))] H := hP
  replace hD : va_D A [(qp, .inl (kp, 28, .inr (.inr (.inr (.inr fp))))), (p0, .inr (6, fs_p0)), (p0a, .inl (k1a, 16, .inr (.inl (fun _ => 0)))), (p0b, .inl (k1b, 16, .inr (.inl (fun _ => 0)))), (qt, .inl (kt, 200, .inl ft)), (qm, .inr (6, fs_2)), (h0, .inr (7, fs_1))] := hD
  replace hK : va_K (dC, dI) vwCl [(kt, .byte), (kp, .object RX6), (k1a, .long), (k1b, .long)] s := hK
  have hw_7 : r_6 = 0 := hw; clear hw
  subst hw_7
  refine lv_if_eq (tgt := 18) hx hb dX7_readEquation_11 (by decide) (fun _ => ?_) (fun hc => absurd (by decide) hc)
  refine lv_aload_n hx hb dX7_readEquation_18 rfl (lv_at hl 0 rfl) ?_
  refine va_ldcS hx hb hown hRc dX7_readEquation_19 ?_
  have hPc := hP.sub (ws' := [(h0, .inr (7, fs_1))]) [6] rfl
  have hDc := hD.sub (ws' := [(h0, .inr (7, fs_1))]) [6] (by decide) rfl
  have hKc := hK.sub (tys' := []) [] rfl
  have hFc := va_free (wc := [(h0, .inr (7, fs_1))]) hD hS hA [6] rfl
  refine va_calli (va_runV (As := [.ref sc]) (rest := []) ⟨hx, hb, hml, hown, hts⟩ (c_r_eatWord5 l dC dI h0 sc vc fs_1 (mF.sub hp_3 [4, 3] rfl) H.size) (cwV 1 hts g_r_readEquation_r_eatWord5_40 rfl rfl rfl hv_X7_eatWord ⟨Nat.le_of_ble_eq_true rfl, Nat.le_of_ble_eq_true rfl⟩) ⟨fun a U g mk q => by obtain ⟨q0, q1, qP, qK, qD, qE0, qE1⟩ := q; exact ⟨q0, q1, qP, va_K.moved (u := U) (U := U.calling g mk a) (Vm.Alike.refl U.vm) qK, qD, w_N.same rfl qE0, w_S1.same rfl rfl qE1⟩, va_recv hKc hPc (ci := 7) (q0 := 0) rfl rfl, fun U hU hW => ⟨rfl, by rw [hU], by rw [hU]; exact hPc, va_K.moved hW.alike hKc, hDc.weaken (fun _ _ _ _ => trivial), w_N.warm hW hN, w_S1.go hWc hW hS.2.1 hFc hU⟩⟩ rfl rfl hl.1 rfl (lv_room (Nat.le_of_ble_eq_true rfl)) dX7_readEquation_21 ⟨(Nat.le_of_ble_eq_true rfl), (Nat.le_of_ble_eq_true rfl)⟩) hS (fun q _ h => hFc q h) hFc (fun r_8 u t H1 locs1 ht hvm hw hB hz1 hk1 hS1 => ?_)
  obtain ⟨hP1, hK1, hD1⟩ := hB
  rw [ht] at hP1
  have hK1 := va_K.moved hvm.symm hK1
  have hJ := va_join (wr := [(qp, .inl (kp, 28, .inr (.inr (.inr (.inr fp))))), (p0, .inr (6, fs_p0)), (p0a, .inl (k1a, 16, .inr (.inl (fun _ => 0)))), (p0b, .inl (k1b, 16, .inr (.inl (fun _ => 0)))), (qt, .inl (kt, 200, .inl ft)), (qm, .inr (6, fs_2))]) (w1 := [(h0, .inr (7, fs_1))]) hP hD [6] [0, 1, 2, 3, 4, 5] rfl rfl (by decide) (by decide) hk1 hFc hP1 hD1
  clear hP hD hPc hDc hKc hFc hz1; try clear hk1
  obtain ⟨hP, hD⟩ := hJ
  replace hK := (hK.sub (tys' := [(kt, .byte), (kp, .object RX6), (k1a, .long), (k1b, .long)]) [0, 1, 2, 3] rfl).app (hK1.sub (tys' := []) [] rfl)
  clear hP1 hK1 hD1 hvm ht hS; try clear t
  try clear H
  revert hS1
  intro hS
  generalize H1 = H at hP hS ⊢; try clear H1
  replace hP : va_P (dC, dI) vwCl [(qp, .inl (kp, 28, .inr (.inr (.inr (.inr fp))))), (p0, .inr (6, fs_p0)), (p0a, .inl (k1a, 16, .inr (.inl (fun _ => 0)))), (p0b, .inl (k1b, 16, .inr (.inl (fun _ => 0)))), (qt, .inl (kt, 200, .inl ft)), (qm, .inr (6, fs_2)), (h0, .inr (7, fs_1))] H := hP
  replace hD : va_D A [(qp, .inl (kp, 28, .inr (.inr (.inr (.inr fp))))), (p0, .inr (6, fs_p0)), (p0a, .inl (k1a, 16, .inr (.inl (fun _ => 0)))), (p0b, .inl (k1b, 16, .inr (.inl (fun _ => 0)))), (qt, .inl (kt, 200, .inl ft)), (qm, .inr (6, fs_2)), (h0, .inr (7, fs_1))] := hD
  replace hK : va_K (dC, dI) vwCl [(kt, .byte), (kp, .object RX6), (k1a, .long), (k1b, .long)] s := hK
  have hw_9 : r_8 = 0 := hw; clear hw
  subst hw_9
  refine lv_if_eq (tgt := 31) hx hb dX7_readEquation_24 (by decide) (fun _ => ?_) (fun hc => absurd (by decide) hc)
  refine lv_iconst (v := 0) hx hb dX7_readEquation_31 (by decide) ?_
  refine lv_istore_n (lv' := [(2, .int 0), (0, .ref h0), (1, .int 0)]) hx hb dX7_readEquation_32 rfl hl (by decide) rfl (fun ls hl => ?_)
  refine lv_iload_n hx hb dX7_readEquation_33 rfl (lv_at hl 0 rfl) ?_
  refine lv_if_ne (tgt := 42) hx hb dX7_readEquation_34 (by decide) (fun hc => absurd (by decide) hc) (fun _ => ?_)
  refine lv_aload_n hx hb dX7_readEquation_37 rfl (lv_at hl 1 rfl) ?_
  refine lv_iconst (v := 1) hx hb dX7_readEquation_38 (by decide) ?_
  have hPc := hP.sub (ws' := [(h0, .inr (7, fs_1))]) [6] rfl
  have hDc := hD.sub (ws' := [(h0, .inr (7, fs_1))]) [6] (by decide) rfl
  have hKc := hK.sub (tys' := []) [] rfl
  have hFc := va_free (wc := [(h0, .inr (7, fs_1))]) hD hS hA [6] rfl
  refine va_callv (va_runV (As := [.int 1]) (rest := []) ⟨hx, hb, hml, hown, hts⟩ (c_r_fail l dC dI h0 qt qm qp fs_1 (mF.sub hp_3 [0, 1, 2, 3, 4, 5, 6, 7, 8] rfl) H.size) (cwV 1 hts g_r_readEquation_r_fail_46 rfl rfl rfl hv_X7_fail ⟨Nat.le_of_ble_eq_true rfl, Nat.le_of_ble_eq_true rfl⟩) ⟨fun a U g mk q => by obtain ⟨q0, q1, qP, qK, qD, qE0⟩ := q; exact ⟨q0, q1, qP, va_K.moved (u := U) (U := U.calling g mk a) (Vm.Alike.refl U.vm) qK, qD, w_N.same rfl qE0⟩, va_recv hKc hPc (ci := 7) (q0 := 0) rfl rfl, fun U hU hW => ⟨rfl, by rw [hU], by rw [hU]; exact hPc, va_K.moved hW.alike hKc, hDc.weaken (fun _ _ _ _ => trivial), w_N.warm hW hN⟩⟩ rfl rfl hl.1 rfl (lv_room (Nat.le_of_ble_eq_true rfl)) dX7_readEquation_39 ⟨(Nat.le_of_ble_eq_true rfl), (Nat.le_of_ble_eq_true rfl)⟩) hS (fun q _ h => hFc q h) hFc (fun u t H1 locs1 ht hvm hw hB hz1 hk1 hS1 => ?_)
  obtain ⟨fs_10, hP1, hK1, hD1, hp_11⟩ := hB
  rw [ht] at hP1
  have hK1 := va_K.moved hvm.symm hK1
  have hJ := va_join (wr := [(qp, .inl (kp, 28, .inr (.inr (.inr (.inr fp))))), (p0, .inr (6, fs_p0)), (p0a, .inl (k1a, 16, .inr (.inl (fun _ => 0)))), (p0b, .inl (k1b, 16, .inr (.inl (fun _ => 0)))), (qt, .inl (kt, 200, .inl ft)), (qm, .inr (6, fs_2))]) (w1 := [(h0, .inr (7, fs_10))]) hP hD [6] [0, 1, 2, 3, 4, 5] rfl rfl (by decide) (by decide) hk1 hFc hP1 hD1
  clear hP hD hPc hDc hKc hFc hz1; try clear hk1
  obtain ⟨hP, hD⟩ := hJ
  replace hK := (hK.sub (tys' := [(kt, .byte), (kp, .object RX6), (k1a, .long), (k1b, .long)]) [0, 1, 2, 3] rfl).app (hK1.sub (tys' := []) [] rfl)
  clear hP1 hK1 hD1 hvm ht hS; try clear t
  try clear H
  revert hS1
  intro hS
  generalize H1 = H at hP hS ⊢; try clear H1
  replace hP : va_P (dC, dI) vwCl [(qp, .inl (kp, 28, .inr (.inr (.inr (.inr fp))))), (p0, .inr (6, fs_p0)), (p0a, .inl (k1a, 16, .inr (.inl (fun _ => 0)))), (p0b, .inl (k1b, 16, .inr (.inl (fun _ => 0)))), (qt, .inl (kt, 200, .inl ft)), (qm, .inr (6, fs_2)), (h0, .inr (7, fs_10))] H := hP
  replace hD : va_D A [(qp, .inl (kp, 28, .inr (.inr (.inr (.inr fp))))), (p0, .inr (6, fs_p0)), (p0a, .inl (k1a, 16, .inr (.inl (fun _ => 0)))), (p0b, .inl (k1b, 16, .inr (.inl (fun _ => 0)))), (qt, .inl (kt, 200, .inl ft)), (qm, .inr (6, fs_2)), (h0, .inr (7, fs_10))] := hD
  replace hK : va_K (dC, dI) vwCl [(kt, .byte), (kp, .object RX6), (k1a, .long), (k1b, .long)] s := hK
  have hw_12 : True := hw; clear hw
  refine lv_aload_n hx hb dX7_readEquation_42 rfl (lv_at hl 1 rfl) ?_
  refine lv_iload_n hx hb dX7_readEquation_43 rfl (lv_at hl 0 rfl) ?_
  refine lv_iconst (v := 1) hx hb dX7_readEquation_44 (by decide) ?_
  refine lv_icmp_ne (tgt := 53) hx hb dX7_readEquation_45 (by decide) (fun _ => ?_) (fun hc => absurd hc (by decide))
  refine lv_bipush (v := 13) hx hb dX7_readEquation_53 (by decide) ?_
  have hPc := hP.sub (ws' := [(h0, .inr (7, fs_10)), (qp, .inl (kp, 28, .inr (.inr (.inr (.inr fp))))), (p0, .inr (6, fs_p0))]) [6, 0, 1] rfl
  have hDc := hD.sub (ws' := [(h0, .inr (7, fs_10)), (qp, .inl (kp, 28, .inr (.inr (.inr (.inr fp))))), (p0, .inr (6, fs_p0))]) [6, 0, 1] (by decide) rfl
  have hKc := hK.sub (tys' := [(kp, .object RX6)]) [1] rfl
  have hFc := va_free (wc := [(h0, .inr (7, fs_10)), (qp, .inl (kp, 28, .inr (.inr (.inr (.inr fp))))), (p0, .inr (6, fs_p0))]) hD hS hA [6, 0, 1] rfl
  refine va_callv (va_runV (As := [.int 13]) (rest := []) ⟨hx, hb, hml, hown, hts⟩ (c_r_readPolynomial l dC dI h0 qt qm qp kp p0a p0b fp p0 fs_10 fs_p0 (mF.sub hp_11 [0, 1, 2, 3, 4, 5, 6, 7, 8] rfl) (mF.sub hF_p0 [0, 1, 2] rfl) hfp H.size) (cwV 1 hts g_r_readEquation_r_readPolynomial_49 rfl rfl rfl hv_X7_readPolynomial ⟨Nat.le_of_ble_eq_true rfl, Nat.le_of_ble_eq_true rfl⟩) ⟨fun a U g mk q => by obtain ⟨q0, q1, qP, qK, qD, qE0⟩ := q; exact ⟨q0, q1, qP, va_K.moved (u := U) (U := U.calling g mk a) (Vm.Alike.refl U.vm) qK, qD, w_N.same rfl qE0⟩, va_recv hKc hPc (ci := 7) (q0 := 0) rfl rfl, fun U hU hW => ⟨rfl, by rw [hU], by rw [hU]; exact hPc, va_K.moved hW.alike hKc, hDc.weaken (fun _ _ _ _ => trivial), w_N.warm hW hN⟩⟩ rfl rfl hl.1 rfl (lv_room (Nat.le_of_ble_eq_true rfl)) dX7_readEquation_55 ⟨(Nat.le_of_ble_eq_true rfl), (Nat.le_of_ble_eq_true rfl)⟩) hS (fun q _ h => hFc q h) hFc (fun u t H1 locs1 ht hvm hw hB hz1 hk1 hS1 => ?_)
  obtain ⟨fs_13, fs_14, hP1, hK1, hD1, hp_15, hp_16⟩ := hB
  rw [ht] at hP1
  have hK1 := va_K.moved hvm.symm hK1
  have hJ := va_join (wr := [(p0a, .inl (k1a, 16, .inr (.inl (fun _ => 0)))), (p0b, .inl (k1b, 16, .inr (.inl (fun _ => 0)))), (qt, .inl (kt, 200, .inl ft)), (qm, .inr (6, fs_2))]) (w1 := [(h0, .inr (7, fs_13)), (qp, .inl (kp, 28, .inr (.inr (.inr (.inr fp))))), (p0, .inr (6, fs_14))]) hP hD [6, 0, 1] [2, 3, 4, 5] rfl rfl (by decide) (by decide) hk1 hFc hP1 hD1
  clear hP hD hPc hDc hKc hFc hz1; try clear hk1
  obtain ⟨hP, hD⟩ := hJ
  replace hK := (hK.sub (tys' := [(kt, .byte), (kp, .object RX6), (k1a, .long), (k1b, .long)]) [0, 1, 2, 3] rfl).app (hK1.sub (tys' := []) [] rfl)
  clear hP1 hK1 hD1 hvm ht hS; try clear t
  try clear H
  revert hS1
  intro hS
  generalize H1 = H at hP hS ⊢; try clear H1
  replace hP : va_P (dC, dI) vwCl [(p0a, .inl (k1a, 16, .inr (.inl (fun _ => 0)))), (p0b, .inl (k1b, 16, .inr (.inl (fun _ => 0)))), (qt, .inl (kt, 200, .inl ft)), (qm, .inr (6, fs_2)), (h0, .inr (7, fs_13)), (qp, .inl (kp, 28, .inr (.inr (.inr (.inr fp))))), (p0, .inr (6, fs_14))] H := hP
  replace hD : va_D A [(p0a, .inl (k1a, 16, .inr (.inl (fun _ => 0)))), (p0b, .inl (k1b, 16, .inr (.inl (fun _ => 0)))), (qt, .inl (kt, 200, .inl ft)), (qm, .inr (6, fs_2)), (h0, .inr (7, fs_13)), (qp, .inl (kp, 28, .inr (.inr (.inr (.inr fp))))), (p0, .inr (6, fs_14))] := hD
  replace hK : va_K (dC, dI) vwCl [(kt, .byte), (kp, .object RX6), (k1a, .long), (k1b, .long)] s := hK
  have hw_17 : True := hw; clear hw
  refine lv_aload_n hx hb dX7_readEquation_58 rfl (lv_at hl 1 rfl) ?_
  refine va_get (D := (dC, dI)) (ci := 7) (v := .ref qm) (C := RX7) (T := TX7) (N := 10) hx hb hts (in_r_readEquation_X7) hown hK hP 4 rfl rfl 3 (by decide) (hts (.fieldLink RX7 18 "MotionSigns$Reader" "made" "LMotionSigns$Poly;") (List.mem_of_getElem? (i := 14) rfl)) (fun _ h9 => h9) (mF.get hp_15 1 rfl) dX7_readEquation_59 ?_
  refine lv_aload_n hx hb dX7_readEquation_62 rfl (lv_at hl 1 rfl) ?_
  refine lv_iconst (v := 0) hx hb dX7_readEquation_63 (by decide) ?_
  refine lv_iconst (v := 0) hx hb dX7_readEquation_64 (by decide) ?_
  have hPc := hP.sub (ws' := [(h0, .inr (7, fs_13)), (qp, .inl (kp, 28, .inr (.inr (.inr (.inr fp)))))]) [4, 5] rfl
  have hDc := hD.sub (ws' := [(h0, .inr (7, fs_13)), (qp, .inl (kp, 28, .inr (.inr (.inr (.inr fp)))))]) [4, 5] (by decide) rfl
  have hKc := hK.sub (tys' := [(kp, .object RX6)]) [1] rfl
  have hFc := va_free (wc := [(h0, .inr (7, fs_13)), (qp, .inl (kp, 28, .inr (.inr (.inr (.inr fp)))))]) hD hS hA [4, 5] rfl
  refine va_callr (va_runV (As := [.int 0, .int 0]) (rest := [.ref qm]) ⟨hx, hb, hml, hown, hts⟩ (c_r_row0 l dC dI h0 qp kp fp p0 fs_13 (mF.sub hp_15 [2] rfl) hfp H.size) (cwV 2 hts g_r_readEquation_r_row0_52 rfl rfl rfl hv_X7_row ⟨Nat.le_of_ble_eq_true rfl, Nat.le_of_ble_eq_true rfl⟩) ⟨fun a U g mk q => by obtain ⟨q0, q1, qP, qK, qD, qE0⟩ := q; exact ⟨q0, q1, qP, va_K.moved (u := U) (U := U.calling g mk a) (Vm.Alike.refl U.vm) qK, qD, w_N.same rfl qE0⟩, va_recv hKc hPc (ci := 7) (q0 := 0) rfl rfl, fun U hU hW => ⟨rfl, by rw [hU], by rw [hU]; exact hPc, va_K.moved hW.alike hKc, hDc.weaken (fun _ _ _ _ => trivial), w_N.warm hW hN⟩⟩ rfl rfl hl.1 rfl (lv_room (Nat.le_of_ble_eq_true rfl)) dX7_readEquation_65 ⟨(Nat.le_of_ble_eq_true rfl), (Nat.le_of_ble_eq_true rfl)⟩) hS (fun q _ h => hFc q h) hFc (fun u r_18 t H1 locs1 ht hvm hw hB hz1 hk1 hS1 => ?_)
  obtain ⟨hP1, hK1, hD1, hp_19⟩ := hB
  rw [ht] at hP1
  have hK1 := va_K.moved hvm.symm hK1
  have hJ := va_join (wr := [(p0a, .inl (k1a, 16, .inr (.inl (fun _ => 0)))), (p0b, .inl (k1b, 16, .inr (.inl (fun _ => 0)))), (qt, .inl (kt, 200, .inl ft)), (qm, .inr (6, fs_2)), (p0, .inr (6, fs_14))]) (w1 := [(h0, .inr (7, fs_13)), (qp, .inl (kp, 28, .inr (.inr (.inr (.inr fp)))))]) hP hD [4, 5] [0, 1, 2, 3, 6] rfl rfl (by decide) (by decide) hk1 hFc hP1 hD1
  clear hP hD hPc hDc hKc hFc hz1; try clear hk1
  obtain ⟨hP, hD⟩ := hJ
  replace hK := (hK.sub (tys' := [(kt, .byte), (kp, .object RX6), (k1a, .long), (k1b, .long)]) [0, 1, 2, 3] rfl).app (hK1.sub (tys' := []) [] rfl)
  clear hP1 hK1 hD1 hvm ht hS; try clear t
  try clear H
  revert hS1
  intro hS
  generalize H1 = H at hP hS ⊢; try clear H1
  replace hP : va_P (dC, dI) vwCl [(p0a, .inl (k1a, 16, .inr (.inl (fun _ => 0)))), (p0b, .inl (k1b, 16, .inr (.inl (fun _ => 0)))), (qt, .inl (kt, 200, .inl ft)), (qm, .inr (6, fs_2)), (p0, .inr (6, fs_14)), (h0, .inr (7, fs_13)), (qp, .inl (kp, 28, .inr (.inr (.inr (.inr fp)))))] H := hP
  replace hD : va_D A [(p0a, .inl (k1a, 16, .inr (.inl (fun _ => 0)))), (p0b, .inl (k1b, 16, .inr (.inl (fun _ => 0)))), (qt, .inl (kt, 200, .inl ft)), (qm, .inr (6, fs_2)), (p0, .inr (6, fs_14)), (h0, .inr (7, fs_13)), (qp, .inl (kp, 28, .inr (.inr (.inr (.inr fp)))))] := hD
  replace hK : va_K (dC, dI) vwCl [(kt, .byte), (kp, .object RX6), (k1a, .long), (k1b, .long)] s := hK
  have hw_20 : True := hw; clear hw
  rw [hp_19]
  have hPc := hP.sub (ws' := [(qm, .inr (6, fs_2)), (p0, .inr (6, fs_14)), (p0a, .inl (k1a, 16, .inr (.inl (fun _ => 0)))), (p0b, .inl (k1b, 16, .inr (.inl (fun _ => 0))))]) [3, 4, 0, 1] rfl
  have hDc := hD.sub (ws' := [(qm, .inr (6, fs_2)), (p0, .inr (6, fs_14)), (p0a, .inl (k1a, 16, .inr (.inl (fun _ => 0)))), (p0b, .inl (k1b, 16, .inr (.inl (fun _ => 0))))]) [3, 4, 0, 1] (by decide) rfl
  have hKc := hK.sub (tys' := [(k1a, .long), (k1b, .long)]) [2, 3] rfl
  have hFc := va_free (wc := [(qm, .inr (6, fs_2)), (p0, .inr (6, fs_14)), (p0a, .inl (k1a, 16, .inr (.inl (fun _ => 0)))), (p0b, .inl (k1b, 16, .inr (.inl (fun _ => 0))))]) hD hS hA [3, 4, 0, 1] rfl
  refine va_callv (va_runV (As := [.ref p0]) (rest := []) ⟨hx, hb, hml, hown, hts⟩ (c_p_copy l dC dI qm qma qmb p0 p0a p0b k1a k1b fs_2 fs_14 (mF.sub hp_4 [0, 1, 2] rfl) (mF.sub hp_16 [0, 1, 2] rfl) H.size) (cwV 1 hts g_r_readEquation_p_copy_56 rfl rfl rfl hv_X6_copy ⟨Nat.le_of_ble_eq_true rfl, Nat.le_of_ble_eq_true rfl⟩) ⟨fun a U g mk q => by obtain ⟨q0, q1, qP, qK, qD, qE0⟩ := q; exact ⟨q0, q1, qP, va_K.moved (u := U) (U := U.calling g mk a) (Vm.Alike.refl U.vm) qK, qD, w_N.same rfl qE0⟩, va_recv hKc hPc (ci := 6) (q0 := 0) rfl rfl, fun U hU hW => ⟨rfl, by rw [hU], by rw [hU]; exact hPc, va_K.moved hW.alike hKc, hDc.weaken (fun _ _ _ _ => trivial), w_N.warm hW hN⟩⟩ rfl rfl hl.1 rfl (lv_room (Nat.le_of_ble_eq_true rfl)) dX7_readEquation_68 ⟨(Nat.le_of_ble_eq_true rfl), (Nat.le_of_ble_eq_true rfl)⟩) hS (fun q _ h => hFc q h) hFc (fun u t H1 locs1 ht hvm hw hB hz1 hk1 hS1 => ?_)
  obtain ⟨fs_21, hP1, hK1, hD1, hp_22⟩ := hB
  rw [ht] at hP1
  have hK1 := va_K.moved hvm.symm hK1
  have hJ := va_join (wr := [(qt, .inl (kt, 200, .inl ft)), (h0, .inr (7, fs_13)), (qp, .inl (kp, 28, .inr (.inr (.inr (.inr fp)))))]) (w1 := [(qm, .inr (6, fs_21)), (p0, .inr (6, fs_14)), (p0a, .inl (k1a, 16, .inr (.inl (fun _ => 0)))), (p0b, .inl (k1b, 16, .inr (.inl (fun _ => 0))))]) hP hD [3, 4, 0, 1] [2, 5, 6] rfl rfl (by decide) (by decide) hk1 hFc hP1 hD1
  clear hP hD hPc hDc hKc hFc hz1; try clear hk1
  obtain ⟨hP, hD⟩ := hJ
  replace hK := (hK.sub (tys' := [(kt, .byte), (kp, .object RX6), (k1a, .long), (k1b, .long)]) [0, 1, 2, 3] rfl).app (hK1.sub (tys' := []) [] rfl)
  clear hP1 hK1 hD1 hvm ht hS; try clear t
  try clear H
  revert hS1
  intro hS
  generalize H1 = H at hP hS ⊢; try clear H1
  replace hP : va_P (dC, dI) vwCl [(qt, .inl (kt, 200, .inl ft)), (h0, .inr (7, fs_13)), (qp, .inl (kp, 28, .inr (.inr (.inr (.inr fp))))), (qm, .inr (6, fs_21)), (p0, .inr (6, fs_14)), (p0a, .inl (k1a, 16, .inr (.inl (fun _ => 0)))), (p0b, .inl (k1b, 16, .inr (.inl (fun _ => 0))))] H := hP
  replace hD : va_D A [(qt, .inl (kt, 200, .inl ft)), (h0, .inr (7, fs_13)), (qp, .inl (kp, 28, .inr (.inr (.inr (.inr fp))))), (qm, .inr (6, fs_21)), (p0, .inr (6, fs_14)), (p0a, .inl (k1a, 16, .inr (.inl (fun _ => 0)))), (p0b, .inl (k1b, 16, .inr (.inl (fun _ => 0))))] := hD
  replace hK : va_K (dC, dI) vwCl [(kt, .byte), (kp, .object RX6), (k1a, .long), (k1b, .long)] s := hK
  have hw_23 : True := hw; clear hw
  refine lv_aload_n hx hb dX7_readEquation_71 rfl (lv_at hl 1 rfl) ?_
  have hPc := hP.sub (ws' := [(h0, .inr (7, fs_13))]) [1] rfl
  have hDc := hD.sub (ws' := [(h0, .inr (7, fs_13))]) [1] (by decide) rfl
  have hKc := hK.sub (tys' := []) [] rfl
  have hFc := va_free (wc := [(h0, .inr (7, fs_13))]) hD hS hA [1] rfl
  refine va_callv (va_runV (As := []) (rest := []) ⟨hx, hb, hml, hown, hts⟩ (c_r_needEnd l dC dI h0 fs_13 (mF.sub hp_15 [5] rfl) H.size) (cwV 0 hts g_r_readEquation_r_needEnd_60 rfl rfl rfl hv_X7_needEnd ⟨Nat.le_of_ble_eq_true rfl, Nat.le_of_ble_eq_true rfl⟩) ⟨fun a U g mk q => by obtain ⟨q0, q1, qP, qK, qD, qE0⟩ := q; exact ⟨q0, q1, qP, va_K.moved (u := U) (U := U.calling g mk a) (Vm.Alike.refl U.vm) qK, qD, w_N.same rfl qE0⟩, va_recv hKc hPc (ci := 7) (q0 := 0) rfl rfl, fun U hU hW => ⟨rfl, by rw [hU], by rw [hU]; exact hPc, va_K.moved hW.alike hKc, hDc.weaken (fun _ _ _ _ => trivial), w_N.warm hW hN⟩⟩ rfl rfl hl.1 rfl (lv_room (Nat.le_of_ble_eq_true rfl)) dX7_readEquation_72 ⟨(Nat.le_of_ble_eq_true rfl), (Nat.le_of_ble_eq_true rfl)⟩) hS (fun q _ h => hFc q h) hFc (fun u t H1 locs1 ht hvm hw hB hz1 hk1 hS1 => ?_)
  obtain ⟨hP1, hK1, hD1⟩ := hB
  rw [ht] at hP1
  have hK1 := va_K.moved hvm.symm hK1
  have hJ := va_join (wr := [(qt, .inl (kt, 200, .inl ft)), (qp, .inl (kp, 28, .inr (.inr (.inr (.inr fp))))), (qm, .inr (6, fs_21)), (p0, .inr (6, fs_14)), (p0a, .inl (k1a, 16, .inr (.inl (fun _ => 0)))), (p0b, .inl (k1b, 16, .inr (.inl (fun _ => 0))))]) (w1 := [(h0, .inr (7, fs_13))]) hP hD [1] [0, 2, 3, 4, 5, 6] rfl rfl (by decide) (by decide) hk1 hFc hP1 hD1
  clear hP hD hPc hDc hKc hFc hz1; try clear hk1
  obtain ⟨hP, hD⟩ := hJ
  replace hK := (hK.sub (tys' := [(kt, .byte), (kp, .object RX6), (k1a, .long), (k1b, .long)]) [0, 1, 2, 3] rfl).app (hK1.sub (tys' := []) [] rfl)
  clear hP1 hK1 hD1 hvm ht hS; try clear t
  try clear H
  revert hS1
  intro hS
  generalize H1 = H at hP hS ⊢; try clear H1
  replace hP : va_P (dC, dI) vwCl [(qt, .inl (kt, 200, .inl ft)), (qp, .inl (kp, 28, .inr (.inr (.inr (.inr fp))))), (qm, .inr (6, fs_21)), (p0, .inr (6, fs_14)), (p0a, .inl (k1a, 16, .inr (.inl (fun _ => 0)))), (p0b, .inl (k1b, 16, .inr (.inl (fun _ => 0)))), (h0, .inr (7, fs_13))] H := hP
  replace hD : va_D A [(qt, .inl (kt, 200, .inl ft)), (qp, .inl (kp, 28, .inr (.inr (.inr (.inr fp))))), (qm, .inr (6, fs_21)), (p0, .inr (6, fs_14)), (p0a, .inl (k1a, 16, .inr (.inl (fun _ => 0)))), (p0b, .inl (k1b, 16, .inr (.inl (fun _ => 0)))), (h0, .inr (7, fs_13))] := hD
  replace hK : va_K (dC, dI) vwCl [(kt, .byte), (kp, .object RX6), (k1a, .long), (k1b, .long)] s := hK
  have hw_24 : True := hw; clear hw
  refine lv_iload_n hx hb dX7_readEquation_75 rfl (lv_at hl 0 rfl) ?_
  have hP9 := hP.sub (ws' := [(h0, .inr (7, fs_13)), (qt, .inl (kt, 200, .inl ft)), (qp, .inl (kp, 28, .inr (.inr (.inr (.inr fp))))), (qm, .inr (6, fs_21)), (p0, .inr (6, fs_14)), (p0a, .inl (k1a, 16, .inr (.inl (fun _ => 0)))), (p0b, .inl (k1b, 16, .inr (.inl (fun _ => 0))))]) [6, 0, 1, 2, 3, 4, 5] rfl
  have hD9 := hD.sub (ws' := [(h0, .inr (7, fs_13)), (qt, .inl (kt, 200, .inl ft)), (qp, .inl (kp, 28, .inr (.inr (.inr (.inr fp))))), (qm, .inr (6, fs_21)), (p0, .inr (6, fs_14)), (p0a, .inl (k1a, 16, .inr (.inl (fun _ => 0)))), (p0b, .inl (k1b, 16, .inr (.inl (fun _ => 0))))]) [6, 0, 1, 2, 3, 4, 5] (by decide) rfl
  have hK9 := hK.sub (tys' := [(kt, .byte), (kp, .object RX6), (k1a, .long), (k1b, .long)]) [0, 1, 2, 3] rfl
  rw [← hAe] at hD9
  refine W.widen (k := 0) (n := 0) (Nat.le_of_ble_eq_true rfl) (Nat.le_of_ble_eq_true rfl) ?_
  subst hAe
  exact (W.iret (v := 0) hx hb hr (fun t ht hW => ⟨⟨0, (), rfl, rfl, fs_13, fs_21, fs_14, by rw [ht]; exact hP9, va_K.moved hW.alike hK9, hD9, (mF.sub hp_15 [0, 1, 2, 3, 4, 5, 6, 7, 8] rfl), (mF.sub hp_22 [0, 1, 2] rfl), (mF.sub hp_16 [0, 1, 2] rfl)⟩, hS.F ht⟩) hS.2.2 dX7_readEquation_76)
def wv_f_equation : List Cond := .code yX11_equation cX11_equation 4 (some .int) :: ([.methodLink RX11 119 yX11_takeTape, .instanceMethod yX11_takeTape, .selects RX11 yX11_takeTape yX11_takeTape, .initialized RX11, .fieldLink RX11 41 "MotionSigns" "reader" "LMotionSigns$Reader;", .methodLink RX11 122 yX7_readEquation, .instanceMethod yX7_readEquation, .selects RX7 yX7_readEquation yX7_readEquation, .initialized RX7, .fieldLink RX11 13 "MotionSigns" "faultPlace" "I"] ++ (wv_f_takeTape ++ (wsX110 ++ (wv_r_readEquation ++ (wsX70 ++ ([]))))))
theorem gw_f_equation : wv_f_equation.all goodWord = true := by decide +kernel
theorem in_f_equation_X11 : ∀ w ∈ wsX110, w ∈ wv_f_equation := fun _ h => List.mem_cons_of_mem _ (List.mem_append_right _ (List.mem_append_right _ (List.mem_append_left _ h)))
theorem in_f_equation_X7 : ∀ w ∈ wsX70, w ∈ wv_f_equation := fun _ h => List.mem_cons_of_mem _ (List.mem_append_right _ (List.mem_append_right _ (List.mem_append_right _ (List.mem_append_right _ (List.mem_append_left _ h)))))
theorem g_f_equation_f_takeTape_119 : GoodIn wv_f_equation (wsV RX11 119 RX11 yX11_takeTape wv_f_takeTape) := goodIn_app (goodIn_of _ (by decide +kernel)) (goodIn_sub (fun _ h => List.mem_cons_of_mem _ (List.mem_append_right _ (List.mem_append_left _ h))) gw_f_takeTape)
theorem g_f_equation_r_readEquation_122 : GoodIn wv_f_equation (wsV RX11 122 RX7 yX7_readEquation wv_r_readEquation) := goodIn_app (goodIn_of _ (by decide +kernel)) (goodIn_sub (fun _ h => List.mem_cons_of_mem _ (List.mem_append_right _ (List.mem_append_right _ (List.mem_append_right _ (List.mem_append_left _ h))))) gw_r_readEquation)
set_option maxHeartbeats 4000000 in
set_option maxRecDepth 100000 in
/-- equation -/
theorem c_f_equation (l : Launch) (hlt : l.stackTraces = false) (dC : Nat → ClassId) (dI : Nat → Nat → Nat) (h0 : Nat) (qR : Nat) (qt : Nat) (qm : Nat) (qp : Nat) (kt : Nat) (kp : Nat) (qma : Nat) (qmb : Nat) (p0a : Nat) (p0b : Nat) (k1a : Nat) (k1b : Nat) (x0 : Int32) (ft : Nat → Int32) (fp : Nat → Option Nat) (p0 : Nat) (fs_h0 : List Value) (fs_qR : List Value) (fs_qm : List Value) (fs_p0 : List Value) (hF_h0 : mF 19 [(1, .int 0), (6, .ref qR), (2, .int (-1))] fs_h0) (hF_qR : mF 10 [(0, .ref qt), (3, .ref qm), (2, .ref qp), (4, .int 0), (5, .int 0), (8, .int 0), (9, .int (-1)), (6, .int 0), (7, .int 0)] fs_qR) (hF_qm : mF 3 [(0, .ref qma), (1, .ref qmb), (2, .int 0)] fs_qm) (hF_p0 : mF 3 [(0, .ref p0a), (1, .ref p0b), (2, .int 0)] fs_p0) (hfp : fp 0 = some p0) (sz : Nat) : vx_Met l yX11_equation wv_f_equation ({ frames := 7, cells := 1, slots := 6, locals := 111 }) (va_Pc [.ref h0, .int x0] (fun U => U.heap.size = sz ∧ va_P (dC, dI) vwCl [(h0, .inr (11, fs_h0)), (qR, .inr (7, fs_qR)), (qt, .inl (kt, 200, .inl ft)), (qp, .inl (kp, 28, .inr (.inr (.inr (.inr fp))))), (qm, .inr (6, fs_qm)), (p0, .inr (6, fs_p0)), (p0a, .inl (k1a, 16, .inr (.inl (fun _ => 0)))), (p0b, .inl (k1b, 16, .inr (.inl (fun _ => 0))))] U.heap ∧ va_K (dC, dI) vwCl [(kt, .byte), (kp, .object RX6), (k1a, .long), (k1b, .long)] U ∧ va_D (fun _ => True) [(h0, .inr (11, fs_h0)), (qR, .inr (7, fs_qR)), (qt, .inl (kt, 200, .inl ft)), (qp, .inl (kp, 28, .inr (.inr (.inr (.inr fp))))), (qm, .inr (6, fs_qm)), (p0, .inr (6, fs_p0)), (p0a, .inl (k1a, 16, .inr (.inl (fun _ => 0)))), (p0b, .inl (k1b, 16, .inr (.inl (fun _ => 0))))] ∧ w_N U ∧ w_T (va_A [(h0, .inr (11, fs_h0)), (qR, .inr (7, fs_qR)), (qt, .inl (kt, 200, .inl ft)), (qp, .inl (kp, 28, .inr (.inr (.inr (.inr fp))))), (qm, .inr (6, fs_qm)), (p0, .inr (6, fs_p0)), (p0a, .inl (k1a, 16, .inr (.inl (fun _ => 0)))), (p0b, .inl (k1b, 16, .inr (.inl (fun _ => 0))))] sz) U U.heap ∧ w_S (va_A [(h0, .inr (11, fs_h0)), (qR, .inr (7, fs_qR)), (qt, .inl (kt, 200, .inl ft)), (qp, .inl (kp, 28, .inr (.inr (.inr (.inr fp))))), (qm, .inr (6, fs_qm)), (p0, .inr (6, fs_p0)), (p0a, .inl (k1a, 16, .inr (.inl (fun _ => 0)))), (p0b, .inl (k1b, 16, .inr (.inl (fun _ => 0))))] sz) U U.heap)) (va_Qi (fun (r : Int32) (_ : Unit) => r = (-9) ∧ kTape x0) (fun _ t => va_P (dC, dI) vwCl [] t.heap ∧ va_K (dC, dI) vwCl [] t ∧ va_D (va_A [(h0, .inr (11, fs_h0)), (qR, .inr (7, fs_qR)), (qt, .inl (kt, 200, .inl ft)), (qp, .inl (kp, 28, .inr (.inr (.inr (.inr fp))))), (qm, .inr (6, fs_qm)), (p0, .inr (6, fs_p0)), (p0a, .inl (k1a, 16, .inr (.inl (fun _ => 0)))), (p0b, .inl (k1b, 16, .inr (.inl (fun _ => 0))))] sz) []) (va_A [(h0, .inr (11, fs_h0)), (qR, .inr (7, fs_qR)), (qt, .inl (kt, 200, .inl ft)), (qp, .inl (kp, 28, .inr (.inr (.inr (.inr fp))))), (qm, .inr (6, fs_qm)), (p0, .inr (6, fs_p0)), (p0a, .inl (k1a, 16, .inr (.inl (fun _ => 0)))), (p0b, .inl (k1b, 16, .inr (.inl (fun _ => 0))))] sz)) (vx_X (fun _ : Unit => ¬ kTape x0) (fun E _ _ => E = "java/lang/IllegalArgumentException") (va_A [(h0, .inr (11, fs_h0)), (qR, .inr (7, fs_qR)), (qt, .inl (kt, 200, .inl ft)), (qp, .inl (kp, 28, .inr (.inr (.inr (.inr fp))))), (qm, .inr (6, fs_qm)), (p0, .inr (6, fs_p0)), (p0a, .inl (k1a, 16, .inr (.inl (fun _ => 0)))), (p0b, .inl (k1b, 16, .inr (.inl (fun _ => 0))))] sz)) 1 6 (va_A [(h0, .inr (11, fs_h0)), (qR, .inr (7, fs_qR)), (qt, .inl (kt, 200, .inl ft)), (qp, .inl (kp, 28, .inr (.inr (.inr (.inr fp))))), (qm, .inr (6, fs_qm)), (p0, .inr (6, fs_p0)), (p0a, .inl (k1a, 16, .inr (.inl (fun _ => 0)))), (p0b, .inl (k1b, 16, .inr (.inl (fun _ => 0))))] sz) := by
  refine vx_ofW (cc := cX11_equation) (maxL := 4) (ret := (some .int)) (by decide) rfl ?_
  intro p e s m args below meth c s₁ B hml hnt hv
  obtain ⟨rfl, hsz, hP, hK, hD0, hN, hT, hSt⟩ := hv
  have hx := B.exec
  have hb := B.bytes
  have hr := B.returns
  have hts := atoms_spec (ws := wv_f_equation) B.pre
  have hown : s.vm.findClass RX11 = some m.cls := findClass_of_methodNamed B.named
  have hlocks := B.notSynchronized
  subst hsz
  have hD := hD0.self (sz := s.heap.size)
  generalize hAe : va_A [(h0, .inr (11, fs_h0)), (qR, .inr (7, fs_qR)), (qt, .inl (kt, 200, .inl ft)), (qp, .inl (kp, 28, .inr (.inr (.inr (.inr fp))))), (qm, .inr (6, fs_qm)), (p0, .inr (6, fs_p0)), (p0a, .inl (k1a, 16, .inr (.inl (fun _ => 0)))), (p0b, .inl (k1b, 16, .inr (.inl (fun _ => 0))))] s.heap.size = A at hD hT hSt ⊢
  have hA : ∀ q : Nat, s.heap.size ≤ q → A q := fun q h => by rw [← hAe]; exact Or.inr h
  obtain ⟨H, hHe, hP, hS⟩ : ∃ H : Heap, H = s.heap ∧ va_P (dC, dI) vwCl [(h0, .inr (11, fs_h0)), (qR, .inr (7, fs_qR)), (qt, .inl (kt, 200, .inl ft)), (qp, .inl (kp, 28, .inr (.inr (.inr (.inr fp))))), (qm, .inr (6, fs_qm)), (p0, .inr (6, fs_p0)), (p0a, .inl (k1a, 16, .inr (.inl (fun _ => 0)))), (p0b, .inl (k1b, 16, .inr (.inl (fun _ => 0))))] H ∧ va_S A s.heap H [] := ⟨s.heap, rfl, hP, va_S.rf⟩
  have hl := lv_entry ([.ref h0, .int x0]) (n := 4) (Nat.le_of_ble_eq_true rfl)
  rw [lg_entry_eq]
  generalize (lg_sl ([.ref h0, .int x0]) ++ List.replicate (4 - (lg_sl ([.ref h0, .int x0])).length) Slot.unset).toArray = ls at hl ⊢
  have hl : lv_has ls 4 [(0, .ref h0), (1, .int x0)] := hl
  rw [← hHe]; clear hHe
  refine lv_aload_n hx hb dX11_equation_0 rfl (lv_at hl 0 rfl) ?_
  refine lv_iload_n hx hb dX11_equation_1 rfl (lv_at hl 1 rfl) ?_
  have hPc := hP.sub (ws' := [(h0, .inr (11, fs_h0))]) [0] rfl
  have hDc := hD.sub (ws' := [(h0, .inr (11, fs_h0))]) [0] (by decide) rfl
  have hKc := hK.sub (tys' := []) [] rfl
  have hFc := va_free (wc := [(h0, .inr (11, fs_h0))]) hD hS hA [0] rfl
  refine vx_callv (vx_runV (As := [.int x0]) (rest := []) ⟨hx, hb, hml, hown, hts⟩ (c_f_takeTape l hlt dC dI h0 qR x0 fs_h0 (mF.sub hF_h0 [0, 1, 2] rfl) H.size) (cwV 1 hts g_f_equation_f_takeTape_119 rfl rfl rfl hv_X11_takeTape ⟨Nat.le_of_ble_eq_true rfl, Nat.le_of_ble_eq_true rfl⟩) ⟨fun a U g mk q => by obtain ⟨q0, q1, qP, qK, qD, qE0, qE1⟩ := q; exact ⟨q0, q1, qP, va_K.moved (u := U) (U := U.calling g mk a) (Vm.Alike.refl U.vm) qK, qD, w_N.same rfl qE0, w_T.same rfl rfl qE1⟩, va_recv hKc hPc (ci := 11) (q0 := 0) rfl rfl, fun U hU hW => ⟨rfl, by rw [hU], by rw [hU]; exact hPc, va_K.moved hW.alike hKc, hDc.weaken (fun _ _ _ _ => trivial), w_N.warm hW hN, w_T.go hT hW hS.2.1 hFc hU⟩⟩ rfl rfl hl.1 rfl (lv_room (Nat.le_of_ble_eq_true rfl)) dX11_equation_2 ⟨(Nat.le_of_ble_eq_true rfl), (Nat.le_of_ble_eq_true rfl)⟩) hS (fun q _ h => hFc q h) hFc (fun q _ h => hFc q h) (fun E9 ce9 q9 u t H1 locs1 ht hvm hpx hBX hz1 hk1 hS1 hcell9 hv9 hcl9 => ?_) (fun u t H1 locs1 ht hvm hw hB hz1 hk1 hS1 => ?_)
  · skip
    obtain rfl : E9 = "java/lang/IllegalArgumentException" := hBX
    exact vx_out (fun x hx9 => (hnt x hx9).elim) hlocks hcell9 hv9 hcl9 (fun t9 ht9 _ => ⟨(), hpx, rfl, hS1.F ht9⟩) hS1.2.2 (Nat.le_of_ble_eq_true rfl) (Nat.le_of_ble_eq_true rfl)
  · skip
    obtain ⟨fs_1, hP1, hK1, hD1, hp_2⟩ := hB
    rw [ht] at hP1
    have hK1 := va_K.moved hvm.symm hK1
    have hJ := va_join (wr := [(qR, .inr (7, fs_qR)), (qt, .inl (kt, 200, .inl ft)), (qp, .inl (kp, 28, .inr (.inr (.inr (.inr fp))))), (qm, .inr (6, fs_qm)), (p0, .inr (6, fs_p0)), (p0a, .inl (k1a, 16, .inr (.inl (fun _ => 0)))), (p0b, .inl (k1b, 16, .inr (.inl (fun _ => 0))))]) (w1 := [(h0, .inr (11, fs_1))]) hP hD [0] [1, 2, 3, 4, 5, 6, 7] rfl rfl (by decide) (by decide) hk1 hFc hP1 hD1
    clear hP hD hPc hDc hKc hFc hz1; try clear hk1
    obtain ⟨hP, hD⟩ := hJ
    replace hK := (hK.sub (tys' := [(kt, .byte), (kp, .object RX6), (k1a, .long), (k1b, .long)]) [0, 1, 2, 3] rfl).app (hK1.sub (tys' := []) [] rfl)
    clear hP1 hK1 hD1 hvm ht hS; try clear t
    try clear H
    revert hS1
    intro hS
    generalize H1 = H at hP hS ⊢; try clear H1
    replace hP : va_P (dC, dI) vwCl [(qR, .inr (7, fs_qR)), (qt, .inl (kt, 200, .inl ft)), (qp, .inl (kp, 28, .inr (.inr (.inr (.inr fp))))), (qm, .inr (6, fs_qm)), (p0, .inr (6, fs_p0)), (p0a, .inl (k1a, 16, .inr (.inl (fun _ => 0)))), (p0b, .inl (k1b, 16, .inr (.inl (fun _ => 0)))), (h0, .inr (11, fs_1))] H := hP
    replace hD : va_D A [(qR, .inr (7, fs_qR)), (qt, .inl (kt, 200, .inl ft)), (qp, .inl (kp, 28, .inr (.inr (.inr (.inr fp))))), (qm, .inr (6, fs_qm)), (p0, .inr (6, fs_p0)), (p0a, .inl (k1a, 16, .inr (.inl (fun _ => 0)))), (p0b, .inl (k1b, 16, .inr (.inl (fun _ => 0)))), (h0, .inr (11, fs_1))] := hD
    replace hK : va_K (dC, dI) vwCl [(kt, .byte), (kp, .object RX6), (k1a, .long), (k1b, .long)] s := hK
    have hw_3 : kTape x0 := hw; clear hw
    obtain rfl : x0 = 0 := kTape_0 hw_3
    have hl : lv_has ls 4 [(0, .ref h0), (1, .int 0)] := hl
    refine lv_aload_n hx hb dX11_equation_5 rfl (lv_at hl 0 rfl) ?_
    refine va_get (D := (dC, dI)) (ci := 11) (v := .ref qR) (C := RX11) (T := TX11) (N := 19) hx hb hts (in_f_equation_X11) hown hK hP 7 rfl rfl 6 (by decide) (hts (.fieldLink RX11 41 "MotionSigns" "reader" "LMotionSigns$Reader;") (List.mem_of_getElem? (i := 5) rfl)) (fun _ h9 => h9) (mF.get hp_2 1 rfl) dX11_equation_6 ?_
    refine lv_iload_n hx hb dX11_equation_9 rfl (lv_at hl 1 rfl) ?_
    have hPc := hP.sub (ws' := [(qR, .inr (7, fs_qR)), (qt, .inl (kt, 200, .inl ft)), (qp, .inl (kp, 28, .inr (.inr (.inr (.inr fp))))), (qm, .inr (6, fs_qm)), (p0, .inr (6, fs_p0)), (p0a, .inl (k1a, 16, .inr (.inl (fun _ => 0)))), (p0b, .inl (k1b, 16, .inr (.inl (fun _ => 0))))]) [0, 1, 2, 3, 4, 5, 6] rfl
    have hDc := hD.sub (ws' := [(qR, .inr (7, fs_qR)), (qt, .inl (kt, 200, .inl ft)), (qp, .inl (kp, 28, .inr (.inr (.inr (.inr fp))))), (qm, .inr (6, fs_qm)), (p0, .inr (6, fs_p0)), (p0a, .inl (k1a, 16, .inr (.inl (fun _ => 0)))), (p0b, .inl (k1b, 16, .inr (.inl (fun _ => 0))))]) [0, 1, 2, 3, 4, 5, 6] (by decide) rfl
    have hKc := hK.sub (tys' := [(kt, .byte), (kp, .object RX6), (k1a, .long), (k1b, .long)]) [0, 1, 2, 3] rfl
    have hFc := va_free (wc := [(qR, .inr (7, fs_qR)), (qt, .inl (kt, 200, .inl ft)), (qp, .inl (kp, 28, .inr (.inr (.inr (.inr fp))))), (qm, .inr (6, fs_qm)), (p0, .inr (6, fs_p0)), (p0a, .inl (k1a, 16, .inr (.inl (fun _ => 0)))), (p0b, .inl (k1b, 16, .inr (.inl (fun _ => 0))))]) hD hS hA [0, 1, 2, 3, 4, 5, 6] rfl
    refine va_calli (va_runV (As := [.int 0]) (rest := []) ⟨hx, hb, hml, hown, hts⟩ (c_r_readEquation l dC dI qR qt qm qp kt kp qma qmb p0a p0b k1a k1b ft fp p0 fs_qR fs_qm fs_p0 (mF.sub hF_qR [0, 1, 2, 3, 4, 5, 6, 7, 8] rfl) (mF.sub hF_qm [0, 1, 2] rfl) (mF.sub hF_p0 [0, 1, 2] rfl) hfp H.size) (cwV 1 hts g_f_equation_r_readEquation_122 rfl rfl rfl hv_X7_readEquation ⟨Nat.le_of_ble_eq_true rfl, Nat.le_of_ble_eq_true rfl⟩) ⟨fun a U g mk q => by obtain ⟨q0, q1, qP, qK, qD, qE0, qE1⟩ := q; exact ⟨q0, q1, qP, va_K.moved (u := U) (U := U.calling g mk a) (Vm.Alike.refl U.vm) qK, qD, w_N.same rfl qE0, w_S.same rfl rfl qE1⟩, va_recv hKc hPc (ci := 7) (q0 := 0) rfl rfl, fun U hU hW => ⟨rfl, by rw [hU], by rw [hU]; exact hPc, va_K.moved hW.alike hKc, hDc.weaken (fun _ _ _ _ => trivial), w_N.warm hW hN, w_S.go hSt hW hS.2.1 hFc hU⟩⟩ rfl rfl hl.1 rfl (lv_room (Nat.le_of_ble_eq_true rfl)) dX11_equation_10 ⟨(Nat.le_of_ble_eq_true rfl), (Nat.le_of_ble_eq_true rfl)⟩) hS (fun q _ h => hFc q h) hFc (fun r_4 u t H1 locs1 ht hvm hw hB hz1 hk1 hS1 => ?_)
    obtain ⟨fs_5, fs_6, fs_7, hP1, hK1, hD1, hp_8, hp_9, hp_10⟩ := hB
    rw [ht] at hP1
    have hK1 := va_K.moved hvm.symm hK1
    have hJ := va_join (wr := [(h0, .inr (11, fs_1))]) (w1 := [(qR, .inr (7, fs_5)), (qt, .inl (kt, 200, .inl ft)), (qp, .inl (kp, 28, .inr (.inr (.inr (.inr fp))))), (qm, .inr (6, fs_6)), (p0, .inr (6, fs_7)), (p0a, .inl (k1a, 16, .inr (.inl (fun _ => 0)))), (p0b, .inl (k1b, 16, .inr (.inl (fun _ => 0))))]) hP hD [0, 1, 2, 3, 4, 5, 6] [7] rfl rfl (by decide) (by decide) hk1 hFc hP1 hD1
    clear hP hD hPc hDc hKc hFc hz1; try clear hk1
    obtain ⟨hP, hD⟩ := hJ
    replace hK := (hK.sub (tys' := [(kt, .byte), (kp, .object RX6), (k1a, .long), (k1b, .long)]) [0, 1, 2, 3] rfl).app (hK1.sub (tys' := []) [] rfl)
    clear hP1 hK1 hD1 hvm ht hS; try clear t
    try clear H
    revert hS1
    intro hS
    generalize H1 = H at hP hS ⊢; try clear H1
    replace hP : va_P (dC, dI) vwCl [(h0, .inr (11, fs_1)), (qR, .inr (7, fs_5)), (qt, .inl (kt, 200, .inl ft)), (qp, .inl (kp, 28, .inr (.inr (.inr (.inr fp))))), (qm, .inr (6, fs_6)), (p0, .inr (6, fs_7)), (p0a, .inl (k1a, 16, .inr (.inl (fun _ => 0)))), (p0b, .inl (k1b, 16, .inr (.inl (fun _ => 0))))] H := hP
    replace hD : va_D A [(h0, .inr (11, fs_1)), (qR, .inr (7, fs_5)), (qt, .inl (kt, 200, .inl ft)), (qp, .inl (kp, 28, .inr (.inr (.inr (.inr fp))))), (qm, .inr (6, fs_6)), (p0, .inr (6, fs_7)), (p0a, .inl (k1a, 16, .inr (.inl (fun _ => 0)))), (p0b, .inl (k1b, 16, .inr (.inl (fun _ => 0))))] := hD
    replace hK : va_K (dC, dI) vwCl [(kt, .byte), (kp, .object RX6), (k1a, .long), (k1b, .long)] s := hK
    have hw_11 : r_4 = 0 := hw; clear hw
    subst hw_11
    refine lv_istore_n (lv' := [(2, .int 0), (0, .ref h0), (1, .int 0)]) hx hb dX11_equation_13 rfl hl (by decide) rfl (fun ls hl => ?_)
    refine lv_aload_n hx hb dX11_equation_14 rfl (lv_at hl 1 rfl) ?_
    refine lv_aload_n hx hb dX11_equation_15 rfl (lv_at hl 1 rfl) ?_
    refine va_get (D := (dC, dI)) (ci := 11) (v := .ref qR) (C := RX11) (T := TX11) (N := 19) hx hb hts (in_f_equation_X11) hown hK hP 0 rfl rfl 6 (by decide) (hts (.fieldLink RX11 41 "MotionSigns" "reader" "LMotionSigns$Reader;") (List.mem_of_getElem? (i := 5) rfl)) (fun _ h9 => h9) (mF.get hp_2 1 rfl) dX11_equation_16 ?_
    refine va_getN (D := (dC, dI)) (ci := 7) (v := .int 0) (C := RX7) (T := TX7) (N := 10) hx hb hts (in_f_equation_X7) hown hK hP 1 rfl rfl 9 (by decide) (va_Nw.use rfl (hN.2.1 (RX11, 126, RX7, "place", "I", RX11) (List.mem_of_getElem? (i := 22) rfl))) (fun _ h9 => h9) (mF.get hp_8 6 rfl) dX11_equation_19 ?_
    refine va_put (D := (dC, dI)) (ci := 11) (v := .int 0) (ty := .int) (C := RX11) (T := TX11) (N := 19) hx hb hts (in_f_equation_X11) tyX11 tyX11_ok nmX11 hown hK hP hD hS 0 rfl rfl 2 (by decide) (hts (.fieldLink RX11 13 "MotionSigns" "faultPlace" "I") (List.mem_of_getElem? (i := 10) rfl)) (fun _ h9 => h9) rfl (tyX11_ok 2 (by decide)) rfl rfl (mF.lt hp_2 (by decide)) dX11_equation_22 ?_
    clear hP hD hS; try clear H
    intro H locs hP hD hS
    have hF0 := mF.sub (L' := [(1, .int 0), (6, .ref qR)]) hp_2 [0, 1] rfl
    have hF1 := mF.put hF0 2 (.int 0) (by decide) rfl
    replace hP : va_P (dC, dI) vwCl [(h0, .inr (11, (fs_1.set 2 (.int 0)))), (qR, .inr (7, fs_5)), (qt, .inl (kt, 200, .inl ft)), (qp, .inl (kp, 28, .inr (.inr (.inr (.inr fp))))), (qm, .inr (6, fs_6)), (p0, .inr (6, fs_7)), (p0a, .inl (k1a, 16, .inr (.inl (fun _ => 0)))), (p0b, .inl (k1b, 16, .inr (.inl (fun _ => 0))))] H := hP
    replace hD : va_D A [(h0, .inr (11, (fs_1.set 2 (.int 0)))), (qR, .inr (7, fs_5)), (qt, .inl (kt, 200, .inl ft)), (qp, .inl (kp, 28, .inr (.inr (.inr (.inr fp))))), (qm, .inr (6, fs_6)), (p0, .inr (6, fs_7)), (p0a, .inl (k1a, 16, .inr (.inl (fun _ => 0)))), (p0b, .inl (k1b, 16, .inr (.inl (fun _ => 0))))] := hD
    generalize fs_1.set 2 (.int 0) = fs_12 at hP hD hF1
    replace hp_2 : mF 19 [(2, .int 0), (1, .int 0), (6, .ref qR)] fs_12 := hF1
    clear hF1 hF0
    replace hP : va_P (dC, dI) vwCl [(h0, .inr (11, fs_12)), (qR, .inr (7, fs_5)), (qt, .inl (kt, 200, .inl ft)), (qp, .inl (kp, 28, .inr (.inr (.inr (.inr fp))))), (qm, .inr (6, fs_6)), (p0, .inr (6, fs_7)), (p0a, .inl (k1a, 16, .inr (.inl (fun _ => 0)))), (p0b, .inl (k1b, 16, .inr (.inl (fun _ => 0))))] H := hP
    replace hD : va_D A [(h0, .inr (11, fs_12)), (qR, .inr (7, fs_5)), (qt, .inl (kt, 200, .inl ft)), (qp, .inl (kp, 28, .inr (.inr (.inr (.inr fp))))), (qm, .inr (6, fs_6)), (p0, .inr (6, fs_7)), (p0a, .inl (k1a, 16, .inr (.inl (fun _ => 0)))), (p0b, .inl (k1b, 16, .inr (.inl (fun _ => 0))))] := hD
    refine lv_aload_n hx hb dX11_equation_25 rfl (lv_at hl 1 rfl) ?_
    refine va_get (D := (dC, dI)) (ci := 11) (v := .ref qR) (C := RX11) (T := TX11) (N := 19) hx hb hts (in_f_equation_X11) hown hK hP 0 rfl rfl 6 (by decide) (hts (.fieldLink RX11 41 "MotionSigns" "reader" "LMotionSigns$Reader;") (List.mem_of_getElem? (i := 5) rfl)) (fun _ h9 => h9) (mF.get hp_2 2 rfl) dX11_equation_26 ?_
    refine va_getN (D := (dC, dI)) (ci := 7) (v := .int 1) (C := RX7) (T := TX7) (N := 10) hx hb hts (in_f_equation_X7) hown hK hP 1 rfl rfl 8 (by decide) (va_Nw.use rfl (hN.2.1 (RX11, 129, RX7, "wrong", "I", RX11) (List.mem_of_getElem? (i := 21) rfl))) (fun _ h9 => h9) (mF.get hp_8 5 rfl) dX11_equation_29 ?_
    refine lv_if_eq (tgt := 46) hx hb dX11_equation_32 (by decide) (fun hc => absurd hc (by decide)) (fun _ => ?_)
    refine lv_aload_n hx hb dX11_equation_35 rfl (lv_at hl 1 rfl) ?_
    refine va_get (D := (dC, dI)) (ci := 11) (v := .ref qR) (C := RX11) (T := TX11) (N := 19) hx hb hts (in_f_equation_X11) hown hK hP 0 rfl rfl 6 (by decide) (hts (.fieldLink RX11 41 "MotionSigns" "reader" "LMotionSigns$Reader;") (List.mem_of_getElem? (i := 5) rfl)) (fun _ h9 => h9) (mF.get hp_2 2 rfl) dX11_equation_36 ?_
    refine va_getN (D := (dC, dI)) (ci := 7) (v := .int 1) (C := RX7) (T := TX7) (N := 10) hx hb hts (in_f_equation_X7) hown hK hP 1 rfl rfl 8 (by decide) (va_Nw.use rfl (hN.2.1 (RX11, 129, RX7, "wrong", "I", RX11) (List.mem_of_getElem? (i := 21) rfl))) (fun _ h9 => h9) (mF.get hp_8 5 rfl) dX11_equation_39 ?_
    refine lv_bipush (v := 10) hx hb dX11_equation_42 (by decide) ?_
    refine lv_isub hx hb dX11_equation_44 ?_
    refine lv_topi (fun v_13 ev_13 => ?_)
    have ev_13 : v_13 = (-9) := ev_13.trans (by decide)
    subst ev_13
    have hP9 := hP.sub (ws' := []) [] rfl
    have hD9 := hD.sub (ws' := []) [] (by decide) rfl
    have hK9 := hK.sub (tys' := []) [] rfl
    rw [← hAe] at hD9
    refine W.widen (k := 1) (n := 6) (Nat.le_of_ble_eq_true rfl) (Nat.le_of_ble_eq_true rfl) ?_
    subst hAe
    exact vx_ret (W.iret (v := (-9)) hx hb hr (fun t ht hW => ⟨⟨(-9), (), rfl, ⟨rfl, hw_3⟩, by rw [ht]; exact hP9, va_K.moved hW.alike hK9, hD9⟩, hS.F ht⟩) hS.2.2 dX11_equation_45)
def wv_f_image : List Cond := .code yX11_image cX11_image 1 (some .int) :: ([.fieldLink RX11 146 "MotionSigns" "images" "I", .fieldLink RX11 95 "MotionSigns" "movesKept" "[LMotionSigns$Poly;", .fieldLink RX11 88 "MotionSigns" "move" "LMotionSigns$Poly;", .methodLink RX11 169 yX6_copy, .instanceMethod yX6_copy, .selects RX6 yX6_copy yX6_copy, .initialized RX6, .fieldLink RX11 99 "MotionSigns" "guessesKept" "[LMotionSigns$Poly;", .fieldLink RX11 92 "MotionSigns" "guess" "LMotionSigns$Poly;"] ++ (wsX110 ++ (wv_p_copy ++ ([]))))
theorem gw_f_image : wv_f_image.all goodWord = true := by decide +kernel
theorem in_f_image_X11 : ∀ w ∈ wsX110, w ∈ wv_f_image := fun _ h => List.mem_cons_of_mem _ (List.mem_append_right _ (List.mem_append_left _ h))
theorem g_f_image_p_copy_169 : GoodIn wv_f_image (wsV RX11 169 RX6 yX6_copy wv_p_copy) := goodIn_app (goodIn_of _ (by decide +kernel)) (goodIn_sub (fun _ h => List.mem_cons_of_mem _ (List.mem_append_right _ (List.mem_append_right _ (List.mem_append_left _ h)))) gw_p_copy)
set_option maxHeartbeats 4000000 in
set_option maxRecDepth 100000 in
/-- image -/
theorem c_f_image (l : Launch) (dC : Nat → ClassId) (dI : Nat → Nat → Nat) (h0 : Nat) (qMK : Nat) (qGK : Nat) (qM : Nat) (qG : Nat) (km : Nat) (kg : Nat) (m0a : Nat) (m0b : Nat) (g0a : Nat) (g0b : Nat) (qMa : Nat) (qMb : Nat) (k3a : Nat) (k3b : Nat) (qGa : Nat) (qGb : Nat) (k4a : Nat) (k4b : Nat) (fm : Nat → Option Nat) (fg : Nat → Option Nat) (m0 : Nat) (g0 : Nat) (fs_h0 : List Value) (fs_m0 : List Value) (fs_g0 : List Value) (fs_qM : List Value) (fs_qG : List Value) (hF_h0 : mF 19 [(16, .int 0), (14, .ref qMK), (15, .ref qGK), (12, .ref qM), (13, .ref qG)] fs_h0) (hF_m0 : mF 3 [(0, .ref m0a), (1, .ref m0b), (2, .int 0)] fs_m0) (hF_g0 : mF 3 [(0, .ref g0a), (1, .ref g0b), (2, .int 0)] fs_g0) (hF_qM : mF 3 [(0, .ref qMa), (1, .ref qMb), (2, .int 0)] fs_qM) (hF_qG : mF 3 [(0, .ref qGa), (1, .ref qGb), (2, .int 0)] fs_qG) (hfm : fm 0 = some m0) (hfg : fg 0 = some g0) (sz : Nat) : Met l yX11_image wv_f_image ({ frames := 3, cells := 0, slots := 0, locals := 57 }) (va_Pc [.ref h0] (fun U => U.heap.size = sz ∧ va_P (dC, dI) vwCl [(h0, .inr (11, fs_h0)), (qMK, .inl (km, 3, .inr (.inr (.inr (.inr fm))))), (qGK, .inl (kg, 3, .inr (.inr (.inr (.inr fg))))), (m0, .inr (6, fs_m0)), (g0, .inr (6, fs_g0)), (qM, .inr (6, fs_qM)), (qMa, .inl (k3a, 16, .inr (.inl (fun _ => 0)))), (qMb, .inl (k3b, 16, .inr (.inl (fun _ => 0)))), (qG, .inr (6, fs_qG)), (qGa, .inl (k4a, 16, .inr (.inl (fun _ => 0)))), (qGb, .inl (k4b, 16, .inr (.inl (fun _ => 0))))] U.heap ∧ va_K (dC, dI) vwCl [(km, .object RX6), (kg, .object RX6), (k3a, .long), (k3b, .long), (k4a, .long), (k4b, .long)] U ∧ va_D (fun _ => True) [(h0, .inr (11, fs_h0)), (qMK, .inl (km, 3, .inr (.inr (.inr (.inr fm))))), (qGK, .inl (kg, 3, .inr (.inr (.inr (.inr fg))))), (m0, .inr (6, fs_m0)), (g0, .inr (6, fs_g0)), (qM, .inr (6, fs_qM)), (qMa, .inl (k3a, 16, .inr (.inl (fun _ => 0)))), (qMb, .inl (k3b, 16, .inr (.inl (fun _ => 0)))), (qG, .inr (6, fs_qG)), (qGa, .inl (k4a, 16, .inr (.inl (fun _ => 0)))), (qGb, .inl (k4b, 16, .inr (.inl (fun _ => 0))))] ∧ w_N U)) (va_Qi (fun (r : Int32) (_ : Unit) => r = 1) (fun _ t => va_P (dC, dI) vwCl [] t.heap ∧ va_K (dC, dI) vwCl [] t ∧ va_D (va_A [(h0, .inr (11, fs_h0)), (qMK, .inl (km, 3, .inr (.inr (.inr (.inr fm))))), (qGK, .inl (kg, 3, .inr (.inr (.inr (.inr fg))))), (m0, .inr (6, fs_m0)), (g0, .inr (6, fs_g0)), (qM, .inr (6, fs_qM)), (qMa, .inl (k3a, 16, .inr (.inl (fun _ => 0)))), (qMb, .inl (k3b, 16, .inr (.inl (fun _ => 0)))), (qG, .inr (6, fs_qG)), (qGa, .inl (k4a, 16, .inr (.inl (fun _ => 0)))), (qGb, .inl (k4b, 16, .inr (.inl (fun _ => 0))))] sz) []) (va_A [(h0, .inr (11, fs_h0)), (qMK, .inl (km, 3, .inr (.inr (.inr (.inr fm))))), (qGK, .inl (kg, 3, .inr (.inr (.inr (.inr fg))))), (m0, .inr (6, fs_m0)), (g0, .inr (6, fs_g0)), (qM, .inr (6, fs_qM)), (qMa, .inl (k3a, 16, .inr (.inl (fun _ => 0)))), (qMb, .inl (k3b, 16, .inr (.inl (fun _ => 0)))), (qG, .inr (6, fs_qG)), (qGa, .inl (k4a, 16, .inr (.inl (fun _ => 0)))), (qGb, .inl (k4b, 16, .inr (.inl (fun _ => 0))))] sz)) 0 0 (va_A [(h0, .inr (11, fs_h0)), (qMK, .inl (km, 3, .inr (.inr (.inr (.inr fm))))), (qGK, .inl (kg, 3, .inr (.inr (.inr (.inr fg))))), (m0, .inr (6, fs_m0)), (g0, .inr (6, fs_g0)), (qM, .inr (6, fs_qM)), (qMa, .inl (k3a, 16, .inr (.inl (fun _ => 0)))), (qMb, .inl (k3b, 16, .inr (.inl (fun _ => 0)))), (qG, .inr (6, fs_qG)), (qGa, .inl (k4a, 16, .inr (.inl (fun _ => 0)))), (qGb, .inl (k4b, 16, .inr (.inl (fun _ => 0))))] sz) := by
  refine Met.ofW (cc := cX11_image) (maxL := 1) (ret := (some .int)) (by decide) rfl ?_
  intro p e s m args below meth c s₁ B hml hv
  obtain ⟨rfl, hsz, hP, hK, hD0, hN⟩ := hv
  have hx := B.exec
  have hb := B.bytes
  have hr := B.returns
  have hts := atoms_spec (ws := wv_f_image) B.pre
  have hown : s.vm.findClass RX11 = some m.cls := findClass_of_methodNamed B.named
  have hlocks := B.notSynchronized
  subst hsz
  have hD := hD0.self (sz := s.heap.size)
  generalize hAe : va_A [(h0, .inr (11, fs_h0)), (qMK, .inl (km, 3, .inr (.inr (.inr (.inr fm))))), (qGK, .inl (kg, 3, .inr (.inr (.inr (.inr fg))))), (m0, .inr (6, fs_m0)), (g0, .inr (6, fs_g0)), (qM, .inr (6, fs_qM)), (qMa, .inl (k3a, 16, .inr (.inl (fun _ => 0)))), (qMb, .inl (k3b, 16, .inr (.inl (fun _ => 0)))), (qG, .inr (6, fs_qG)), (qGa, .inl (k4a, 16, .inr (.inl (fun _ => 0)))), (qGb, .inl (k4b, 16, .inr (.inl (fun _ => 0))))] s.heap.size = A at hD ⊢
  have hA : ∀ q : Nat, s.heap.size ≤ q → A q := fun q h => by rw [← hAe]; exact Or.inr h
  obtain ⟨H, hHe, hP, hS⟩ : ∃ H : Heap, H = s.heap ∧ va_P (dC, dI) vwCl [(h0, .inr (11, fs_h0)), (qMK, .inl (km, 3, .inr (.inr (.inr (.inr fm))))), (qGK, .inl (kg, 3, .inr (.inr (.inr (.inr fg))))), (m0, .inr (6, fs_m0)), (g0, .inr (6, fs_g0)), (qM, .inr (6, fs_qM)), (qMa, .inl (k3a, 16, .inr (.inl (fun _ => 0)))), (qMb, .inl (k3b, 16, .inr (.inl (fun _ => 0)))), (qG, .inr (6, fs_qG)), (qGa, .inl (k4a, 16, .inr (.inl (fun _ => 0)))), (qGb, .inl (k4b, 16, .inr (.inl (fun _ => 0))))] H ∧ va_S A s.heap H [] := ⟨s.heap, rfl, hP, va_S.rf⟩
  have hl := lv_entry ([.ref h0]) (n := 1) (Nat.le_of_ble_eq_true rfl)
  rw [lg_entry_eq]
  generalize (lg_sl ([.ref h0]) ++ List.replicate (1 - (lg_sl ([.ref h0])).length) Slot.unset).toArray = ls at hl ⊢
  have hl : lv_has ls 1 [(0, .ref h0)] := hl
  rw [← hHe]; clear hHe
  refine lv_aload_n hx hb dX11_image_0 rfl (lv_at hl 0 rfl) ?_
  refine va_get (D := (dC, dI)) (ci := 11) (v := .int 0) (C := RX11) (T := TX11) (N := 19) hx hb hts (in_f_image_X11) hown hK hP 0 rfl rfl 16 (by decide) (hts (.fieldLink RX11 146 "MotionSigns" "images" "I") (List.mem_of_getElem? (i := 1) rfl)) (fun _ h9 => h9) (mF.get hF_h0 0 rfl) dX11_image_1 ?_
  refine lv_if_lt (tgt := 15) hx hb dX11_image_4 (by decide) (fun hc => absurd hc (by decide)) (fun _ => ?_)
  refine lv_aload_n hx hb dX11_image_7 rfl (lv_at hl 0 rfl) ?_
  refine va_get (D := (dC, dI)) (ci := 11) (v := .int 0) (C := RX11) (T := TX11) (N := 19) hx hb hts (in_f_image_X11) hown hK hP 0 rfl rfl 16 (by decide) (hts (.fieldLink RX11 146 "MotionSigns" "images" "I") (List.mem_of_getElem? (i := 1) rfl)) (fun _ h9 => h9) (mF.get hF_h0 0 rfl) dX11_image_8 ?_
  refine lv_iconst (v := 3) hx hb dX11_image_11 (by decide) ?_
  refine lv_icmp_lt (tgt := 17) hx hb dX11_image_12 (by decide) (fun _ => ?_) (fun hc => absurd (by decide) hc)
  refine lv_aload_n hx hb dX11_image_17 rfl (lv_at hl 0 rfl) ?_
  refine va_get (D := (dC, dI)) (ci := 11) (v := .ref qMK) (C := RX11) (T := TX11) (N := 19) hx hb hts (in_f_image_X11) hown hK hP 0 rfl rfl 14 (by decide) (hts (.fieldLink RX11 95 "MotionSigns" "movesKept" "[LMotionSigns$Poly;") (List.mem_of_getElem? (i := 2) rfl)) (fun _ h9 => h9) (mF.get hF_h0 1 rfl) dX11_image_18 ?_
  refine lv_aload_n hx hb dX11_image_21 rfl (lv_at hl 0 rfl) ?_
  refine va_get (D := (dC, dI)) (ci := 11) (v := .int 0) (C := RX11) (T := TX11) (N := 19) hx hb hts (in_f_image_X11) hown hK hP 0 rfl rfl 16 (by decide) (hts (.fieldLink RX11 146 "MotionSigns" "images" "I") (List.mem_of_getElem? (i := 1) rfl)) (fun _ h9 => h9) (mF.get hF_h0 0 rfl) dX11_image_22 ?_
  refine wk_ald (y := m0) hx hb hK hP 1 0 rfl rfl (by exact fun h => by rcases h with h | h <;> revert h <;> decide) (by exact hfm) dX11_image_25 ?_
  refine lv_aload_n hx hb dX11_image_26 rfl (lv_at hl 0 rfl) ?_
  refine va_get (D := (dC, dI)) (ci := 11) (v := .ref qM) (C := RX11) (T := TX11) (N := 19) hx hb hts (in_f_image_X11) hown hK hP 0 rfl rfl 12 (by decide) (hts (.fieldLink RX11 88 "MotionSigns" "move" "LMotionSigns$Poly;") (List.mem_of_getElem? (i := 3) rfl)) (fun _ h9 => h9) (mF.get hF_h0 3 rfl) dX11_image_27 ?_
  have hPc := hP.sub (ws' := [(m0, .inr (6, fs_m0)), (qM, .inr (6, fs_qM)), (qMa, .inl (k3a, 16, .inr (.inl (fun _ => 0)))), (qMb, .inl (k3b, 16, .inr (.inl (fun _ => 0))))]) [3, 5, 6, 7] rfl
  have hDc := hD.sub (ws' := [(m0, .inr (6, fs_m0)), (qM, .inr (6, fs_qM)), (qMa, .inl (k3a, 16, .inr (.inl (fun _ => 0)))), (qMb, .inl (k3b, 16, .inr (.inl (fun _ => 0))))]) [3, 5, 6, 7] (by decide) rfl
  have hKc := hK.sub (tys' := [(k3a, .long), (k3b, .long)]) [2, 3] rfl
  have hFc := va_free (wc := [(m0, .inr (6, fs_m0)), (qM, .inr (6, fs_qM)), (qMa, .inl (k3a, 16, .inr (.inl (fun _ => 0)))), (qMb, .inl (k3b, 16, .inr (.inl (fun _ => 0))))]) hD hS hA [3, 5, 6, 7] rfl
  refine va_callv (va_runV (As := [.ref qM]) (rest := []) ⟨hx, hb, hml, hown, hts⟩ (c_p_copy l dC dI m0 m0a m0b qM qMa qMb k3a k3b fs_m0 fs_qM (mF.sub hF_m0 [0, 1, 2] rfl) (mF.sub hF_qM [0, 1, 2] rfl) H.size) (cwV 1 hts g_f_image_p_copy_169 rfl rfl rfl hv_X6_copy ⟨Nat.le_of_ble_eq_true rfl, Nat.le_of_ble_eq_true rfl⟩) ⟨fun a U g mk q => by obtain ⟨q0, q1, qP, qK, qD, qE0⟩ := q; exact ⟨q0, q1, qP, va_K.moved (u := U) (U := U.calling g mk a) (Vm.Alike.refl U.vm) qK, qD, w_N.same rfl qE0⟩, va_recv hKc hPc (ci := 6) (q0 := 0) rfl rfl, fun U hU hW => ⟨rfl, by rw [hU], by rw [hU]; exact hPc, va_K.moved hW.alike hKc, hDc.weaken (fun _ _ _ _ => trivial), w_N.warm hW hN⟩⟩ rfl rfl hl.1 rfl (lv_room (Nat.le_of_ble_eq_true rfl)) dX11_image_30 ⟨(Nat.le_of_ble_eq_true rfl), (Nat.le_of_ble_eq_true rfl)⟩) hS (fun q _ h => hFc q h) hFc (fun u t H1 locs1 ht hvm hw hB hz1 hk1 hS1 => ?_)
  obtain ⟨fs_1, hP1, hK1, hD1, hp_2⟩ := hB
  rw [ht] at hP1
  have hK1 := va_K.moved hvm.symm hK1
  have hJ := va_join (wr := [(h0, .inr (11, fs_h0)), (qMK, .inl (km, 3, .inr (.inr (.inr (.inr fm))))), (qGK, .inl (kg, 3, .inr (.inr (.inr (.inr fg))))), (g0, .inr (6, fs_g0)), (qG, .inr (6, fs_qG)), (qGa, .inl (k4a, 16, .inr (.inl (fun _ => 0)))), (qGb, .inl (k4b, 16, .inr (.inl (fun _ => 0))))]) (w1 := [(m0, .inr (6, fs_1)), (qM, .inr (6, fs_qM)), (qMa, .inl (k3a, 16, .inr (.inl (fun _ => 0)))), (qMb, .inl (k3b, 16, .inr (.inl (fun _ => 0))))]) hP hD [3, 5, 6, 7] [0, 1, 2, 4, 8, 9, 10] rfl rfl (by decide) (by decide) hk1 hFc hP1 hD1
  clear hP hD hPc hDc hKc hFc hz1; try clear hk1
  obtain ⟨hP, hD⟩ := hJ
  replace hK := (hK.sub (tys' := [(km, .object RX6), (kg, .object RX6), (k3a, .long), (k3b, .long), (k4a, .long), (k4b, .long)]) [0, 1, 2, 3, 4, 5] rfl).app (hK1.sub (tys' := []) [] rfl)
  clear hP1 hK1 hD1 hvm ht hS; try clear t
  try clear H
  revert hS1
  intro hS
  generalize H1 = H at hP hS ⊢; try clear H1
  replace hP : va_P (dC, dI) vwCl [(h0, .inr (11, fs_h0)), (qMK, .inl (km, 3, .inr (.inr (.inr (.inr fm))))), (qGK, .inl (kg, 3, .inr (.inr (.inr (.inr fg))))), (g0, .inr (6, fs_g0)), (qG, .inr (6, fs_qG)), (qGa, .inl (k4a, 16, .inr (.inl (fun _ => 0)))), (qGb, .inl (k4b, 16, .inr (.inl (fun _ => 0)))), (m0, .inr (6, fs_1)), (qM, .inr (6, fs_qM)), (qMa, .inl (k3a, 16, .inr (.inl (fun _ => 0)))), (qMb, .inl (k3b, 16, .inr (.inl (fun _ => 0))))] H := hP
  replace hD : va_D A [(h0, .inr (11, fs_h0)), (qMK, .inl (km, 3, .inr (.inr (.inr (.inr fm))))), (qGK, .inl (kg, 3, .inr (.inr (.inr (.inr fg))))), (g0, .inr (6, fs_g0)), (qG, .inr (6, fs_qG)), (qGa, .inl (k4a, 16, .inr (.inl (fun _ => 0)))), (qGb, .inl (k4b, 16, .inr (.inl (fun _ => 0)))), (m0, .inr (6, fs_1)), (qM, .inr (6, fs_qM)), (qMa, .inl (k3a, 16, .inr (.inl (fun _ => 0)))), (qMb, .inl (k3b, 16, .inr (.inl (fun _ => 0))))] := hD
  replace hK : va_K (dC, dI) vwCl [(km, .object RX6), (kg, .object RX6), (k3a, .long), (k3b, .long), (k4a, .long), (k4b, .long)] s := hK
  have hw_3 : True := hw; clear hw
  refine lv_aload_n hx hb dX11_image_33 rfl (lv_at hl 0 rfl) ?_
  refine va_get (D := (dC, dI)) (ci := 11) (v := .ref qGK) (C := RX11) (T := TX11) (N := 19) hx hb hts (in_f_image_X11) hown hK hP 0 rfl rfl 15 (by decide) (hts (.fieldLink RX11 99 "MotionSigns" "guessesKept" "[LMotionSigns$Poly;") (List.mem_of_getElem? (i := 8) rfl)) (fun _ h9 => h9) (mF.get hF_h0 2 rfl) dX11_image_34 ?_
  refine lv_aload_n hx hb dX11_image_37 rfl (lv_at hl 0 rfl) ?_
  refine va_get (D := (dC, dI)) (ci := 11) (v := .int 0) (C := RX11) (T := TX11) (N := 19) hx hb hts (in_f_image_X11) hown hK hP 0 rfl rfl 16 (by decide) (hts (.fieldLink RX11 146 "MotionSigns" "images" "I") (List.mem_of_getElem? (i := 1) rfl)) (fun _ h9 => h9) (mF.get hF_h0 0 rfl) dX11_image_38 ?_
  refine wk_ald (y := g0) hx hb hK hP 2 1 rfl rfl (by exact fun h => by rcases h with h | h <;> revert h <;> decide) (by exact hfg) dX11_image_41 ?_
  refine lv_aload_n hx hb dX11_image_42 rfl (lv_at hl 0 rfl) ?_
  refine va_get (D := (dC, dI)) (ci := 11) (v := .ref qG) (C := RX11) (T := TX11) (N := 19) hx hb hts (in_f_image_X11) hown hK hP 0 rfl rfl 13 (by decide) (hts (.fieldLink RX11 92 "MotionSigns" "guess" "LMotionSigns$Poly;") (List.mem_of_getElem? (i := 9) rfl)) (fun _ h9 => h9) (mF.get hF_h0 4 rfl) dX11_image_43 ?_
  have hPc := hP.sub (ws' := [(g0, .inr (6, fs_g0)), (qG, .inr (6, fs_qG)), (qGa, .inl (k4a, 16, .inr (.inl (fun _ => 0)))), (qGb, .inl (k4b, 16, .inr (.inl (fun _ => 0))))]) [3, 4, 5, 6] rfl
  have hDc := hD.sub (ws' := [(g0, .inr (6, fs_g0)), (qG, .inr (6, fs_qG)), (qGa, .inl (k4a, 16, .inr (.inl (fun _ => 0)))), (qGb, .inl (k4b, 16, .inr (.inl (fun _ => 0))))]) [3, 4, 5, 6] (by decide) rfl
  have hKc := hK.sub (tys' := [(k4a, .long), (k4b, .long)]) [4, 5] rfl
  have hFc := va_free (wc := [(g0, .inr (6, fs_g0)), (qG, .inr (6, fs_qG)), (qGa, .inl (k4a, 16, .inr (.inl (fun _ => 0)))), (qGb, .inl (k4b, 16, .inr (.inl (fun _ => 0))))]) hD hS hA [3, 4, 5, 6] rfl
  refine va_callv (va_runV (As := [.ref qG]) (rest := []) ⟨hx, hb, hml, hown, hts⟩ (c_p_copy l dC dI g0 g0a g0b qG qGa qGb k4a k4b fs_g0 fs_qG (mF.sub hF_g0 [0, 1, 2] rfl) (mF.sub hF_qG [0, 1, 2] rfl) H.size) (cwV 1 hts g_f_image_p_copy_169 rfl rfl rfl hv_X6_copy ⟨Nat.le_of_ble_eq_true rfl, Nat.le_of_ble_eq_true rfl⟩) ⟨fun a U g mk q => by obtain ⟨q0, q1, qP, qK, qD, qE0⟩ := q; exact ⟨q0, q1, qP, va_K.moved (u := U) (U := U.calling g mk a) (Vm.Alike.refl U.vm) qK, qD, w_N.same rfl qE0⟩, va_recv hKc hPc (ci := 6) (q0 := 0) rfl rfl, fun U hU hW => ⟨rfl, by rw [hU], by rw [hU]; exact hPc, va_K.moved hW.alike hKc, hDc.weaken (fun _ _ _ _ => trivial), w_N.warm hW hN⟩⟩ rfl rfl hl.1 rfl (lv_room (Nat.le_of_ble_eq_true rfl)) dX11_image_46 ⟨(Nat.le_of_ble_eq_true rfl), (Nat.le_of_ble_eq_true rfl)⟩) hS (fun q _ h => hFc q h) hFc (fun u t H1 locs1 ht hvm hw hB hz1 hk1 hS1 => ?_)
  obtain ⟨fs_4, hP1, hK1, hD1, hp_5⟩ := hB
  rw [ht] at hP1
  have hK1 := va_K.moved hvm.symm hK1
  have hJ := va_join (wr := [(h0, .inr (11, fs_h0)), (qMK, .inl (km, 3, .inr (.inr (.inr (.inr fm))))), (qGK, .inl (kg, 3, .inr (.inr (.inr (.inr fg))))), (m0, .inr (6, fs_1)), (qM, .inr (6, fs_qM)), (qMa, .inl (k3a, 16, .inr (.inl (fun _ => 0)))), (qMb, .inl (k3b, 16, .inr (.inl (fun _ => 0))))]) (w1 := [(g0, .inr (6, fs_4)), (qG, .inr (6, fs_qG)), (qGa, .inl (k4a, 16, .inr (.inl (fun _ => 0)))), (qGb, .inl (k4b, 16, .inr (.inl (fun _ => 0))))]) hP hD [3, 4, 5, 6] [0, 1, 2, 7, 8, 9, 10] rfl rfl (by decide) (by decide) hk1 hFc hP1 hD1
  clear hP hD hPc hDc hKc hFc hz1; try clear hk1
  obtain ⟨hP, hD⟩ := hJ
  replace hK := (hK.sub (tys' := [(km, .object RX6), (kg, .object RX6), (k3a, .long), (k3b, .long), (k4a, .long), (k4b, .long)]) [0, 1, 2, 3, 4, 5] rfl).app (hK1.sub (tys' := []) [] rfl)
  clear hP1 hK1 hD1 hvm ht hS; try clear t
  try clear H
  revert hS1
  intro hS
  generalize H1 = H at hP hS ⊢; try clear H1
  replace hP : va_P (dC, dI) vwCl [(h0, .inr (11, fs_h0)), (qMK, .inl (km, 3, .inr (.inr (.inr (.inr fm))))), (qGK, .inl (kg, 3, .inr (.inr (.inr (.inr fg))))), (m0, .inr (6, fs_1)), (qM, .inr (6, fs_qM)), (qMa, .inl (k3a, 16, .inr (.inl (fun _ => 0)))), (qMb, .inl (k3b, 16, .inr (.inl (fun _ => 0)))), (g0, .inr (6, fs_4)), (qG, .inr (6, fs_qG)), (qGa, .inl (k4a, 16, .inr (.inl (fun _ => 0)))), (qGb, .inl (k4b, 16, .inr (.inl (fun _ => 0))))] H := hP
  replace hD : va_D A [(h0, .inr (11, fs_h0)), (qMK, .inl (km, 3, .inr (.inr (.inr (.inr fm))))), (qGK, .inl (kg, 3, .inr (.inr (.inr (.inr fg))))), (m0, .inr (6, fs_1)), (qM, .inr (6, fs_qM)), (qMa, .inl (k3a, 16, .inr (.inl (fun _ => 0)))), (qMb, .inl (k3b, 16, .inr (.inl (fun _ => 0)))), (g0, .inr (6, fs_4)), (qG, .inr (6, fs_qG)), (qGa, .inl (k4a, 16, .inr (.inl (fun _ => 0)))), (qGb, .inl (k4b, 16, .inr (.inl (fun _ => 0))))] := hD
  replace hK : va_K (dC, dI) vwCl [(km, .object RX6), (kg, .object RX6), (k3a, .long), (k3b, .long), (k4a, .long), (k4b, .long)] s := hK
  have hw_6 : True := hw; clear hw
  refine lv_aload_n hx hb dX11_image_49 rfl (lv_at hl 0 rfl) ?_
  refine lv_dup hx hb dX11_image_50 rfl ?_
  refine va_get (D := (dC, dI)) (ci := 11) (v := .int 0) (C := RX11) (T := TX11) (N := 19) hx hb hts (in_f_image_X11) hown hK hP 0 rfl rfl 16 (by decide) (hts (.fieldLink RX11 146 "MotionSigns" "images" "I") (List.mem_of_getElem? (i := 1) rfl)) (fun _ h9 => h9) (mF.get hF_h0 0 rfl) dX11_image_51 ?_
  refine lv_iconst (v := 1) hx hb dX11_image_54 (by decide) ?_
  refine lv_iadd hx hb dX11_image_55 ?_
  refine lv_topi (fun v_7 ev_7 => ?_)
  have ev_7 : v_7 = 1 := ev_7.trans (by decide)
  subst ev_7
  refine va_put (D := (dC, dI)) (ci := 11) (v := .int 1) (ty := .int) (C := RX11) (T := TX11) (N := 19) hx hb hts (in_f_image_X11) tyX11 tyX11_ok nmX11 hown hK hP hD hS 0 rfl rfl 16 (by decide) (hts (.fieldLink RX11 146 "MotionSigns" "images" "I") (List.mem_of_getElem? (i := 1) rfl)) (fun _ h9 => h9) rfl (tyX11_ok 16 (by decide)) rfl rfl (mF.lt hF_h0 (by decide)) dX11_image_56 ?_
  clear hP hD hS; try clear H
  intro H locs hP hD hS
  have hF0 := mF.sub (L' := [(14, .ref qMK), (15, .ref qGK), (12, .ref qM), (13, .ref qG)]) hF_h0 [1, 2, 3, 4] rfl
  have hF1 := mF.put hF0 16 (.int 1) (by decide) rfl
  replace hP : va_P (dC, dI) vwCl [(h0, .inr (11, (fs_h0.set 16 (.int 1)))), (qMK, .inl (km, 3, .inr (.inr (.inr (.inr fm))))), (qGK, .inl (kg, 3, .inr (.inr (.inr (.inr fg))))), (m0, .inr (6, fs_1)), (qM, .inr (6, fs_qM)), (qMa, .inl (k3a, 16, .inr (.inl (fun _ => 0)))), (qMb, .inl (k3b, 16, .inr (.inl (fun _ => 0)))), (g0, .inr (6, fs_4)), (qG, .inr (6, fs_qG)), (qGa, .inl (k4a, 16, .inr (.inl (fun _ => 0)))), (qGb, .inl (k4b, 16, .inr (.inl (fun _ => 0))))] H := hP
  replace hD : va_D A [(h0, .inr (11, (fs_h0.set 16 (.int 1)))), (qMK, .inl (km, 3, .inr (.inr (.inr (.inr fm))))), (qGK, .inl (kg, 3, .inr (.inr (.inr (.inr fg))))), (m0, .inr (6, fs_1)), (qM, .inr (6, fs_qM)), (qMa, .inl (k3a, 16, .inr (.inl (fun _ => 0)))), (qMb, .inl (k3b, 16, .inr (.inl (fun _ => 0)))), (g0, .inr (6, fs_4)), (qG, .inr (6, fs_qG)), (qGa, .inl (k4a, 16, .inr (.inl (fun _ => 0)))), (qGb, .inl (k4b, 16, .inr (.inl (fun _ => 0))))] := hD
  generalize fs_h0.set 16 (.int 1) = fs_8 at hP hD hF1
  replace hF_h0 : mF 19 [(16, .int 1), (14, .ref qMK), (15, .ref qGK), (12, .ref qM), (13, .ref qG)] fs_8 := hF1
  clear hF1 hF0
  replace hP : va_P (dC, dI) vwCl [(h0, .inr (11, fs_8)), (qMK, .inl (km, 3, .inr (.inr (.inr (.inr fm))))), (qGK, .inl (kg, 3, .inr (.inr (.inr (.inr fg))))), (m0, .inr (6, fs_1)), (qM, .inr (6, fs_qM)), (qMa, .inl (k3a, 16, .inr (.inl (fun _ => 0)))), (qMb, .inl (k3b, 16, .inr (.inl (fun _ => 0)))), (g0, .inr (6, fs_4)), (qG, .inr (6, fs_qG)), (qGa, .inl (k4a, 16, .inr (.inl (fun _ => 0)))), (qGb, .inl (k4b, 16, .inr (.inl (fun _ => 0))))] H := hP
  replace hD : va_D A [(h0, .inr (11, fs_8)), (qMK, .inl (km, 3, .inr (.inr (.inr (.inr fm))))), (qGK, .inl (kg, 3, .inr (.inr (.inr (.inr fg))))), (m0, .inr (6, fs_1)), (qM, .inr (6, fs_qM)), (qMa, .inl (k3a, 16, .inr (.inl (fun _ => 0)))), (qMb, .inl (k3b, 16, .inr (.inl (fun _ => 0)))), (g0, .inr (6, fs_4)), (qG, .inr (6, fs_qG)), (qGa, .inl (k4a, 16, .inr (.inl (fun _ => 0)))), (qGb, .inl (k4b, 16, .inr (.inl (fun _ => 0))))] := hD
  refine lv_aload_n hx hb dX11_image_59 rfl (lv_at hl 0 rfl) ?_
  refine va_get (D := (dC, dI)) (ci := 11) (v := .int 1) (C := RX11) (T := TX11) (N := 19) hx hb hts (in_f_image_X11) hown hK hP 0 rfl rfl 16 (by decide) (hts (.fieldLink RX11 146 "MotionSigns" "images" "I") (List.mem_of_getElem? (i := 1) rfl)) (fun _ h9 => h9) (mF.get hF_h0 0 rfl) dX11_image_60 ?_
  have hP9 := hP.sub (ws' := []) [] rfl
  have hD9 := hD.sub (ws' := []) [] (by decide) rfl
  have hK9 := hK.sub (tys' := []) [] rfl
  rw [← hAe] at hD9
  refine W.widen (k := 0) (n := 0) (Nat.le_of_ble_eq_true rfl) (Nat.le_of_ble_eq_true rfl) ?_
  subst hAe
  exact (W.iret (v := 1) hx hb hr (fun t ht hW => ⟨⟨1, (), rfl, rfl, by rw [ht]; exact hP9, va_K.moved hW.alike hK9, hD9⟩, hS.F ht⟩) hS.2.2 dX11_image_63)
def wv_f_push0 : List Cond := .code yX11_push cX11_push 3 none :: ([.fieldLink RX11 112 "MotionSigns" "tapeSize" "I", .fieldLink RX11 9 "MotionSigns" "tape" "[B"] ++ (wsX110 ++ ([])))
theorem gw_f_push0 : wv_f_push0.all goodWord = true := by decide +kernel
theorem in_f_push0_X11 : ∀ w ∈ wsX110, w ∈ wv_f_push0 := fun _ h => List.mem_cons_of_mem _ (List.mem_append_right _ (List.mem_append_left _ h))
set_option maxHeartbeats 4000000 in
set_option maxRecDepth 100000 in
/-- four bytes behind the 0 that there are -/
theorem c_f_push0 (l : Launch) (dC : Nat → ClassId) (dI : Nat → Nat → Nat) (h0 : Nat) (qt : Nat) (kt : Nat) (x0 : Int32) (ft : Nat → Int32) (fs_h0 : List Value) (hF_h0 : mF 19 [(1, .int 0), (0, .ref qt)] fs_h0) (sz : Nat) : Met l yX11_push wv_f_push0 ({ frames := 0, cells := 0, slots := 0, locals := 0 }) (va_Pc [.ref h0, .int x0] (fun U => U.heap.size = sz ∧ va_P (dC, dI) vwCl [(h0, .inr (11, fs_h0)), (qt, .inl (kt, 200, .inl ft))] U.heap ∧ va_K (dC, dI) vwCl [(kt, .byte)] U ∧ va_D (fun _ => True) [(h0, .inr (11, fs_h0)), (qt, .inl (kt, 200, .inl ft))] ∧ w_N U)) (va_Qv (fun (_ : Unit) => True) (fun _ t => ∃ (ft2 : Nat → Int32) (fs_h02 : List Value), va_P (dC, dI) vwCl [(h0, .inr (11, fs_h02)), (qt, .inl (kt, 200, .inl ft2))] t.heap ∧ va_K (dC, dI) vwCl [(kt, .byte)] t ∧ va_D (va_A [(h0, .inr (11, fs_h0)), (qt, .inl (kt, 200, .inl ft))] sz) [(h0, .inr (11, fs_h02)), (qt, .inl (kt, 200, .inl ft2))] ∧ mF 19 [(1, .int 4), (0, .ref qt)] fs_h02) (va_A [(h0, .inr (11, fs_h0)), (qt, .inl (kt, 200, .inl ft))] sz)) 0 0 (va_A [(h0, .inr (11, fs_h0)), (qt, .inl (kt, 200, .inl ft))] sz) := by
  refine Met.ofW (cc := cX11_push) (maxL := 3) (ret := none) (by decide) rfl ?_
  intro p e s m args below meth c s₁ B hml hv
  obtain ⟨rfl, hsz, hP, hK, hD0, hN⟩ := hv
  have hx := B.exec
  have hb := B.bytes
  have hr := B.returns
  have hts := atoms_spec (ws := wv_f_push0) B.pre
  have hown : s.vm.findClass RX11 = some m.cls := findClass_of_methodNamed B.named
  have hlocks := B.notSynchronized
  subst hsz
  have hD := hD0.self (sz := s.heap.size)
  generalize hAe : va_A [(h0, .inr (11, fs_h0)), (qt, .inl (kt, 200, .inl ft))] s.heap.size = A at hD ⊢
  have hA : ∀ q : Nat, s.heap.size ≤ q → A q := fun q h => by rw [← hAe]; exact Or.inr h
  obtain ⟨H, hHe, hP, hS⟩ : ∃ H : Heap, H = s.heap ∧ va_P (dC, dI) vwCl [(h0, .inr (11, fs_h0)), (qt, .inl (kt, 200, .inl ft))] H ∧ va_S A s.heap H [] := ⟨s.heap, rfl, hP, va_S.rf⟩
  have hl := lv_entry ([.ref h0, .int x0]) (n := 3) (Nat.le_of_ble_eq_true rfl)
  rw [lg_entry_eq]
  generalize (lg_sl ([.ref h0, .int x0]) ++ List.replicate (3 - (lg_sl ([.ref h0, .int x0])).length) Slot.unset).toArray = ls at hl ⊢
  have hl : lv_has ls 3 [(0, .ref h0), (1, .int x0)] := hl
  rw [← hHe]; clear hHe
  refine lv_bipush (v := 24) hx hb dX11_push_0 (by decide) ?_
  refine lv_istore_n (lv' := [(2, .int 24), (0, .ref h0), (1, .int x0)]) hx hb dX11_push_2 rfl hl (by decide) rfl (fun ls hl => ?_)
  refine lv_iload_n hx hb dX11_push_3 rfl (lv_at hl 0 rfl) ?_
  refine lv_if_lt (tgt := 53) hx hb dX11_push_4 (by decide) (fun hc => absurd hc (by decide)) (fun _ => ?_)
  refine lv_aload_n hx hb dX11_push_7 rfl (lv_at hl 1 rfl) ?_
  refine va_get (D := (dC, dI)) (ci := 11) (v := .int 0) (C := RX11) (T := TX11) (N := 19) hx hb hts (in_f_push0_X11) hown hK hP 0 rfl rfl 1 (by decide) (hts (.fieldLink RX11 112 "MotionSigns" "tapeSize" "I") (List.mem_of_getElem? (i := 1) rfl)) (fun _ h9 => h9) (mF.get hF_h0 0 rfl) dX11_push_8 ?_
  refine lv_if_lt (tgt := 47) hx hb dX11_push_11 (by decide) (fun hc => absurd hc (by decide)) (fun _ => ?_)
  refine lv_aload_n hx hb dX11_push_14 rfl (lv_at hl 1 rfl) ?_
  refine va_get (D := (dC, dI)) (ci := 11) (v := .int 0) (C := RX11) (T := TX11) (N := 19) hx hb hts (in_f_push0_X11) hown hK hP 0 rfl rfl 1 (by decide) (hts (.fieldLink RX11 112 "MotionSigns" "tapeSize" "I") (List.mem_of_getElem? (i := 1) rfl)) (fun _ h9 => h9) (mF.get hF_h0 0 rfl) dX11_push_15 ?_
  refine lv_sipush (v := 200) hx hb dX11_push_18 (by decide) ?_
  refine lv_icmp_ge (tgt := 47) hx hb dX11_push_21 (by decide) (fun hc => absurd hc (by decide)) (fun _ => ?_)
  refine lv_aload_n hx hb dX11_push_24 rfl (lv_at hl 1 rfl) ?_
  refine va_get (D := (dC, dI)) (ci := 11) (v := .ref qt) (C := RX11) (T := TX11) (N := 19) hx hb hts (in_f_push0_X11) hown hK hP 0 rfl rfl 0 (by decide) (hts (.fieldLink RX11 9 "MotionSigns" "tape" "[B") (List.mem_of_getElem? (i := 2) rfl)) (fun _ h9 => h9) (mF.get hF_h0 1 rfl) dX11_push_25 ?_
  refine lv_aload_n hx hb dX11_push_28 rfl (lv_at hl 1 rfl) ?_
  refine va_get (D := (dC, dI)) (ci := 11) (v := .int 0) (C := RX11) (T := TX11) (N := 19) hx hb hts (in_f_push0_X11) hown hK hP 0 rfl rfl 1 (by decide) (hts (.fieldLink RX11 112 "MotionSigns" "tapeSize" "I") (List.mem_of_getElem? (i := 1) rfl)) (fun _ h9 => h9) (mF.get hF_h0 0 rfl) dX11_push_29 ?_
  refine lv_iload_n hx hb dX11_push_32 rfl (lv_at hl 2 rfl) ?_
  refine lv_iload_n hx hb dX11_push_33 rfl (lv_at hl 0 rfl) ?_
  refine lv_ishr hx hb dX11_push_34 ?_
  refine lv_topi (fun v_1 ev_1 => ?_)
  refine lv_i2b (v := v_1.toInt8.toInt32) hx hb dX11_push_35 rfl ?_
  refine va_bast hx hb hK hP hD hS 1 0 rfl rfl (by exact fun h => by rcases h with h | h <;> revert h <;> decide) dX11_push_36 ?_
  clear hP hD hS; try clear H
  intro H locs hP hD hS
  have hPx := hP; have hDx := hD
  obtain ⟨f_3, hPx, hDx⟩ : ∃ g : Nat → Int32, va_P (dC, dI) vwCl [(h0, .inr (11, fs_h0)), (qt, .inl (kt, 200, .inl g))] H ∧ va_D A [(h0, .inr (11, fs_h0)), (qt, .inl (kt, 200, .inl g))] := ⟨_, hP, hD⟩
  replace hP := hPx; replace hD := hDx; clear hPx hDx
  replace hP : va_P (dC, dI) vwCl [(h0, .inr (11, fs_h0)), (qt, .inl (kt, 200, .inl f_3))] H := hP
  replace hD : va_D A [(h0, .inr (11, fs_h0)), (qt, .inl (kt, 200, .inl f_3))] := hD
  refine lv_aload_n hx hb dX11_push_37 rfl (lv_at hl 1 rfl) ?_
  refine lv_dup hx hb dX11_push_38 rfl ?_
  refine va_get (D := (dC, dI)) (ci := 11) (v := .int 0) (C := RX11) (T := TX11) (N := 19) hx hb hts (in_f_push0_X11) hown hK hP 0 rfl rfl 1 (by decide) (hts (.fieldLink RX11 112 "MotionSigns" "tapeSize" "I") (List.mem_of_getElem? (i := 1) rfl)) (fun _ h9 => h9) (mF.get hF_h0 0 rfl) dX11_push_39 ?_
  refine lv_iconst (v := 1) hx hb dX11_push_42 (by decide) ?_
  refine lv_iadd hx hb dX11_push_43 ?_
  refine lv_topi (fun v_4 ev_4 => ?_)
  have ev_4 : v_4 = 1 := ev_4.trans (by decide)
  subst ev_4
  refine va_put (D := (dC, dI)) (ci := 11) (v := .int 1) (ty := .int) (C := RX11) (T := TX11) (N := 19) hx hb hts (in_f_push0_X11) tyX11 tyX11_ok nmX11 hown hK hP hD hS 0 rfl rfl 1 (by decide) (hts (.fieldLink RX11 112 "MotionSigns" "tapeSize" "I") (List.mem_of_getElem? (i := 1) rfl)) (fun _ h9 => h9) rfl (tyX11_ok 1 (by decide)) rfl rfl (mF.lt hF_h0 (by decide)) dX11_push_44 ?_
  clear hP hD hS; try clear H
  intro H locs hP hD hS
  have hF0 := mF.sub (L' := [(0, .ref qt)]) hF_h0 [1] rfl
  have hF1 := mF.put hF0 1 (.int 1) (by decide) rfl
  replace hP : va_P (dC, dI) vwCl [(h0, .inr (11, (fs_h0.set 1 (.int 1)))), (qt, .inl (kt, 200, .inl f_3))] H := hP
  replace hD : va_D A [(h0, .inr (11, (fs_h0.set 1 (.int 1)))), (qt, .inl (kt, 200, .inl f_3))] := hD
  generalize fs_h0.set 1 (.int 1) = fs_5 at hP hD hF1
  replace hF_h0 : mF 19 [(1, .int 1), (0, .ref qt)] fs_5 := hF1
  clear hF1 hF0
  replace hP : va_P (dC, dI) vwCl [(h0, .inr (11, fs_5)), (qt, .inl (kt, 200, .inl f_3))] H := hP
  replace hD : va_D A [(h0, .inr (11, fs_5)), (qt, .inl (kt, 200, .inl f_3))] := hD
  refine lv_iinc (v := 16) (lv' := [(2, .int 16), (0, .ref h0), (1, .int x0)]) hx hb dX11_push_47 hl (k := 0) rfl (by decide) (by decide) rfl (fun ls hl => ?_)
  refine lv_goto (tgt := 3) hx hb dX11_push_50 (by decide) ?_
  refine lv_iload_n hx hb dX11_push_3 rfl (lv_at hl 0 rfl) ?_
  refine lv_if_lt (tgt := 53) hx hb dX11_push_4 (by decide) (fun hc => absurd hc (by decide)) (fun _ => ?_)
  refine lv_aload_n hx hb dX11_push_7 rfl (lv_at hl 1 rfl) ?_
  refine va_get (D := (dC, dI)) (ci := 11) (v := .int 1) (C := RX11) (T := TX11) (N := 19) hx hb hts (in_f_push0_X11) hown hK hP 0 rfl rfl 1 (by decide) (hts (.fieldLink RX11 112 "MotionSigns" "tapeSize" "I") (List.mem_of_getElem? (i := 1) rfl)) (fun _ h9 => h9) (mF.get hF_h0 0 rfl) dX11_push_8 ?_
  refine lv_if_lt (tgt := 47) hx hb dX11_push_11 (by decide) (fun hc => absurd hc (by decide)) (fun _ => ?_)
  refine lv_aload_n hx hb dX11_push_14 rfl (lv_at hl 1 rfl) ?_
  refine va_get (D := (dC, dI)) (ci := 11) (v := .int 1) (C := RX11) (T := TX11) (N := 19) hx hb hts (in_f_push0_X11) hown hK hP 0 rfl rfl 1 (by decide) (hts (.fieldLink RX11 112 "MotionSigns" "tapeSize" "I") (List.mem_of_getElem? (i := 1) rfl)) (fun _ h9 => h9) (mF.get hF_h0 0 rfl) dX11_push_15 ?_
  refine lv_sipush (v := 200) hx hb dX11_push_18 (by decide) ?_
  refine lv_icmp_ge (tgt := 47) hx hb dX11_push_21 (by decide) (fun hc => absurd hc (by decide)) (fun _ => ?_)
  refine lv_aload_n hx hb dX11_push_24 rfl (lv_at hl 1 rfl) ?_
  refine va_get (D := (dC, dI)) (ci := 11) (v := .ref qt) (C := RX11) (T := TX11) (N := 19) hx hb hts (in_f_push0_X11) hown hK hP 0 rfl rfl 0 (by decide) (hts (.fieldLink RX11 9 "MotionSigns" "tape" "[B") (List.mem_of_getElem? (i := 2) rfl)) (fun _ h9 => h9) (mF.get hF_h0 1 rfl) dX11_push_25 ?_
  refine lv_aload_n hx hb dX11_push_28 rfl (lv_at hl 1 rfl) ?_
  refine va_get (D := (dC, dI)) (ci := 11) (v := .int 1) (C := RX11) (T := TX11) (N := 19) hx hb hts (in_f_push0_X11) hown hK hP 0 rfl rfl 1 (by decide) (hts (.fieldLink RX11 112 "MotionSigns" "tapeSize" "I") (List.mem_of_getElem? (i := 1) rfl)) (fun _ h9 => h9) (mF.get hF_h0 0 rfl) dX11_push_29 ?_
  refine lv_iload_n hx hb dX11_push_32 rfl (lv_at hl 2 rfl) ?_
  refine lv_iload_n hx hb dX11_push_33 rfl (lv_at hl 0 rfl) ?_
  refine lv_ishr hx hb dX11_push_34 ?_
  refine lv_topi (fun v_6 ev_6 => ?_)
  refine lv_i2b (v := v_6.toInt8.toInt32) hx hb dX11_push_35 rfl ?_
  refine va_bast hx hb hK hP hD hS 1 0 rfl rfl (by exact fun h => by rcases h with h | h <;> revert h <;> decide) dX11_push_36 ?_
  clear hP hD hS; try clear H
  intro H locs hP hD hS
  have hPx := hP; have hDx := hD
  obtain ⟨f_8, hPx, hDx⟩ : ∃ g : Nat → Int32, va_P (dC, dI) vwCl [(h0, .inr (11, fs_5)), (qt, .inl (kt, 200, .inl g))] H ∧ va_D A [(h0, .inr (11, fs_5)), (qt, .inl (kt, 200, .inl g))] := ⟨_, hP, hD⟩
  replace hP := hPx; replace hD := hDx; clear hPx hDx
  replace hP : va_P (dC, dI) vwCl [(h0, .inr (11, fs_5)), (qt, .inl (kt, 200, .inl f_8))] H := hP
  replace hD : va_D A [(h0, .inr (11, fs_5)), (qt, .inl (kt, 200, .inl f_8))] := hD
  refine lv_aload_n hx hb dX11_push_37 rfl (lv_at hl 1 rfl) ?_
  refine lv_dup hx hb dX11_push_38 rfl ?_
  refine va_get (D := (dC, dI)) (ci := 11) (v := .int 1) (C := RX11) (T := TX11) (N := 19) hx hb hts (in_f_push0_X11) hown hK hP 0 rfl rfl 1 (by decide) (hts (.fieldLink RX11 112 "MotionSigns" "tapeSize" "I") (List.mem_of_getElem? (i := 1) rfl)) (fun _ h9 => h9) (mF.get hF_h0 0 rfl) dX11_push_39 ?_
  refine lv_iconst (v := 1) hx hb dX11_push_42 (by decide) ?_
  refine lv_iadd hx hb dX11_push_43 ?_
  refine lv_topi (fun v_9 ev_9 => ?_)
  have ev_9 : v_9 = 2 := ev_9.trans (by decide)
  subst ev_9
  refine va_put (D := (dC, dI)) (ci := 11) (v := .int 2) (ty := .int) (C := RX11) (T := TX11) (N := 19) hx hb hts (in_f_push0_X11) tyX11 tyX11_ok nmX11 hown hK hP hD hS 0 rfl rfl 1 (by decide) (hts (.fieldLink RX11 112 "MotionSigns" "tapeSize" "I") (List.mem_of_getElem? (i := 1) rfl)) (fun _ h9 => h9) rfl (tyX11_ok 1 (by decide)) rfl rfl (mF.lt hF_h0 (by decide)) dX11_push_44 ?_
  clear hP hD hS; try clear H
  intro H locs hP hD hS
  have hF0 := mF.sub (L' := [(0, .ref qt)]) hF_h0 [1] rfl
  have hF1 := mF.put hF0 1 (.int 2) (by decide) rfl
  replace hP : va_P (dC, dI) vwCl [(h0, .inr (11, (fs_5.set 1 (.int 2)))), (qt, .inl (kt, 200, .inl f_8))] H := hP
  replace hD : va_D A [(h0, .inr (11, (fs_5.set 1 (.int 2)))), (qt, .inl (kt, 200, .inl f_8))] := hD
  generalize fs_5.set 1 (.int 2) = fs_10 at hP hD hF1
  replace hF_h0 : mF 19 [(1, .int 2), (0, .ref qt)] fs_10 := hF1
  clear hF1 hF0
  replace hP : va_P (dC, dI) vwCl [(h0, .inr (11, fs_10)), (qt, .inl (kt, 200, .inl f_8))] H := hP
  replace hD : va_D A [(h0, .inr (11, fs_10)), (qt, .inl (kt, 200, .inl f_8))] := hD
  refine lv_iinc (v := 8) (lv' := [(2, .int 8), (0, .ref h0), (1, .int x0)]) hx hb dX11_push_47 hl (k := 0) rfl (by decide) (by decide) rfl (fun ls hl => ?_)
  refine lv_goto (tgt := 3) hx hb dX11_push_50 (by decide) ?_
  refine lv_iload_n hx hb dX11_push_3 rfl (lv_at hl 0 rfl) ?_
  refine lv_if_lt (tgt := 53) hx hb dX11_push_4 (by decide) (fun hc => absurd hc (by decide)) (fun _ => ?_)
  refine lv_aload_n hx hb dX11_push_7 rfl (lv_at hl 1 rfl) ?_
  refine va_get (D := (dC, dI)) (ci := 11) (v := .int 2) (C := RX11) (T := TX11) (N := 19) hx hb hts (in_f_push0_X11) hown hK hP 0 rfl rfl 1 (by decide) (hts (.fieldLink RX11 112 "MotionSigns" "tapeSize" "I") (List.mem_of_getElem? (i := 1) rfl)) (fun _ h9 => h9) (mF.get hF_h0 0 rfl) dX11_push_8 ?_
  refine lv_if_lt (tgt := 47) hx hb dX11_push_11 (by decide) (fun hc => absurd hc (by decide)) (fun _ => ?_)
  refine lv_aload_n hx hb dX11_push_14 rfl (lv_at hl 1 rfl) ?_
  refine va_get (D := (dC, dI)) (ci := 11) (v := .int 2) (C := RX11) (T := TX11) (N := 19) hx hb hts (in_f_push0_X11) hown hK hP 0 rfl rfl 1 (by decide) (hts (.fieldLink RX11 112 "MotionSigns" "tapeSize" "I") (List.mem_of_getElem? (i := 1) rfl)) (fun _ h9 => h9) (mF.get hF_h0 0 rfl) dX11_push_15 ?_
  refine lv_sipush (v := 200) hx hb dX11_push_18 (by decide) ?_
  refine lv_icmp_ge (tgt := 47) hx hb dX11_push_21 (by decide) (fun hc => absurd hc (by decide)) (fun _ => ?_)
  refine lv_aload_n hx hb dX11_push_24 rfl (lv_at hl 1 rfl) ?_
  refine va_get (D := (dC, dI)) (ci := 11) (v := .ref qt) (C := RX11) (T := TX11) (N := 19) hx hb hts (in_f_push0_X11) hown hK hP 0 rfl rfl 0 (by decide) (hts (.fieldLink RX11 9 "MotionSigns" "tape" "[B") (List.mem_of_getElem? (i := 2) rfl)) (fun _ h9 => h9) (mF.get hF_h0 1 rfl) dX11_push_25 ?_
  refine lv_aload_n hx hb dX11_push_28 rfl (lv_at hl 1 rfl) ?_
  refine va_get (D := (dC, dI)) (ci := 11) (v := .int 2) (C := RX11) (T := TX11) (N := 19) hx hb hts (in_f_push0_X11) hown hK hP 0 rfl rfl 1 (by decide) (hts (.fieldLink RX11 112 "MotionSigns" "tapeSize" "I") (List.mem_of_getElem? (i := 1) rfl)) (fun _ h9 => h9) (mF.get hF_h0 0 rfl) dX11_push_29 ?_
  refine lv_iload_n hx hb dX11_push_32 rfl (lv_at hl 2 rfl) ?_
  refine lv_iload_n hx hb dX11_push_33 rfl (lv_at hl 0 rfl) ?_
  refine lv_ishr hx hb dX11_push_34 ?_
  refine lv_topi (fun v_11 ev_11 => ?_)
  refine lv_i2b (v := v_11.toInt8.toInt32) hx hb dX11_push_35 rfl ?_
  refine va_bast hx hb hK hP hD hS 1 0 rfl rfl (by exact fun h => by rcases h with h | h <;> revert h <;> decide) dX11_push_36 ?_
  clear hP hD hS; try clear H
  intro H locs hP hD hS
  have hPx := hP; have hDx := hD
  obtain ⟨f_13, hPx, hDx⟩ : ∃ g : Nat → Int32, va_P (dC, dI) vwCl [(h0, .inr (11, fs_10)), (qt, .inl (kt, 200, .inl g))] H ∧ va_D A [(h0, .inr (11, fs_10)), (qt, .inl (kt, 200, .inl g))] := ⟨_, hP, hD⟩
  replace hP := hPx; replace hD := hDx; clear hPx hDx
  replace hP : va_P (dC, dI) vwCl [(h0, .inr (11, fs_10)), (qt, .inl (kt, 200, .inl f_13))] H := hP
  replace hD : va_D A [(h0, .inr (11, fs_10)), (qt, .inl (kt, 200, .inl f_13))] := hD
  refine lv_aload_n hx hb dX11_push_37 rfl (lv_at hl 1 rfl) ?_
  refine lv_dup hx hb dX11_push_38 rfl ?_
  refine va_get (D := (dC, dI)) (ci := 11) (v := .int 2) (C := RX11) (T := TX11) (N := 19) hx hb hts (in_f_push0_X11) hown hK hP 0 rfl rfl 1 (by decide) (hts (.fieldLink RX11 112 "MotionSigns" "tapeSize" "I") (List.mem_of_getElem? (i := 1) rfl)) (fun _ h9 => h9) (mF.get hF_h0 0 rfl) dX11_push_39 ?_
  refine lv_iconst (v := 1) hx hb dX11_push_42 (by decide) ?_
  refine lv_iadd hx hb dX11_push_43 ?_
  refine lv_topi (fun v_14 ev_14 => ?_)
  have ev_14 : v_14 = 3 := ev_14.trans (by decide)
  subst ev_14
  refine va_put (D := (dC, dI)) (ci := 11) (v := .int 3) (ty := .int) (C := RX11) (T := TX11) (N := 19) hx hb hts (in_f_push0_X11) tyX11 tyX11_ok nmX11 hown hK hP hD hS 0 rfl rfl 1 (by decide) (hts (.fieldLink RX11 112 "MotionSigns" "tapeSize" "I") (List.mem_of_getElem? (i := 1) rfl)) (fun _ h9 => h9) rfl (tyX11_ok 1 (by decide)) rfl rfl (mF.lt hF_h0 (by decide)) dX11_push_44 ?_
  clear hP hD hS; try clear H
  intro H locs hP hD hS
  have hF0 := mF.sub (L' := [(0, .ref qt)]) hF_h0 [1] rfl
  have hF1 := mF.put hF0 1 (.int 3) (by decide) rfl
  replace hP : va_P (dC, dI) vwCl [(h0, .inr (11, (fs_10.set 1 (.int 3)))), (qt, .inl (kt, 200, .inl f_13))] H := hP
  replace hD : va_D A [(h0, .inr (11, (fs_10.set 1 (.int 3)))), (qt, .inl (kt, 200, .inl f_13))] := hD
  generalize fs_10.set 1 (.int 3) = fs_15 at hP hD hF1
  replace hF_h0 : mF 19 [(1, .int 3), (0, .ref qt)] fs_15 := hF1
  clear hF1 hF0
  replace hP : va_P (dC, dI) vwCl [(h0, .inr (11, fs_15)), (qt, .inl (kt, 200, .inl f_13))] H := hP
  replace hD : va_D A [(h0, .inr (11, fs_15)), (qt, .inl (kt, 200, .inl f_13))] := hD
  refine lv_iinc (v := 0) (lv' := [(2, .int 0), (0, .ref h0), (1, .int x0)]) hx hb dX11_push_47 hl (k := 0) rfl (by decide) (by decide) rfl (fun ls hl => ?_)
  refine lv_goto (tgt := 3) hx hb dX11_push_50 (by decide) ?_
  refine lv_iload_n hx hb dX11_push_3 rfl (lv_at hl 0 rfl) ?_
  refine lv_if_lt (tgt := 53) hx hb dX11_push_4 (by decide) (fun hc => absurd hc (by decide)) (fun _ => ?_)
  refine lv_aload_n hx hb dX11_push_7 rfl (lv_at hl 1 rfl) ?_
  refine va_get (D := (dC, dI)) (ci := 11) (v := .int 3) (C := RX11) (T := TX11) (N := 19) hx hb hts (in_f_push0_X11) hown hK hP 0 rfl rfl 1 (by decide) (hts (.fieldLink RX11 112 "MotionSigns" "tapeSize" "I") (List.mem_of_getElem? (i := 1) rfl)) (fun _ h9 => h9) (mF.get hF_h0 0 rfl) dX11_push_8 ?_
  refine lv_if_lt (tgt := 47) hx hb dX11_push_11 (by decide) (fun hc => absurd hc (by decide)) (fun _ => ?_)
  refine lv_aload_n hx hb dX11_push_14 rfl (lv_at hl 1 rfl) ?_
  refine va_get (D := (dC, dI)) (ci := 11) (v := .int 3) (C := RX11) (T := TX11) (N := 19) hx hb hts (in_f_push0_X11) hown hK hP 0 rfl rfl 1 (by decide) (hts (.fieldLink RX11 112 "MotionSigns" "tapeSize" "I") (List.mem_of_getElem? (i := 1) rfl)) (fun _ h9 => h9) (mF.get hF_h0 0 rfl) dX11_push_15 ?_
  refine lv_sipush (v := 200) hx hb dX11_push_18 (by decide) ?_
  refine lv_icmp_ge (tgt := 47) hx hb dX11_push_21 (by decide) (fun hc => absurd hc (by decide)) (fun _ => ?_)
  refine lv_aload_n hx hb dX11_push_24 rfl (lv_at hl 1 rfl) ?_
  refine va_get (D := (dC, dI)) (ci := 11) (v := .ref qt) (C := RX11) (T := TX11) (N := 19) hx hb hts (in_f_push0_X11) hown hK hP 0 rfl rfl 0 (by decide) (hts (.fieldLink RX11 9 "MotionSigns" "tape" "[B") (List.mem_of_getElem? (i := 2) rfl)) (fun _ h9 => h9) (mF.get hF_h0 1 rfl) dX11_push_25 ?_
  refine lv_aload_n hx hb dX11_push_28 rfl (lv_at hl 1 rfl) ?_
  refine va_get (D := (dC, dI)) (ci := 11) (v := .int 3) (C := RX11) (T := TX11) (N := 19) hx hb hts (in_f_push0_X11) hown hK hP 0 rfl rfl 1 (by decide) (hts (.fieldLink RX11 112 "MotionSigns" "tapeSize" "I") (List.mem_of_getElem? (i := 1) rfl)) (fun _ h9 => h9) (mF.get hF_h0 0 rfl) dX11_push_29 ?_
  refine lv_iload_n hx hb dX11_push_32 rfl (lv_at hl 2 rfl) ?_
  refine lv_iload_n hx hb dX11_push_33 rfl (lv_at hl 0 rfl) ?_
  refine lv_ishr hx hb dX11_push_34 ?_
  refine lv_topi (fun v_16 ev_16 => ?_)
  refine lv_i2b (v := v_16.toInt8.toInt32) hx hb dX11_push_35 rfl ?_
  refine va_bast hx hb hK hP hD hS 1 0 rfl rfl (by exact fun h => by rcases h with h | h <;> revert h <;> decide) dX11_push_36 ?_
  clear hP hD hS; try clear H
  intro H locs hP hD hS
  have hPx := hP; have hDx := hD
  obtain ⟨f_18, hPx, hDx⟩ : ∃ g : Nat → Int32, va_P (dC, dI) vwCl [(h0, .inr (11, fs_15)), (qt, .inl (kt, 200, .inl g))] H ∧ va_D A [(h0, .inr (11, fs_15)), (qt, .inl (kt, 200, .inl g))] := ⟨_, hP, hD⟩
  replace hP := hPx; replace hD := hDx; clear hPx hDx
  replace hP : va_P (dC, dI) vwCl [(h0, .inr (11, fs_15)), (qt, .inl (kt, 200, .inl f_18))] H := hP
  replace hD : va_D A [(h0, .inr (11, fs_15)), (qt, .inl (kt, 200, .inl f_18))] := hD
  refine lv_aload_n hx hb dX11_push_37 rfl (lv_at hl 1 rfl) ?_
  refine lv_dup hx hb dX11_push_38 rfl ?_
  refine va_get (D := (dC, dI)) (ci := 11) (v := .int 3) (C := RX11) (T := TX11) (N := 19) hx hb hts (in_f_push0_X11) hown hK hP 0 rfl rfl 1 (by decide) (hts (.fieldLink RX11 112 "MotionSigns" "tapeSize" "I") (List.mem_of_getElem? (i := 1) rfl)) (fun _ h9 => h9) (mF.get hF_h0 0 rfl) dX11_push_39 ?_
  refine lv_iconst (v := 1) hx hb dX11_push_42 (by decide) ?_
  refine lv_iadd hx hb dX11_push_43 ?_
  refine lv_topi (fun v_19 ev_19 => ?_)
  have ev_19 : v_19 = 4 := ev_19.trans (by decide)
  subst ev_19
  refine va_put (D := (dC, dI)) (ci := 11) (v := .int 4) (ty := .int) (C := RX11) (T := TX11) (N := 19) hx hb hts (in_f_push0_X11) tyX11 tyX11_ok nmX11 hown hK hP hD hS 0 rfl rfl 1 (by decide) (hts (.fieldLink RX11 112 "MotionSigns" "tapeSize" "I") (List.mem_of_getElem? (i := 1) rfl)) (fun _ h9 => h9) rfl (tyX11_ok 1 (by decide)) rfl rfl (mF.lt hF_h0 (by decide)) dX11_push_44 ?_
  clear hP hD hS; try clear H
  intro H locs hP hD hS
  have hF0 := mF.sub (L' := [(0, .ref qt)]) hF_h0 [1] rfl
  have hF1 := mF.put hF0 1 (.int 4) (by decide) rfl
  replace hP : va_P (dC, dI) vwCl [(h0, .inr (11, (fs_15.set 1 (.int 4)))), (qt, .inl (kt, 200, .inl f_18))] H := hP
  replace hD : va_D A [(h0, .inr (11, (fs_15.set 1 (.int 4)))), (qt, .inl (kt, 200, .inl f_18))] := hD
  generalize fs_15.set 1 (.int 4) = fs_20 at hP hD hF1
  replace hF_h0 : mF 19 [(1, .int 4), (0, .ref qt)] fs_20 := hF1
  clear hF1 hF0
  replace hP : va_P (dC, dI) vwCl [(h0, .inr (11, fs_20)), (qt, .inl (kt, 200, .inl f_18))] H := hP
  replace hD : va_D A [(h0, .inr (11, fs_20)), (qt, .inl (kt, 200, .inl f_18))] := hD
  refine lv_iinc (v := (-8)) (lv' := [(2, .int (-8)), (0, .ref h0), (1, .int x0)]) hx hb dX11_push_47 hl (k := 0) rfl (by decide) (by decide) rfl (fun ls hl => ?_)
  refine lv_goto (tgt := 3) hx hb dX11_push_50 (by decide) ?_
  refine lv_iload_n hx hb dX11_push_3 rfl (lv_at hl 0 rfl) ?_
  refine lv_if_lt (tgt := 53) hx hb dX11_push_4 (by decide) (fun _ => ?_) (fun hc => absurd (by decide) hc)
  have hP9 := hP.sub (ws' := [(h0, .inr (11, fs_20)), (qt, .inl (kt, 200, .inl f_18))]) [0, 1] rfl
  have hD9 := hD.sub (ws' := [(h0, .inr (11, fs_20)), (qt, .inl (kt, 200, .inl f_18))]) [0, 1] (by decide) rfl
  have hK9 := hK.sub (tys' := [(kt, .byte)]) [0] rfl
  rw [← hAe] at hD9
  refine W.widen (k := 0) (n := 0) (Nat.le_of_ble_eq_true rfl) (Nat.le_of_ble_eq_true rfl) ?_
  subst hAe
  exact (W.vret hx hb hr (fun t ht hW => ⟨⟨(), rfl, trivial, (f_18), fs_20, by rw [ht]; exact hP9, va_K.moved hW.alike hK9, hD9, (mF.sub hF_h0 [0, 1] rfl)⟩, hS.F ht⟩) hS.2.2 dX11_push_53)
def wv_f_push4 : List Cond := .code yX11_push cX11_push 3 none :: ([.fieldLink RX11 112 "MotionSigns" "tapeSize" "I", .fieldLink RX11 9 "MotionSigns" "tape" "[B"] ++ (wsX110 ++ ([])))
theorem gw_f_push4 : wv_f_push4.all goodWord = true := by decide +kernel
theorem in_f_push4_X11 : ∀ w ∈ wsX110, w ∈ wv_f_push4 := fun _ h => List.mem_cons_of_mem _ (List.mem_append_right _ (List.mem_append_left _ h))
set_option maxHeartbeats 4000000 in
set_option maxRecDepth 100000 in
/-- four bytes behind the 4 that there are -/
theorem c_f_push4 (l : Launch) (dC : Nat → ClassId) (dI : Nat → Nat → Nat) (h0 : Nat) (qt : Nat) (kt : Nat) (x0 : Int32) (ft : Nat → Int32) (fs_h0 : List Value) (hF_h0 : mF 19 [(1, .int 4), (0, .ref qt)] fs_h0) (sz : Nat) : Met l yX11_push wv_f_push4 ({ frames := 0, cells := 0, slots := 0, locals := 0 }) (va_Pc [.ref h0, .int x0] (fun U => U.heap.size = sz ∧ va_P (dC, dI) vwCl [(h0, .inr (11, fs_h0)), (qt, .inl (kt, 200, .inl ft))] U.heap ∧ va_K (dC, dI) vwCl [(kt, .byte)] U ∧ va_D (fun _ => True) [(h0, .inr (11, fs_h0)), (qt, .inl (kt, 200, .inl ft))] ∧ w_N U)) (va_Qv (fun (_ : Unit) => True) (fun _ t => ∃ (ft2 : Nat → Int32) (fs_h02 : List Value), va_P (dC, dI) vwCl [(h0, .inr (11, fs_h02)), (qt, .inl (kt, 200, .inl ft2))] t.heap ∧ va_K (dC, dI) vwCl [(kt, .byte)] t ∧ va_D (va_A [(h0, .inr (11, fs_h0)), (qt, .inl (kt, 200, .inl ft))] sz) [(h0, .inr (11, fs_h02)), (qt, .inl (kt, 200, .inl ft2))] ∧ mF 19 [(1, .int 8), (0, .ref qt)] fs_h02) (va_A [(h0, .inr (11, fs_h0)), (qt, .inl (kt, 200, .inl ft))] sz)) 0 0 (va_A [(h0, .inr (11, fs_h0)), (qt, .inl (kt, 200, .inl ft))] sz) := by
  refine Met.ofW (cc := cX11_push) (maxL := 3) (ret := none) (by decide) rfl ?_
  intro p e s m args below meth c s₁ B hml hv
  obtain ⟨rfl, hsz, hP, hK, hD0, hN⟩ := hv
  have hx := B.exec
  have hb := B.bytes
  have hr := B.returns
  have hts := atoms_spec (ws := wv_f_push4) B.pre
  have hown : s.vm.findClass RX11 = some m.cls := findClass_of_methodNamed B.named
  have hlocks := B.notSynchronized
  subst hsz
  have hD := hD0.self (sz := s.heap.size)
  generalize hAe : va_A [(h0, .inr (11, fs_h0)), (qt, .inl (kt, 200, .inl ft))] s.heap.size = A at hD ⊢
  have hA : ∀ q : Nat, s.heap.size ≤ q → A q := fun q h => by rw [← hAe]; exact Or.inr h
  obtain ⟨H, hHe, hP, hS⟩ : ∃ H : Heap, H = s.heap ∧ va_P (dC, dI) vwCl [(h0, .inr (11, fs_h0)), (qt, .inl (kt, 200, .inl ft))] H ∧ va_S A s.heap H [] := ⟨s.heap, rfl, hP, va_S.rf⟩
  have hl := lv_entry ([.ref h0, .int x0]) (n := 3) (Nat.le_of_ble_eq_true rfl)
  rw [lg_entry_eq]
  generalize (lg_sl ([.ref h0, .int x0]) ++ List.replicate (3 - (lg_sl ([.ref h0, .int x0])).length) Slot.unset).toArray = ls at hl ⊢
  have hl : lv_has ls 3 [(0, .ref h0), (1, .int x0)] := hl
  rw [← hHe]; clear hHe
  refine lv_bipush (v := 24) hx hb dX11_push_0 (by decide) ?_
  refine lv_istore_n (lv' := [(2, .int 24), (0, .ref h0), (1, .int x0)]) hx hb dX11_push_2 rfl hl (by decide) rfl (fun ls hl => ?_)
  refine lv_iload_n hx hb dX11_push_3 rfl (lv_at hl 0 rfl) ?_
  refine lv_if_lt (tgt := 53) hx hb dX11_push_4 (by decide) (fun hc => absurd hc (by decide)) (fun _ => ?_)
  refine lv_aload_n hx hb dX11_push_7 rfl (lv_at hl 1 rfl) ?_
  refine va_get (D := (dC, dI)) (ci := 11) (v := .int 4) (C := RX11) (T := TX11) (N := 19) hx hb hts (in_f_push4_X11) hown hK hP 0 rfl rfl 1 (by decide) (hts (.fieldLink RX11 112 "MotionSigns" "tapeSize" "I") (List.mem_of_getElem? (i := 1) rfl)) (fun _ h9 => h9) (mF.get hF_h0 0 rfl) dX11_push_8 ?_
  refine lv_if_lt (tgt := 47) hx hb dX11_push_11 (by decide) (fun hc => absurd hc (by decide)) (fun _ => ?_)
  refine lv_aload_n hx hb dX11_push_14 rfl (lv_at hl 1 rfl) ?_
  refine va_get (D := (dC, dI)) (ci := 11) (v := .int 4) (C := RX11) (T := TX11) (N := 19) hx hb hts (in_f_push4_X11) hown hK hP 0 rfl rfl 1 (by decide) (hts (.fieldLink RX11 112 "MotionSigns" "tapeSize" "I") (List.mem_of_getElem? (i := 1) rfl)) (fun _ h9 => h9) (mF.get hF_h0 0 rfl) dX11_push_15 ?_
  refine lv_sipush (v := 200) hx hb dX11_push_18 (by decide) ?_
  refine lv_icmp_ge (tgt := 47) hx hb dX11_push_21 (by decide) (fun hc => absurd hc (by decide)) (fun _ => ?_)
  refine lv_aload_n hx hb dX11_push_24 rfl (lv_at hl 1 rfl) ?_
  refine va_get (D := (dC, dI)) (ci := 11) (v := .ref qt) (C := RX11) (T := TX11) (N := 19) hx hb hts (in_f_push4_X11) hown hK hP 0 rfl rfl 0 (by decide) (hts (.fieldLink RX11 9 "MotionSigns" "tape" "[B") (List.mem_of_getElem? (i := 2) rfl)) (fun _ h9 => h9) (mF.get hF_h0 1 rfl) dX11_push_25 ?_
  refine lv_aload_n hx hb dX11_push_28 rfl (lv_at hl 1 rfl) ?_
  refine va_get (D := (dC, dI)) (ci := 11) (v := .int 4) (C := RX11) (T := TX11) (N := 19) hx hb hts (in_f_push4_X11) hown hK hP 0 rfl rfl 1 (by decide) (hts (.fieldLink RX11 112 "MotionSigns" "tapeSize" "I") (List.mem_of_getElem? (i := 1) rfl)) (fun _ h9 => h9) (mF.get hF_h0 0 rfl) dX11_push_29 ?_
  refine lv_iload_n hx hb dX11_push_32 rfl (lv_at hl 2 rfl) ?_
  refine lv_iload_n hx hb dX11_push_33 rfl (lv_at hl 0 rfl) ?_
  refine lv_ishr hx hb dX11_push_34 ?_
  refine lv_topi (fun v_1 ev_1 => ?_)
  refine lv_i2b (v := v_1.toInt8.toInt32) hx hb dX11_push_35 rfl ?_
  refine va_bast hx hb hK hP hD hS 1 0 rfl rfl (by exact fun h => by rcases h with h | h <;> revert h <;> decide) dX11_push_36 ?_
  clear hP hD hS; try clear H
  intro H locs hP hD hS
  have hPx := hP; have hDx := hD
  obtain ⟨f_3, hPx, hDx⟩ : ∃ g : Nat → Int32, va_P (dC, dI) vwCl [(h0, .inr (11, fs_h0)), (qt, .inl (kt, 200, .inl g))] H ∧ va_D A [(h0, .inr (11, fs_h0)), (qt, .inl (kt, 200, .inl g))] := ⟨_, hP, hD⟩
  replace hP := hPx; replace hD := hDx; clear hPx hDx
  replace hP : va_P (dC, dI) vwCl [(h0, .inr (11, fs_h0)), (qt, .inl (kt, 200, .inl f_3))] H := hP
  replace hD : va_D A [(h0, .inr (11, fs_h0)), (qt, .inl (kt, 200, .inl f_3))] := hD
  refine lv_aload_n hx hb dX11_push_37 rfl (lv_at hl 1 rfl) ?_
  refine lv_dup hx hb dX11_push_38 rfl ?_
  refine va_get (D := (dC, dI)) (ci := 11) (v := .int 4) (C := RX11) (T := TX11) (N := 19) hx hb hts (in_f_push4_X11) hown hK hP 0 rfl rfl 1 (by decide) (hts (.fieldLink RX11 112 "MotionSigns" "tapeSize" "I") (List.mem_of_getElem? (i := 1) rfl)) (fun _ h9 => h9) (mF.get hF_h0 0 rfl) dX11_push_39 ?_
  refine lv_iconst (v := 1) hx hb dX11_push_42 (by decide) ?_
  refine lv_iadd hx hb dX11_push_43 ?_
  refine lv_topi (fun v_4 ev_4 => ?_)
  have ev_4 : v_4 = 5 := ev_4.trans (by decide)
  subst ev_4
  refine va_put (D := (dC, dI)) (ci := 11) (v := .int 5) (ty := .int) (C := RX11) (T := TX11) (N := 19) hx hb hts (in_f_push4_X11) tyX11 tyX11_ok nmX11 hown hK hP hD hS 0 rfl rfl 1 (by decide) (hts (.fieldLink RX11 112 "MotionSigns" "tapeSize" "I") (List.mem_of_getElem? (i := 1) rfl)) (fun _ h9 => h9) rfl (tyX11_ok 1 (by decide)) rfl rfl (mF.lt hF_h0 (by decide)) dX11_push_44 ?_
  clear hP hD hS; try clear H
  intro H locs hP hD hS
  have hF0 := mF.sub (L' := [(0, .ref qt)]) hF_h0 [1] rfl
  have hF1 := mF.put hF0 1 (.int 5) (by decide) rfl
  replace hP : va_P (dC, dI) vwCl [(h0, .inr (11, (fs_h0.set 1 (.int 5)))), (qt, .inl (kt, 200, .inl f_3))] H := hP
  replace hD : va_D A [(h0, .inr (11, (fs_h0.set 1 (.int 5)))), (qt, .inl (kt, 200, .inl f_3))] := hD
  generalize fs_h0.set 1 (.int 5) = fs_5 at hP hD hF1
  replace hF_h0 : mF 19 [(1, .int 5), (0, .ref qt)] fs_5 := hF1
  clear hF1 hF0
  replace hP : va_P (dC, dI) vwCl [(h0, .inr (11, fs_5)), (qt, .inl (kt, 200, .inl f_3))] H := hP
  replace hD : va_D A [(h0, .inr (11, fs_5)), (qt, .inl (kt, 200, .inl f_3))] := hD
  refine lv_iinc (v := 16) (lv' := [(2, .int 16), (0, .ref h0), (1, .int x0)]) hx hb dX11_push_47 hl (k := 0) rfl (by decide) (by decide) rfl (fun ls hl => ?_)
  refine lv_goto (tgt := 3) hx hb dX11_push_50 (by decide) ?_
  refine lv_iload_n hx hb dX11_push_3 rfl (lv_at hl 0 rfl) ?_
  refine lv_if_lt (tgt := 53) hx hb dX11_push_4 (by decide) (fun hc => absurd hc (by decide)) (fun _ => ?_)
  refine lv_aload_n hx hb dX11_push_7 rfl (lv_at hl 1 rfl) ?_
  refine va_get (D := (dC, dI)) (ci := 11) (v := .int 5) (C := RX11) (T := TX11) (N := 19) hx hb hts (in_f_push4_X11) hown hK hP 0 rfl rfl 1 (by decide) (hts (.fieldLink RX11 112 "MotionSigns" "tapeSize" "I") (List.mem_of_getElem? (i := 1) rfl)) (fun _ h9 => h9) (mF.get hF_h0 0 rfl) dX11_push_8 ?_
  refine lv_if_lt (tgt := 47) hx hb dX11_push_11 (by decide) (fun hc => absurd hc (by decide)) (fun _ => ?_)
  refine lv_aload_n hx hb dX11_push_14 rfl (lv_at hl 1 rfl) ?_
  refine va_get (D := (dC, dI)) (ci := 11) (v := .int 5) (C := RX11) (T := TX11) (N := 19) hx hb hts (in_f_push4_X11) hown hK hP 0 rfl rfl 1 (by decide) (hts (.fieldLink RX11 112 "MotionSigns" "tapeSize" "I") (List.mem_of_getElem? (i := 1) rfl)) (fun _ h9 => h9) (mF.get hF_h0 0 rfl) dX11_push_15 ?_
  refine lv_sipush (v := 200) hx hb dX11_push_18 (by decide) ?_
  refine lv_icmp_ge (tgt := 47) hx hb dX11_push_21 (by decide) (fun hc => absurd hc (by decide)) (fun _ => ?_)
  refine lv_aload_n hx hb dX11_push_24 rfl (lv_at hl 1 rfl) ?_
  refine va_get (D := (dC, dI)) (ci := 11) (v := .ref qt) (C := RX11) (T := TX11) (N := 19) hx hb hts (in_f_push4_X11) hown hK hP 0 rfl rfl 0 (by decide) (hts (.fieldLink RX11 9 "MotionSigns" "tape" "[B") (List.mem_of_getElem? (i := 2) rfl)) (fun _ h9 => h9) (mF.get hF_h0 1 rfl) dX11_push_25 ?_
  refine lv_aload_n hx hb dX11_push_28 rfl (lv_at hl 1 rfl) ?_
  refine va_get (D := (dC, dI)) (ci := 11) (v := .int 5) (C := RX11) (T := TX11) (N := 19) hx hb hts (in_f_push4_X11) hown hK hP 0 rfl rfl 1 (by decide) (hts (.fieldLink RX11 112 "MotionSigns" "tapeSize" "I") (List.mem_of_getElem? (i := 1) rfl)) (fun _ h9 => h9) (mF.get hF_h0 0 rfl) dX11_push_29 ?_
  refine lv_iload_n hx hb dX11_push_32 rfl (lv_at hl 2 rfl) ?_
  refine lv_iload_n hx hb dX11_push_33 rfl (lv_at hl 0 rfl) ?_
  refine lv_ishr hx hb dX11_push_34 ?_
  refine lv_topi (fun v_6 ev_6 => ?_)
  refine lv_i2b (v := v_6.toInt8.toInt32) hx hb dX11_push_35 rfl ?_
  refine va_bast hx hb hK hP hD hS 1 0 rfl rfl (by exact fun h => by rcases h with h | h <;> revert h <;> decide) dX11_push_36 ?_
  clear hP hD hS; try clear H
  intro H locs hP hD hS
  have hPx := hP; have hDx := hD
  obtain ⟨f_8, hPx, hDx⟩ : ∃ g : Nat → Int32, va_P (dC, dI) vwCl [(h0, .inr (11, fs_5)), (qt, .inl (kt, 200, .inl g))] H ∧ va_D A [(h0, .inr (11, fs_5)), (qt, .inl (kt, 200, .inl g))] := ⟨_, hP, hD⟩
  replace hP := hPx; replace hD := hDx; clear hPx hDx
  replace hP : va_P (dC, dI) vwCl [(h0, .inr (11, fs_5)), (qt, .inl (kt, 200, .inl f_8))] H := hP
  replace hD : va_D A [(h0, .inr (11, fs_5)), (qt, .inl (kt, 200, .inl f_8))] := hD
  refine lv_aload_n hx hb dX11_push_37 rfl (lv_at hl 1 rfl) ?_
  refine lv_dup hx hb dX11_push_38 rfl ?_
  refine va_get (D := (dC, dI)) (ci := 11) (v := .int 5) (C := RX11) (T := TX11) (N := 19) hx hb hts (in_f_push4_X11) hown hK hP 0 rfl rfl 1 (by decide) (hts (.fieldLink RX11 112 "MotionSigns" "tapeSize" "I") (List.mem_of_getElem? (i := 1) rfl)) (fun _ h9 => h9) (mF.get hF_h0 0 rfl) dX11_push_39 ?_
  refine lv_iconst (v := 1) hx hb dX11_push_42 (by decide) ?_
  refine lv_iadd hx hb dX11_push_43 ?_
  refine lv_topi (fun v_9 ev_9 => ?_)
  have ev_9 : v_9 = 6 := ev_9.trans (by decide)
  subst ev_9
  refine va_put (D := (dC, dI)) (ci := 11) (v := .int 6) (ty := .int) (C := RX11) (T := TX11) (N := 19) hx hb hts (in_f_push4_X11) tyX11 tyX11_ok nmX11 hown hK hP hD hS 0 rfl rfl 1 (by decide) (hts (.fieldLink RX11 112 "MotionSigns" "tapeSize" "I") (List.mem_of_getElem? (i := 1) rfl)) (fun _ h9 => h9) rfl (tyX11_ok 1 (by decide)) rfl rfl (mF.lt hF_h0 (by decide)) dX11_push_44 ?_
  clear hP hD hS; try clear H
  intro H locs hP hD hS
  have hF0 := mF.sub (L' := [(0, .ref qt)]) hF_h0 [1] rfl
  have hF1 := mF.put hF0 1 (.int 6) (by decide) rfl
  replace hP : va_P (dC, dI) vwCl [(h0, .inr (11, (fs_5.set 1 (.int 6)))), (qt, .inl (kt, 200, .inl f_8))] H := hP
  replace hD : va_D A [(h0, .inr (11, (fs_5.set 1 (.int 6)))), (qt, .inl (kt, 200, .inl f_8))] := hD
  generalize fs_5.set 1 (.int 6) = fs_10 at hP hD hF1
  replace hF_h0 : mF 19 [(1, .int 6), (0, .ref qt)] fs_10 := hF1
  clear hF1 hF0
  replace hP : va_P (dC, dI) vwCl [(h0, .inr (11, fs_10)), (qt, .inl (kt, 200, .inl f_8))] H := hP
  replace hD : va_D A [(h0, .inr (11, fs_10)), (qt, .inl (kt, 200, .inl f_8))] := hD
  refine lv_iinc (v := 8) (lv' := [(2, .int 8), (0, .ref h0), (1, .int x0)]) hx hb dX11_push_47 hl (k := 0) rfl (by decide) (by decide) rfl (fun ls hl => ?_)
  refine lv_goto (tgt := 3) hx hb dX11_push_50 (by decide) ?_
  refine lv_iload_n hx hb dX11_push_3 rfl (lv_at hl 0 rfl) ?_
  refine lv_if_lt (tgt := 53) hx hb dX11_push_4 (by decide) (fun hc => absurd hc (by decide)) (fun _ => ?_)
  refine lv_aload_n hx hb dX11_push_7 rfl (lv_at hl 1 rfl) ?_
  refine va_get (D := (dC, dI)) (ci := 11) (v := .int 6) (C := RX11) (T := TX11) (N := 19) hx hb hts (in_f_push4_X11) hown hK hP 0 rfl rfl 1 (by decide) (hts (.fieldLink RX11 112 "MotionSigns" "tapeSize" "I") (List.mem_of_getElem? (i := 1) rfl)) (fun _ h9 => h9) (mF.get hF_h0 0 rfl) dX11_push_8 ?_
  refine lv_if_lt (tgt := 47) hx hb dX11_push_11 (by decide) (fun hc => absurd hc (by decide)) (fun _ => ?_)
  refine lv_aload_n hx hb dX11_push_14 rfl (lv_at hl 1 rfl) ?_
  refine va_get (D := (dC, dI)) (ci := 11) (v := .int 6) (C := RX11) (T := TX11) (N := 19) hx hb hts (in_f_push4_X11) hown hK hP 0 rfl rfl 1 (by decide) (hts (.fieldLink RX11 112 "MotionSigns" "tapeSize" "I") (List.mem_of_getElem? (i := 1) rfl)) (fun _ h9 => h9) (mF.get hF_h0 0 rfl) dX11_push_15 ?_
  refine lv_sipush (v := 200) hx hb dX11_push_18 (by decide) ?_
  refine lv_icmp_ge (tgt := 47) hx hb dX11_push_21 (by decide) (fun hc => absurd hc (by decide)) (fun _ => ?_)
  refine lv_aload_n hx hb dX11_push_24 rfl (lv_at hl 1 rfl) ?_
  refine va_get (D := (dC, dI)) (ci := 11) (v := .ref qt) (C := RX11) (T := TX11) (N := 19) hx hb hts (in_f_push4_X11) hown hK hP 0 rfl rfl 0 (by decide) (hts (.fieldLink RX11 9 "MotionSigns" "tape" "[B") (List.mem_of_getElem? (i := 2) rfl)) (fun _ h9 => h9) (mF.get hF_h0 1 rfl) dX11_push_25 ?_
  refine lv_aload_n hx hb dX11_push_28 rfl (lv_at hl 1 rfl) ?_
  refine va_get (D := (dC, dI)) (ci := 11) (v := .int 6) (C := RX11) (T := TX11) (N := 19) hx hb hts (in_f_push4_X11) hown hK hP 0 rfl rfl 1 (by decide) (hts (.fieldLink RX11 112 "MotionSigns" "tapeSize" "I") (List.mem_of_getElem? (i := 1) rfl)) (fun _ h9 => h9) (mF.get hF_h0 0 rfl) dX11_push_29 ?_
  refine lv_iload_n hx hb dX11_push_32 rfl (lv_at hl 2 rfl) ?_
  refine lv_iload_n hx hb dX11_push_33 rfl (lv_at hl 0 rfl) ?_
  refine lv_ishr hx hb dX11_push_34 ?_
  refine lv_topi (fun v_11 ev_11 => ?_)
  refine lv_i2b (v := v_11.toInt8.toInt32) hx hb dX11_push_35 rfl ?_
  refine va_bast hx hb hK hP hD hS 1 0 rfl rfl (by exact fun h => by rcases h with h | h <;> revert h <;> decide) dX11_push_36 ?_
  clear hP hD hS; try clear H
  intro H locs hP hD hS
  have hPx := hP; have hDx := hD
  obtain ⟨f_13, hPx, hDx⟩ : ∃ g : Nat → Int32, va_P (dC, dI) vwCl [(h0, .inr (11, fs_10)), (qt, .inl (kt, 200, .inl g))] H ∧ va_D A [(h0, .inr (11, fs_10)), (qt, .inl (kt, 200, .inl g))] := ⟨_, hP, hD⟩
  replace hP := hPx; replace hD := hDx; clear hPx hDx
  replace hP : va_P (dC, dI) vwCl [(h0, .inr (11, fs_10)), (qt, .inl (kt, 200, .inl f_13))] H := hP
  replace hD : va_D A [(h0, .inr (11, fs_10)), (qt, .inl (kt, 200, .inl f_13))] := hD
  refine lv_aload_n hx hb dX11_push_37 rfl (lv_at hl 1 rfl) ?_
  refine lv_dup hx hb dX11_push_38 rfl ?_
  refine va_get (D := (dC, dI)) (ci := 11) (v := .int 6) (C := RX11) (T := TX11) (N := 19) hx hb hts (in_f_push4_X11) hown hK hP 0 rfl rfl 1 (by decide) (hts (.fieldLink RX11 112 "MotionSigns" "tapeSize" "I") (List.mem_of_getElem? (i := 1) rfl)) (fun _ h9 => h9) (mF.get hF_h0 0 rfl) dX11_push_39 ?_
  refine lv_iconst (v := 1) hx hb dX11_push_42 (by decide) ?_
  refine lv_iadd hx hb dX11_push_43 ?_
  refine lv_topi (fun v_14 ev_14 => ?_)
  have ev_14 : v_14 = 7 := ev_14.trans (by decide)
  subst ev_14
  refine va_put (D := (dC, dI)) (ci := 11) (v := .int 7) (ty := .int) (C := RX11) (T := TX11) (N := 19) hx hb hts (in_f_push4_X11) tyX11 tyX11_ok nmX11 hown hK hP hD hS 0 rfl rfl 1 (by decide) (hts (.fieldLink RX11 112 "MotionSigns" "tapeSize" "I") (List.mem_of_getElem? (i := 1) rfl)) (fun _ h9 => h9) rfl (tyX11_ok 1 (by decide)) rfl rfl (mF.lt hF_h0 (by decide)) dX11_push_44 ?_
  clear hP hD hS; try clear H
  intro H locs hP hD hS
  have hF0 := mF.sub (L' := [(0, .ref qt)]) hF_h0 [1] rfl
  have hF1 := mF.put hF0 1 (.int 7) (by decide) rfl
  replace hP : va_P (dC, dI) vwCl [(h0, .inr (11, (fs_10.set 1 (.int 7)))), (qt, .inl (kt, 200, .inl f_13))] H := hP
  replace hD : va_D A [(h0, .inr (11, (fs_10.set 1 (.int 7)))), (qt, .inl (kt, 200, .inl f_13))] := hD
  generalize fs_10.set 1 (.int 7) = fs_15 at hP hD hF1
  replace hF_h0 : mF 19 [(1, .int 7), (0, .ref qt)] fs_15 := hF1
  clear hF1 hF0
  replace hP : va_P (dC, dI) vwCl [(h0, .inr (11, fs_15)), (qt, .inl (kt, 200, .inl f_13))] H := hP
  replace hD : va_D A [(h0, .inr (11, fs_15)), (qt, .inl (kt, 200, .inl f_13))] := hD
  refine lv_iinc (v := 0) (lv' := [(2, .int 0), (0, .ref h0), (1, .int x0)]) hx hb dX11_push_47 hl (k := 0) rfl (by decide) (by decide) rfl (fun ls hl => ?_)
  refine lv_goto (tgt := 3) hx hb dX11_push_50 (by decide) ?_
  refine lv_iload_n hx hb dX11_push_3 rfl (lv_at hl 0 rfl) ?_
  refine lv_if_lt (tgt := 53) hx hb dX11_push_4 (by decide) (fun hc => absurd hc (by decide)) (fun _ => ?_)
  refine lv_aload_n hx hb dX11_push_7 rfl (lv_at hl 1 rfl) ?_
  refine va_get (D := (dC, dI)) (ci := 11) (v := .int 7) (C := RX11) (T := TX11) (N := 19) hx hb hts (in_f_push4_X11) hown hK hP 0 rfl rfl 1 (by decide) (hts (.fieldLink RX11 112 "MotionSigns" "tapeSize" "I") (List.mem_of_getElem? (i := 1) rfl)) (fun _ h9 => h9) (mF.get hF_h0 0 rfl) dX11_push_8 ?_
  refine lv_if_lt (tgt := 47) hx hb dX11_push_11 (by decide) (fun hc => absurd hc (by decide)) (fun _ => ?_)
  refine lv_aload_n hx hb dX11_push_14 rfl (lv_at hl 1 rfl) ?_
  refine va_get (D := (dC, dI)) (ci := 11) (v := .int 7) (C := RX11) (T := TX11) (N := 19) hx hb hts (in_f_push4_X11) hown hK hP 0 rfl rfl 1 (by decide) (hts (.fieldLink RX11 112 "MotionSigns" "tapeSize" "I") (List.mem_of_getElem? (i := 1) rfl)) (fun _ h9 => h9) (mF.get hF_h0 0 rfl) dX11_push_15 ?_
  refine lv_sipush (v := 200) hx hb dX11_push_18 (by decide) ?_
  refine lv_icmp_ge (tgt := 47) hx hb dX11_push_21 (by decide) (fun hc => absurd hc (by decide)) (fun _ => ?_)
  refine lv_aload_n hx hb dX11_push_24 rfl (lv_at hl 1 rfl) ?_
  refine va_get (D := (dC, dI)) (ci := 11) (v := .ref qt) (C := RX11) (T := TX11) (N := 19) hx hb hts (in_f_push4_X11) hown hK hP 0 rfl rfl 0 (by decide) (hts (.fieldLink RX11 9 "MotionSigns" "tape" "[B") (List.mem_of_getElem? (i := 2) rfl)) (fun _ h9 => h9) (mF.get hF_h0 1 rfl) dX11_push_25 ?_
  refine lv_aload_n hx hb dX11_push_28 rfl (lv_at hl 1 rfl) ?_
  refine va_get (D := (dC, dI)) (ci := 11) (v := .int 7) (C := RX11) (T := TX11) (N := 19) hx hb hts (in_f_push4_X11) hown hK hP 0 rfl rfl 1 (by decide) (hts (.fieldLink RX11 112 "MotionSigns" "tapeSize" "I") (List.mem_of_getElem? (i := 1) rfl)) (fun _ h9 => h9) (mF.get hF_h0 0 rfl) dX11_push_29 ?_
  refine lv_iload_n hx hb dX11_push_32 rfl (lv_at hl 2 rfl) ?_
  refine lv_iload_n hx hb dX11_push_33 rfl (lv_at hl 0 rfl) ?_
  refine lv_ishr hx hb dX11_push_34 ?_
  refine lv_topi (fun v_16 ev_16 => ?_)
  refine lv_i2b (v := v_16.toInt8.toInt32) hx hb dX11_push_35 rfl ?_
  refine va_bast hx hb hK hP hD hS 1 0 rfl rfl (by exact fun h => by rcases h with h | h <;> revert h <;> decide) dX11_push_36 ?_
  clear hP hD hS; try clear H
  intro H locs hP hD hS
  have hPx := hP; have hDx := hD
  obtain ⟨f_18, hPx, hDx⟩ : ∃ g : Nat → Int32, va_P (dC, dI) vwCl [(h0, .inr (11, fs_15)), (qt, .inl (kt, 200, .inl g))] H ∧ va_D A [(h0, .inr (11, fs_15)), (qt, .inl (kt, 200, .inl g))] := ⟨_, hP, hD⟩
  replace hP := hPx; replace hD := hDx; clear hPx hDx
  replace hP : va_P (dC, dI) vwCl [(h0, .inr (11, fs_15)), (qt, .inl (kt, 200, .inl f_18))] H := hP
  replace hD : va_D A [(h0, .inr (11, fs_15)), (qt, .inl (kt, 200, .inl f_18))] := hD
  refine lv_aload_n hx hb dX11_push_37 rfl (lv_at hl 1 rfl) ?_
  refine lv_dup hx hb dX11_push_38 rfl ?_
  refine va_get (D := (dC, dI)) (ci := 11) (v := .int 7) (C := RX11) (T := TX11) (N := 19) hx hb hts (in_f_push4_X11) hown hK hP 0 rfl rfl 1 (by decide) (hts (.fieldLink RX11 112 "MotionSigns" "tapeSize" "I") (List.mem_of_getElem? (i := 1) rfl)) (fun _ h9 => h9) (mF.get hF_h0 0 rfl) dX11_push_39 ?_
  refine lv_iconst (v := 1) hx hb dX11_push_42 (by decide) ?_
  refine lv_iadd hx hb dX11_push_43 ?_
  refine lv_topi (fun v_19 ev_19 => ?_)
  have ev_19 : v_19 = 8 := ev_19.trans (by decide)
  subst ev_19
  refine va_put (D := (dC, dI)) (ci := 11) (v := .int 8) (ty := .int) (C := RX11) (T := TX11) (N := 19) hx hb hts (in_f_push4_X11) tyX11 tyX11_ok nmX11 hown hK hP hD hS 0 rfl rfl 1 (by decide) (hts (.fieldLink RX11 112 "MotionSigns" "tapeSize" "I") (List.mem_of_getElem? (i := 1) rfl)) (fun _ h9 => h9) rfl (tyX11_ok 1 (by decide)) rfl rfl (mF.lt hF_h0 (by decide)) dX11_push_44 ?_
  clear hP hD hS; try clear H
  intro H locs hP hD hS
  have hF0 := mF.sub (L' := [(0, .ref qt)]) hF_h0 [1] rfl
  have hF1 := mF.put hF0 1 (.int 8) (by decide) rfl
  replace hP : va_P (dC, dI) vwCl [(h0, .inr (11, (fs_15.set 1 (.int 8)))), (qt, .inl (kt, 200, .inl f_18))] H := hP
  replace hD : va_D A [(h0, .inr (11, (fs_15.set 1 (.int 8)))), (qt, .inl (kt, 200, .inl f_18))] := hD
  generalize fs_15.set 1 (.int 8) = fs_20 at hP hD hF1
  replace hF_h0 : mF 19 [(1, .int 8), (0, .ref qt)] fs_20 := hF1
  clear hF1 hF0
  replace hP : va_P (dC, dI) vwCl [(h0, .inr (11, fs_20)), (qt, .inl (kt, 200, .inl f_18))] H := hP
  replace hD : va_D A [(h0, .inr (11, fs_20)), (qt, .inl (kt, 200, .inl f_18))] := hD
  refine lv_iinc (v := (-8)) (lv' := [(2, .int (-8)), (0, .ref h0), (1, .int x0)]) hx hb dX11_push_47 hl (k := 0) rfl (by decide) (by decide) rfl (fun ls hl => ?_)
  refine lv_goto (tgt := 3) hx hb dX11_push_50 (by decide) ?_
  refine lv_iload_n hx hb dX11_push_3 rfl (lv_at hl 0 rfl) ?_
  refine lv_if_lt (tgt := 53) hx hb dX11_push_4 (by decide) (fun _ => ?_) (fun hc => absurd (by decide) hc)
  have hP9 := hP.sub (ws' := [(h0, .inr (11, fs_20)), (qt, .inl (kt, 200, .inl f_18))]) [0, 1] rfl
  have hD9 := hD.sub (ws' := [(h0, .inr (11, fs_20)), (qt, .inl (kt, 200, .inl f_18))]) [0, 1] (by decide) rfl
  have hK9 := hK.sub (tys' := [(kt, .byte)]) [0] rfl
  rw [← hAe] at hD9
  refine W.widen (k := 0) (n := 0) (Nat.le_of_ble_eq_true rfl) (Nat.le_of_ble_eq_true rfl) ?_
  subst hAe
  exact (W.vret hx hb hr (fun t ht hW => ⟨⟨(), rfl, trivial, (f_18), fs_20, by rw [ht]; exact hP9, va_K.moved hW.alike hK9, hD9, (mF.sub hF_h0 [0, 1] rfl)⟩, hS.F ht⟩) hS.2.2 dX11_push_53)
def wv_f_push8 : List Cond := .code yX11_push cX11_push 3 none :: ([.fieldLink RX11 112 "MotionSigns" "tapeSize" "I", .fieldLink RX11 9 "MotionSigns" "tape" "[B"] ++ (wsX110 ++ ([])))
theorem gw_f_push8 : wv_f_push8.all goodWord = true := by decide +kernel
theorem in_f_push8_X11 : ∀ w ∈ wsX110, w ∈ wv_f_push8 := fun _ h => List.mem_cons_of_mem _ (List.mem_append_right _ (List.mem_append_left _ h))
set_option maxHeartbeats 4000000 in
set_option maxRecDepth 100000 in
/-- four bytes behind the 8 that there are -/
theorem c_f_push8 (l : Launch) (dC : Nat → ClassId) (dI : Nat → Nat → Nat) (h0 : Nat) (qt : Nat) (kt : Nat) (x0 : Int32) (ft : Nat → Int32) (fs_h0 : List Value) (hF_h0 : mF 19 [(1, .int 8), (0, .ref qt)] fs_h0) (sz : Nat) : Met l yX11_push wv_f_push8 ({ frames := 0, cells := 0, slots := 0, locals := 0 }) (va_Pc [.ref h0, .int x0] (fun U => U.heap.size = sz ∧ va_P (dC, dI) vwCl [(h0, .inr (11, fs_h0)), (qt, .inl (kt, 200, .inl ft))] U.heap ∧ va_K (dC, dI) vwCl [(kt, .byte)] U ∧ va_D (fun _ => True) [(h0, .inr (11, fs_h0)), (qt, .inl (kt, 200, .inl ft))] ∧ w_N U)) (va_Qv (fun (_ : Unit) => True) (fun _ t => ∃ (ft2 : Nat → Int32) (fs_h02 : List Value), va_P (dC, dI) vwCl [(h0, .inr (11, fs_h02)), (qt, .inl (kt, 200, .inl ft2))] t.heap ∧ va_K (dC, dI) vwCl [(kt, .byte)] t ∧ va_D (va_A [(h0, .inr (11, fs_h0)), (qt, .inl (kt, 200, .inl ft))] sz) [(h0, .inr (11, fs_h02)), (qt, .inl (kt, 200, .inl ft2))] ∧ mF 19 [(1, .int 12), (0, .ref qt)] fs_h02) (va_A [(h0, .inr (11, fs_h0)), (qt, .inl (kt, 200, .inl ft))] sz)) 0 0 (va_A [(h0, .inr (11, fs_h0)), (qt, .inl (kt, 200, .inl ft))] sz) := by
  refine Met.ofW (cc := cX11_push) (maxL := 3) (ret := none) (by decide) rfl ?_
  intro p e s m args below meth c s₁ B hml hv
  obtain ⟨rfl, hsz, hP, hK, hD0, hN⟩ := hv
  have hx := B.exec
  have hb := B.bytes
  have hr := B.returns
  have hts := atoms_spec (ws := wv_f_push8) B.pre
  have hown : s.vm.findClass RX11 = some m.cls := findClass_of_methodNamed B.named
  have hlocks := B.notSynchronized
  subst hsz
  have hD := hD0.self (sz := s.heap.size)
  generalize hAe : va_A [(h0, .inr (11, fs_h0)), (qt, .inl (kt, 200, .inl ft))] s.heap.size = A at hD ⊢
  have hA : ∀ q : Nat, s.heap.size ≤ q → A q := fun q h => by rw [← hAe]; exact Or.inr h
  obtain ⟨H, hHe, hP, hS⟩ : ∃ H : Heap, H = s.heap ∧ va_P (dC, dI) vwCl [(h0, .inr (11, fs_h0)), (qt, .inl (kt, 200, .inl ft))] H ∧ va_S A s.heap H [] := ⟨s.heap, rfl, hP, va_S.rf⟩
  have hl := lv_entry ([.ref h0, .int x0]) (n := 3) (Nat.le_of_ble_eq_true rfl)
  rw [lg_entry_eq]
  generalize (lg_sl ([.ref h0, .int x0]) ++ List.replicate (3 - (lg_sl ([.ref h0, .int x0])).length) Slot.unset).toArray = ls at hl ⊢
  have hl : lv_has ls 3 [(0, .ref h0), (1, .int x0)] := hl
  rw [← hHe]; clear hHe
  refine lv_bipush (v := 24) hx hb dX11_push_0 (by decide) ?_
  refine lv_istore_n (lv' := [(2, .int 24), (0, .ref h0), (1, .int x0)]) hx hb dX11_push_2 rfl hl (by decide) rfl (fun ls hl => ?_)
  refine lv_iload_n hx hb dX11_push_3 rfl (lv_at hl 0 rfl) ?_
  refine lv_if_lt (tgt := 53) hx hb dX11_push_4 (by decide) (fun hc => absurd hc (by decide)) (fun _ => ?_)
  refine lv_aload_n hx hb dX11_push_7 rfl (lv_at hl 1 rfl) ?_
  refine va_get (D := (dC, dI)) (ci := 11) (v := .int 8) (C := RX11) (T := TX11) (N := 19) hx hb hts (in_f_push8_X11) hown hK hP 0 rfl rfl 1 (by decide) (hts (.fieldLink RX11 112 "MotionSigns" "tapeSize" "I") (List.mem_of_getElem? (i := 1) rfl)) (fun _ h9 => h9) (mF.get hF_h0 0 rfl) dX11_push_8 ?_
  refine lv_if_lt (tgt := 47) hx hb dX11_push_11 (by decide) (fun hc => absurd hc (by decide)) (fun _ => ?_)
  refine lv_aload_n hx hb dX11_push_14 rfl (lv_at hl 1 rfl) ?_
  refine va_get (D := (dC, dI)) (ci := 11) (v := .int 8) (C := RX11) (T := TX11) (N := 19) hx hb hts (in_f_push8_X11) hown hK hP 0 rfl rfl 1 (by decide) (hts (.fieldLink RX11 112 "MotionSigns" "tapeSize" "I") (List.mem_of_getElem? (i := 1) rfl)) (fun _ h9 => h9) (mF.get hF_h0 0 rfl) dX11_push_15 ?_
  refine lv_sipush (v := 200) hx hb dX11_push_18 (by decide) ?_
  refine lv_icmp_ge (tgt := 47) hx hb dX11_push_21 (by decide) (fun hc => absurd hc (by decide)) (fun _ => ?_)
  refine lv_aload_n hx hb dX11_push_24 rfl (lv_at hl 1 rfl) ?_
  refine va_get (D := (dC, dI)) (ci := 11) (v := .ref qt) (C := RX11) (T := TX11) (N := 19) hx hb hts (in_f_push8_X11) hown hK hP 0 rfl rfl 0 (by decide) (hts (.fieldLink RX11 9 "MotionSigns" "tape" "[B") (List.mem_of_getElem? (i := 2) rfl)) (fun _ h9 => h9) (mF.get hF_h0 1 rfl) dX11_push_25 ?_
  refine lv_aload_n hx hb dX11_push_28 rfl (lv_at hl 1 rfl) ?_
  refine va_get (D := (dC, dI)) (ci := 11) (v := .int 8) (C := RX11) (T := TX11) (N := 19) hx hb hts (in_f_push8_X11) hown hK hP 0 rfl rfl 1 (by decide) (hts (.fieldLink RX11 112 "MotionSigns" "tapeSize" "I") (List.mem_of_getElem? (i := 1) rfl)) (fun _ h9 => h9) (mF.get hF_h0 0 rfl) dX11_push_29 ?_
  refine lv_iload_n hx hb dX11_push_32 rfl (lv_at hl 2 rfl) ?_
  refine lv_iload_n hx hb dX11_push_33 rfl (lv_at hl 0 rfl) ?_
  refine lv_ishr hx hb dX11_push_34 ?_
  refine lv_topi (fun v_1 ev_1 => ?_)
  refine lv_i2b (v := v_1.toInt8.toInt32) hx hb dX11_push_35 rfl ?_
  refine va_bast hx hb hK hP hD hS 1 0 rfl rfl (by exact fun h => by rcases h with h | h <;> revert h <;> decide) dX11_push_36 ?_
  clear hP hD hS; try clear H
  intro H locs hP hD hS
  have hPx := hP; have hDx := hD
  obtain ⟨f_3, hPx, hDx⟩ : ∃ g : Nat → Int32, va_P (dC, dI) vwCl [(h0, .inr (11, fs_h0)), (qt, .inl (kt, 200, .inl g))] H ∧ va_D A [(h0, .inr (11, fs_h0)), (qt, .inl (kt, 200, .inl g))] := ⟨_, hP, hD⟩
  replace hP := hPx; replace hD := hDx; clear hPx hDx
  replace hP : va_P (dC, dI) vwCl [(h0, .inr (11, fs_h0)), (qt, .inl (kt, 200, .inl f_3))] H := hP
  replace hD : va_D A [(h0, .inr (11, fs_h0)), (qt, .inl (kt, 200, .inl f_3))] := hD
  refine lv_aload_n hx hb dX11_push_37 rfl (lv_at hl 1 rfl) ?_
  refine lv_dup hx hb dX11_push_38 rfl ?_
  refine va_get (D := (dC, dI)) (ci := 11) (v := .int 8) (C := RX11) (T := TX11) (N := 19) hx hb hts (in_f_push8_X11) hown hK hP 0 rfl rfl 1 (by decide) (hts (.fieldLink RX11 112 "MotionSigns" "tapeSize" "I") (List.mem_of_getElem? (i := 1) rfl)) (fun _ h9 => h9) (mF.get hF_h0 0 rfl) dX11_push_39 ?_
  refine lv_iconst (v := 1) hx hb dX11_push_42 (by decide) ?_
  refine lv_iadd hx hb dX11_push_43 ?_
  refine lv_topi (fun v_4 ev_4 => ?_)
  have ev_4 : v_4 = 9 := ev_4.trans (by decide)
  subst ev_4
  refine va_put (D := (dC, dI)) (ci := 11) (v := .int 9) (ty := .int) (C := RX11) (T := TX11) (N := 19) hx hb hts (in_f_push8_X11) tyX11 tyX11_ok nmX11 hown hK hP hD hS 0 rfl rfl 1 (by decide) (hts (.fieldLink RX11 112 "MotionSigns" "tapeSize" "I") (List.mem_of_getElem? (i := 1) rfl)) (fun _ h9 => h9) rfl (tyX11_ok 1 (by decide)) rfl rfl (mF.lt hF_h0 (by decide)) dX11_push_44 ?_
  clear hP hD hS; try clear H
  intro H locs hP hD hS
  have hF0 := mF.sub (L' := [(0, .ref qt)]) hF_h0 [1] rfl
  have hF1 := mF.put hF0 1 (.int 9) (by decide) rfl
  replace hP : va_P (dC, dI) vwCl [(h0, .inr (11, (fs_h0.set 1 (.int 9)))), (qt, .inl (kt, 200, .inl f_3))] H := hP
  replace hD : va_D A [(h0, .inr (11, (fs_h0.set 1 (.int 9)))), (qt, .inl (kt, 200, .inl f_3))] := hD
  generalize fs_h0.set 1 (.int 9) = fs_5 at hP hD hF1
  replace hF_h0 : mF 19 [(1, .int 9), (0, .ref qt)] fs_5 := hF1
  clear hF1 hF0
  replace hP : va_P (dC, dI) vwCl [(h0, .inr (11, fs_5)), (qt, .inl (kt, 200, .inl f_3))] H := hP
  replace hD : va_D A [(h0, .inr (11, fs_5)), (qt, .inl (kt, 200, .inl f_3))] := hD
  refine lv_iinc (v := 16) (lv' := [(2, .int 16), (0, .ref h0), (1, .int x0)]) hx hb dX11_push_47 hl (k := 0) rfl (by decide) (by decide) rfl (fun ls hl => ?_)
  refine lv_goto (tgt := 3) hx hb dX11_push_50 (by decide) ?_
  refine lv_iload_n hx hb dX11_push_3 rfl (lv_at hl 0 rfl) ?_
  refine lv_if_lt (tgt := 53) hx hb dX11_push_4 (by decide) (fun hc => absurd hc (by decide)) (fun _ => ?_)
  refine lv_aload_n hx hb dX11_push_7 rfl (lv_at hl 1 rfl) ?_
  refine va_get (D := (dC, dI)) (ci := 11) (v := .int 9) (C := RX11) (T := TX11) (N := 19) hx hb hts (in_f_push8_X11) hown hK hP 0 rfl rfl 1 (by decide) (hts (.fieldLink RX11 112 "MotionSigns" "tapeSize" "I") (List.mem_of_getElem? (i := 1) rfl)) (fun _ h9 => h9) (mF.get hF_h0 0 rfl) dX11_push_8 ?_
  refine lv_if_lt (tgt := 47) hx hb dX11_push_11 (by decide) (fun hc => absurd hc (by decide)) (fun _ => ?_)
  refine lv_aload_n hx hb dX11_push_14 rfl (lv_at hl 1 rfl) ?_
  refine va_get (D := (dC, dI)) (ci := 11) (v := .int 9) (C := RX11) (T := TX11) (N := 19) hx hb hts (in_f_push8_X11) hown hK hP 0 rfl rfl 1 (by decide) (hts (.fieldLink RX11 112 "MotionSigns" "tapeSize" "I") (List.mem_of_getElem? (i := 1) rfl)) (fun _ h9 => h9) (mF.get hF_h0 0 rfl) dX11_push_15 ?_
  refine lv_sipush (v := 200) hx hb dX11_push_18 (by decide) ?_
  refine lv_icmp_ge (tgt := 47) hx hb dX11_push_21 (by decide) (fun hc => absurd hc (by decide)) (fun _ => ?_)
  refine lv_aload_n hx hb dX11_push_24 rfl (lv_at hl 1 rfl) ?_
  refine va_get (D := (dC, dI)) (ci := 11) (v := .ref qt) (C := RX11) (T := TX11) (N := 19) hx hb hts (in_f_push8_X11) hown hK hP 0 rfl rfl 0 (by decide) (hts (.fieldLink RX11 9 "MotionSigns" "tape" "[B") (List.mem_of_getElem? (i := 2) rfl)) (fun _ h9 => h9) (mF.get hF_h0 1 rfl) dX11_push_25 ?_
  refine lv_aload_n hx hb dX11_push_28 rfl (lv_at hl 1 rfl) ?_
  refine va_get (D := (dC, dI)) (ci := 11) (v := .int 9) (C := RX11) (T := TX11) (N := 19) hx hb hts (in_f_push8_X11) hown hK hP 0 rfl rfl 1 (by decide) (hts (.fieldLink RX11 112 "MotionSigns" "tapeSize" "I") (List.mem_of_getElem? (i := 1) rfl)) (fun _ h9 => h9) (mF.get hF_h0 0 rfl) dX11_push_29 ?_
  refine lv_iload_n hx hb dX11_push_32 rfl (lv_at hl 2 rfl) ?_
  refine lv_iload_n hx hb dX11_push_33 rfl (lv_at hl 0 rfl) ?_
  refine lv_ishr hx hb dX11_push_34 ?_
  refine lv_topi (fun v_6 ev_6 => ?_)
  refine lv_i2b (v := v_6.toInt8.toInt32) hx hb dX11_push_35 rfl ?_
  refine va_bast hx hb hK hP hD hS 1 0 rfl rfl (by exact fun h => by rcases h with h | h <;> revert h <;> decide) dX11_push_36 ?_
  clear hP hD hS; try clear H
  intro H locs hP hD hS
  have hPx := hP; have hDx := hD
  obtain ⟨f_8, hPx, hDx⟩ : ∃ g : Nat → Int32, va_P (dC, dI) vwCl [(h0, .inr (11, fs_5)), (qt, .inl (kt, 200, .inl g))] H ∧ va_D A [(h0, .inr (11, fs_5)), (qt, .inl (kt, 200, .inl g))] := ⟨_, hP, hD⟩
  replace hP := hPx; replace hD := hDx; clear hPx hDx
  replace hP : va_P (dC, dI) vwCl [(h0, .inr (11, fs_5)), (qt, .inl (kt, 200, .inl f_8))] H := hP
  replace hD : va_D A [(h0, .inr (11, fs_5)), (qt, .inl (kt, 200, .inl f_8))] := hD
  refine lv_aload_n hx hb dX11_push_37 rfl (lv_at hl 1 rfl) ?_
  refine lv_dup hx hb dX11_push_38 rfl ?_
  refine va_get (D := (dC, dI)) (ci := 11) (v := .int 9) (C := RX11) (T := TX11) (N := 19) hx hb hts (in_f_push8_X11) hown hK hP 0 rfl rfl 1 (by decide) (hts (.fieldLink RX11 112 "MotionSigns" "tapeSize" "I") (List.mem_of_getElem? (i := 1) rfl)) (fun _ h9 => h9) (mF.get hF_h0 0 rfl) dX11_push_39 ?_
  refine lv_iconst (v := 1) hx hb dX11_push_42 (by decide) ?_
  refine lv_iadd hx hb dX11_push_43 ?_
  refine lv_topi (fun v_9 ev_9 => ?_)
  have ev_9 : v_9 = 10 := ev_9.trans (by decide)
  subst ev_9
  refine va_put (D := (dC, dI)) (ci := 11) (v := .int 10) (ty := .int) (C := RX11) (T := TX11) (N := 19) hx hb hts (in_f_push8_X11) tyX11 tyX11_ok nmX11 hown hK hP hD hS 0 rfl rfl 1 (by decide) (hts (.fieldLink RX11 112 "MotionSigns" "tapeSize" "I") (List.mem_of_getElem? (i := 1) rfl)) (fun _ h9 => h9) rfl (tyX11_ok 1 (by decide)) rfl rfl (mF.lt hF_h0 (by decide)) dX11_push_44 ?_
  clear hP hD hS; try clear H
  intro H locs hP hD hS
  have hF0 := mF.sub (L' := [(0, .ref qt)]) hF_h0 [1] rfl
  have hF1 := mF.put hF0 1 (.int 10) (by decide) rfl
  replace hP : va_P (dC, dI) vwCl [(h0, .inr (11, (fs_5.set 1 (.int 10)))), (qt, .inl (kt, 200, .inl f_8))] H := hP
  replace hD : va_D A [(h0, .inr (11, (fs_5.set 1 (.int 10)))), (qt, .inl (kt, 200, .inl f_8))] := hD
  generalize fs_5.set 1 (.int 10) = fs_10 at hP hD hF1
  replace hF_h0 : mF 19 [(1, .int 10), (0, .ref qt)] fs_10 := hF1
  clear hF1 hF0
  replace hP : va_P (dC, dI) vwCl [(h0, .inr (11, fs_10)), (qt, .inl (kt, 200, .inl f_8))] H := hP
  replace hD : va_D A [(h0, .inr (11, fs_10)), (qt, .inl (kt, 200, .inl f_8))] := hD
  refine lv_iinc (v := 8) (lv' := [(2, .int 8), (0, .ref h0), (1, .int x0)]) hx hb dX11_push_47 hl (k := 0) rfl (by decide) (by decide) rfl (fun ls hl => ?_)
  refine lv_goto (tgt := 3) hx hb dX11_push_50 (by decide) ?_
  refine lv_iload_n hx hb dX11_push_3 rfl (lv_at hl 0 rfl) ?_
  refine lv_if_lt (tgt := 53) hx hb dX11_push_4 (by decide) (fun hc => absurd hc (by decide)) (fun _ => ?_)
  refine lv_aload_n hx hb dX11_push_7 rfl (lv_at hl 1 rfl) ?_
  refine va_get (D := (dC, dI)) (ci := 11) (v := .int 10) (C := RX11) (T := TX11) (N := 19) hx hb hts (in_f_push8_X11) hown hK hP 0 rfl rfl 1 (by decide) (hts (.fieldLink RX11 112 "MotionSigns" "tapeSize" "I") (List.mem_of_getElem? (i := 1) rfl)) (fun _ h9 => h9) (mF.get hF_h0 0 rfl) dX11_push_8 ?_
  refine lv_if_lt (tgt := 47) hx hb dX11_push_11 (by decide) (fun hc => absurd hc (by decide)) (fun _ => ?_)
  refine lv_aload_n hx hb dX11_push_14 rfl (lv_at hl 1 rfl) ?_
  refine va_get (D := (dC, dI)) (ci := 11) (v := .int 10) (C := RX11) (T := TX11) (N := 19) hx hb hts (in_f_push8_X11) hown hK hP 0 rfl rfl 1 (by decide) (hts (.fieldLink RX11 112 "MotionSigns" "tapeSize" "I") (List.mem_of_getElem? (i := 1) rfl)) (fun _ h9 => h9) (mF.get hF_h0 0 rfl) dX11_push_15 ?_
  refine lv_sipush (v := 200) hx hb dX11_push_18 (by decide) ?_
  refine lv_icmp_ge (tgt := 47) hx hb dX11_push_21 (by decide) (fun hc => absurd hc (by decide)) (fun _ => ?_)
  refine lv_aload_n hx hb dX11_push_24 rfl (lv_at hl 1 rfl) ?_
  refine va_get (D := (dC, dI)) (ci := 11) (v := .ref qt) (C := RX11) (T := TX11) (N := 19) hx hb hts (in_f_push8_X11) hown hK hP 0 rfl rfl 0 (by decide) (hts (.fieldLink RX11 9 "MotionSigns" "tape" "[B") (List.mem_of_getElem? (i := 2) rfl)) (fun _ h9 => h9) (mF.get hF_h0 1 rfl) dX11_push_25 ?_
  refine lv_aload_n hx hb dX11_push_28 rfl (lv_at hl 1 rfl) ?_
  refine va_get (D := (dC, dI)) (ci := 11) (v := .int 10) (C := RX11) (T := TX11) (N := 19) hx hb hts (in_f_push8_X11) hown hK hP 0 rfl rfl 1 (by decide) (hts (.fieldLink RX11 112 "MotionSigns" "tapeSize" "I") (List.mem_of_getElem? (i := 1) rfl)) (fun _ h9 => h9) (mF.get hF_h0 0 rfl) dX11_push_29 ?_
  refine lv_iload_n hx hb dX11_push_32 rfl (lv_at hl 2 rfl) ?_
  refine lv_iload_n hx hb dX11_push_33 rfl (lv_at hl 0 rfl) ?_
  refine lv_ishr hx hb dX11_push_34 ?_
  refine lv_topi (fun v_11 ev_11 => ?_)
  refine lv_i2b (v := v_11.toInt8.toInt32) hx hb dX11_push_35 rfl ?_
  refine va_bast hx hb hK hP hD hS 1 0 rfl rfl (by exact fun h => by rcases h with h | h <;> revert h <;> decide) dX11_push_36 ?_
  clear hP hD hS; try clear H
  intro H locs hP hD hS
  have hPx := hP; have hDx := hD
  obtain ⟨f_13, hPx, hDx⟩ : ∃ g : Nat → Int32, va_P (dC, dI) vwCl [(h0, .inr (11, fs_10)), (qt, .inl (kt, 200, .inl g))] H ∧ va_D A [(h0, .inr (11, fs_10)), (qt, .inl (kt, 200, .inl g))] := ⟨_, hP, hD⟩
  replace hP := hPx; replace hD := hDx; clear hPx hDx
  replace hP : va_P (dC, dI) vwCl [(h0, .inr (11, fs_10)), (qt, .inl (kt, 200, .inl f_13))] H := hP
  replace hD : va_D A [(h0, .inr (11, fs_10)), (qt, .inl (kt, 200, .inl f_13))] := hD
  refine lv_aload_n hx hb dX11_push_37 rfl (lv_at hl 1 rfl) ?_
  refine lv_dup hx hb dX11_push_38 rfl ?_
  refine va_get (D := (dC, dI)) (ci := 11) (v := .int 10) (C := RX11) (T := TX11) (N := 19) hx hb hts (in_f_push8_X11) hown hK hP 0 rfl rfl 1 (by decide) (hts (.fieldLink RX11 112 "MotionSigns" "tapeSize" "I") (List.mem_of_getElem? (i := 1) rfl)) (fun _ h9 => h9) (mF.get hF_h0 0 rfl) dX11_push_39 ?_
  refine lv_iconst (v := 1) hx hb dX11_push_42 (by decide) ?_
  refine lv_iadd hx hb dX11_push_43 ?_
  refine lv_topi (fun v_14 ev_14 => ?_)
  have ev_14 : v_14 = 11 := ev_14.trans (by decide)
  subst ev_14
  refine va_put (D := (dC, dI)) (ci := 11) (v := .int 11) (ty := .int) (C := RX11) (T := TX11) (N := 19) hx hb hts (in_f_push8_X11) tyX11 tyX11_ok nmX11 hown hK hP hD hS 0 rfl rfl 1 (by decide) (hts (.fieldLink RX11 112 "MotionSigns" "tapeSize" "I") (List.mem_of_getElem? (i := 1) rfl)) (fun _ h9 => h9) rfl (tyX11_ok 1 (by decide)) rfl rfl (mF.lt hF_h0 (by decide)) dX11_push_44 ?_
  clear hP hD hS; try clear H
  intro H locs hP hD hS
  have hF0 := mF.sub (L' := [(0, .ref qt)]) hF_h0 [1] rfl
  have hF1 := mF.put hF0 1 (.int 11) (by decide) rfl
  replace hP : va_P (dC, dI) vwCl [(h0, .inr (11, (fs_10.set 1 (.int 11)))), (qt, .inl (kt, 200, .inl f_13))] H := hP
  replace hD : va_D A [(h0, .inr (11, (fs_10.set 1 (.int 11)))), (qt, .inl (kt, 200, .inl f_13))] := hD
  generalize fs_10.set 1 (.int 11) = fs_15 at hP hD hF1
  replace hF_h0 : mF 19 [(1, .int 11), (0, .ref qt)] fs_15 := hF1
  clear hF1 hF0
  replace hP : va_P (dC, dI) vwCl [(h0, .inr (11, fs_15)), (qt, .inl (kt, 200, .inl f_13))] H := hP
  replace hD : va_D A [(h0, .inr (11, fs_15)), (qt, .inl (kt, 200, .inl f_13))] := hD
  refine lv_iinc (v := 0) (lv' := [(2, .int 0), (0, .ref h0), (1, .int x0)]) hx hb dX11_push_47 hl (k := 0) rfl (by decide) (by decide) rfl (fun ls hl => ?_)
  refine lv_goto (tgt := 3) hx hb dX11_push_50 (by decide) ?_
  refine lv_iload_n hx hb dX11_push_3 rfl (lv_at hl 0 rfl) ?_
  refine lv_if_lt (tgt := 53) hx hb dX11_push_4 (by decide) (fun hc => absurd hc (by decide)) (fun _ => ?_)
  refine lv_aload_n hx hb dX11_push_7 rfl (lv_at hl 1 rfl) ?_
  refine va_get (D := (dC, dI)) (ci := 11) (v := .int 11) (C := RX11) (T := TX11) (N := 19) hx hb hts (in_f_push8_X11) hown hK hP 0 rfl rfl 1 (by decide) (hts (.fieldLink RX11 112 "MotionSigns" "tapeSize" "I") (List.mem_of_getElem? (i := 1) rfl)) (fun _ h9 => h9) (mF.get hF_h0 0 rfl) dX11_push_8 ?_
  refine lv_if_lt (tgt := 47) hx hb dX11_push_11 (by decide) (fun hc => absurd hc (by decide)) (fun _ => ?_)
  refine lv_aload_n hx hb dX11_push_14 rfl (lv_at hl 1 rfl) ?_
  refine va_get (D := (dC, dI)) (ci := 11) (v := .int 11) (C := RX11) (T := TX11) (N := 19) hx hb hts (in_f_push8_X11) hown hK hP 0 rfl rfl 1 (by decide) (hts (.fieldLink RX11 112 "MotionSigns" "tapeSize" "I") (List.mem_of_getElem? (i := 1) rfl)) (fun _ h9 => h9) (mF.get hF_h0 0 rfl) dX11_push_15 ?_
  refine lv_sipush (v := 200) hx hb dX11_push_18 (by decide) ?_
  refine lv_icmp_ge (tgt := 47) hx hb dX11_push_21 (by decide) (fun hc => absurd hc (by decide)) (fun _ => ?_)
  refine lv_aload_n hx hb dX11_push_24 rfl (lv_at hl 1 rfl) ?_
  refine va_get (D := (dC, dI)) (ci := 11) (v := .ref qt) (C := RX11) (T := TX11) (N := 19) hx hb hts (in_f_push8_X11) hown hK hP 0 rfl rfl 0 (by decide) (hts (.fieldLink RX11 9 "MotionSigns" "tape" "[B") (List.mem_of_getElem? (i := 2) rfl)) (fun _ h9 => h9) (mF.get hF_h0 1 rfl) dX11_push_25 ?_
  refine lv_aload_n hx hb dX11_push_28 rfl (lv_at hl 1 rfl) ?_
  refine va_get (D := (dC, dI)) (ci := 11) (v := .int 11) (C := RX11) (T := TX11) (N := 19) hx hb hts (in_f_push8_X11) hown hK hP 0 rfl rfl 1 (by decide) (hts (.fieldLink RX11 112 "MotionSigns" "tapeSize" "I") (List.mem_of_getElem? (i := 1) rfl)) (fun _ h9 => h9) (mF.get hF_h0 0 rfl) dX11_push_29 ?_
  refine lv_iload_n hx hb dX11_push_32 rfl (lv_at hl 2 rfl) ?_
  refine lv_iload_n hx hb dX11_push_33 rfl (lv_at hl 0 rfl) ?_
  refine lv_ishr hx hb dX11_push_34 ?_
  refine lv_topi (fun v_16 ev_16 => ?_)
  refine lv_i2b (v := v_16.toInt8.toInt32) hx hb dX11_push_35 rfl ?_
  refine va_bast hx hb hK hP hD hS 1 0 rfl rfl (by exact fun h => by rcases h with h | h <;> revert h <;> decide) dX11_push_36 ?_
  clear hP hD hS; try clear H
  intro H locs hP hD hS
  have hPx := hP; have hDx := hD
  obtain ⟨f_18, hPx, hDx⟩ : ∃ g : Nat → Int32, va_P (dC, dI) vwCl [(h0, .inr (11, fs_15)), (qt, .inl (kt, 200, .inl g))] H ∧ va_D A [(h0, .inr (11, fs_15)), (qt, .inl (kt, 200, .inl g))] := ⟨_, hP, hD⟩
  replace hP := hPx; replace hD := hDx; clear hPx hDx
  replace hP : va_P (dC, dI) vwCl [(h0, .inr (11, fs_15)), (qt, .inl (kt, 200, .inl f_18))] H := hP
  replace hD : va_D A [(h0, .inr (11, fs_15)), (qt, .inl (kt, 200, .inl f_18))] := hD
  refine lv_aload_n hx hb dX11_push_37 rfl (lv_at hl 1 rfl) ?_
  refine lv_dup hx hb dX11_push_38 rfl ?_
  refine va_get (D := (dC, dI)) (ci := 11) (v := .int 11) (C := RX11) (T := TX11) (N := 19) hx hb hts (in_f_push8_X11) hown hK hP 0 rfl rfl 1 (by decide) (hts (.fieldLink RX11 112 "MotionSigns" "tapeSize" "I") (List.mem_of_getElem? (i := 1) rfl)) (fun _ h9 => h9) (mF.get hF_h0 0 rfl) dX11_push_39 ?_
  refine lv_iconst (v := 1) hx hb dX11_push_42 (by decide) ?_
  refine lv_iadd hx hb dX11_push_43 ?_
  refine lv_topi (fun v_19 ev_19 => ?_)
  have ev_19 : v_19 = 12 := ev_19.trans (by decide)
  subst ev_19
  refine va_put (D := (dC, dI)) (ci := 11) (v := .int 12) (ty := .int) (C := RX11) (T := TX11) (N := 19) hx hb hts (in_f_push8_X11) tyX11 tyX11_ok nmX11 hown hK hP hD hS 0 rfl rfl 1 (by decide) (hts (.fieldLink RX11 112 "MotionSigns" "tapeSize" "I") (List.mem_of_getElem? (i := 1) rfl)) (fun _ h9 => h9) rfl (tyX11_ok 1 (by decide)) rfl rfl (mF.lt hF_h0 (by decide)) dX11_push_44 ?_
  clear hP hD hS; try clear H
  intro H locs hP hD hS
  have hF0 := mF.sub (L' := [(0, .ref qt)]) hF_h0 [1] rfl
  have hF1 := mF.put hF0 1 (.int 12) (by decide) rfl
  replace hP : va_P (dC, dI) vwCl [(h0, .inr (11, (fs_15.set 1 (.int 12)))), (qt, .inl (kt, 200, .inl f_18))] H := hP
  replace hD : va_D A [(h0, .inr (11, (fs_15.set 1 (.int 12)))), (qt, .inl (kt, 200, .inl f_18))] := hD
  generalize fs_15.set 1 (.int 12) = fs_20 at hP hD hF1
  replace hF_h0 : mF 19 [(1, .int 12), (0, .ref qt)] fs_20 := hF1
  clear hF1 hF0
  replace hP : va_P (dC, dI) vwCl [(h0, .inr (11, fs_20)), (qt, .inl (kt, 200, .inl f_18))] H := hP
  replace hD : va_D A [(h0, .inr (11, fs_20)), (qt, .inl (kt, 200, .inl f_18))] := hD
  refine lv_iinc (v := (-8)) (lv' := [(2, .int (-8)), (0, .ref h0), (1, .int x0)]) hx hb dX11_push_47 hl (k := 0) rfl (by decide) (by decide) rfl (fun ls hl => ?_)
  refine lv_goto (tgt := 3) hx hb dX11_push_50 (by decide) ?_
  refine lv_iload_n hx hb dX11_push_3 rfl (lv_at hl 0 rfl) ?_
  refine lv_if_lt (tgt := 53) hx hb dX11_push_4 (by decide) (fun _ => ?_) (fun hc => absurd (by decide) hc)
  have hP9 := hP.sub (ws' := [(h0, .inr (11, fs_20)), (qt, .inl (kt, 200, .inl f_18))]) [0, 1] rfl
  have hD9 := hD.sub (ws' := [(h0, .inr (11, fs_20)), (qt, .inl (kt, 200, .inl f_18))]) [0, 1] (by decide) rfl
  have hK9 := hK.sub (tys' := [(kt, .byte)]) [0] rfl
  rw [← hAe] at hD9
  refine W.widen (k := 0) (n := 0) (Nat.le_of_ble_eq_true rfl) (Nat.le_of_ble_eq_true rfl) ?_
  subst hAe
  exact (W.vret hx hb hr (fun t ht hW => ⟨⟨(), rfl, trivial, (f_18), fs_20, by rw [ht]; exact hP9, va_K.moved hW.alike hK9, hD9, (mF.sub hF_h0 [0, 1] rfl)⟩, hS.F ht⟩) hS.2.2 dX11_push_53)
def wv_f_push12 : List Cond := .code yX11_push cX11_push 3 none :: ([.fieldLink RX11 112 "MotionSigns" "tapeSize" "I", .fieldLink RX11 9 "MotionSigns" "tape" "[B"] ++ (wsX110 ++ ([])))
theorem gw_f_push12 : wv_f_push12.all goodWord = true := by decide +kernel
theorem in_f_push12_X11 : ∀ w ∈ wsX110, w ∈ wv_f_push12 := fun _ h => List.mem_cons_of_mem _ (List.mem_append_right _ (List.mem_append_left _ h))
set_option maxHeartbeats 4000000 in
set_option maxRecDepth 100000 in
/-- four bytes behind the 12 that there are -/
theorem c_f_push12 (l : Launch) (dC : Nat → ClassId) (dI : Nat → Nat → Nat) (h0 : Nat) (qt : Nat) (kt : Nat) (x0 : Int32) (ft : Nat → Int32) (fs_h0 : List Value) (hF_h0 : mF 19 [(1, .int 12), (0, .ref qt)] fs_h0) (sz : Nat) : Met l yX11_push wv_f_push12 ({ frames := 0, cells := 0, slots := 0, locals := 0 }) (va_Pc [.ref h0, .int x0] (fun U => U.heap.size = sz ∧ va_P (dC, dI) vwCl [(h0, .inr (11, fs_h0)), (qt, .inl (kt, 200, .inl ft))] U.heap ∧ va_K (dC, dI) vwCl [(kt, .byte)] U ∧ va_D (fun _ => True) [(h0, .inr (11, fs_h0)), (qt, .inl (kt, 200, .inl ft))] ∧ w_N U)) (va_Qv (fun (_ : Unit) => True) (fun _ t => ∃ (ft2 : Nat → Int32) (fs_h02 : List Value), va_P (dC, dI) vwCl [(h0, .inr (11, fs_h02)), (qt, .inl (kt, 200, .inl ft2))] t.heap ∧ va_K (dC, dI) vwCl [(kt, .byte)] t ∧ va_D (va_A [(h0, .inr (11, fs_h0)), (qt, .inl (kt, 200, .inl ft))] sz) [(h0, .inr (11, fs_h02)), (qt, .inl (kt, 200, .inl ft2))] ∧ mF 19 [(1, .int 16), (0, .ref qt)] fs_h02) (va_A [(h0, .inr (11, fs_h0)), (qt, .inl (kt, 200, .inl ft))] sz)) 0 0 (va_A [(h0, .inr (11, fs_h0)), (qt, .inl (kt, 200, .inl ft))] sz) := by
  refine Met.ofW (cc := cX11_push) (maxL := 3) (ret := none) (by decide) rfl ?_
  intro p e s m args below meth c s₁ B hml hv
  obtain ⟨rfl, hsz, hP, hK, hD0, hN⟩ := hv
  have hx := B.exec
  have hb := B.bytes
  have hr := B.returns
  have hts := atoms_spec (ws := wv_f_push12) B.pre
  have hown : s.vm.findClass RX11 = some m.cls := findClass_of_methodNamed B.named
  have hlocks := B.notSynchronized
  subst hsz
  have hD := hD0.self (sz := s.heap.size)
  generalize hAe : va_A [(h0, .inr (11, fs_h0)), (qt, .inl (kt, 200, .inl ft))] s.heap.size = A at hD ⊢
  have hA : ∀ q : Nat, s.heap.size ≤ q → A q := fun q h => by rw [← hAe]; exact Or.inr h
  obtain ⟨H, hHe, hP, hS⟩ : ∃ H : Heap, H = s.heap ∧ va_P (dC, dI) vwCl [(h0, .inr (11, fs_h0)), (qt, .inl (kt, 200, .inl ft))] H ∧ va_S A s.heap H [] := ⟨s.heap, rfl, hP, va_S.rf⟩
  have hl := lv_entry ([.ref h0, .int x0]) (n := 3) (Nat.le_of_ble_eq_true rfl)
  rw [lg_entry_eq]
  generalize (lg_sl ([.ref h0, .int x0]) ++ List.replicate (3 - (lg_sl ([.ref h0, .int x0])).length) Slot.unset).toArray = ls at hl ⊢
  have hl : lv_has ls 3 [(0, .ref h0), (1, .int x0)] := hl
  rw [← hHe]; clear hHe
  refine lv_bipush (v := 24) hx hb dX11_push_0 (by decide) ?_
  refine lv_istore_n (lv' := [(2, .int 24), (0, .ref h0), (1, .int x0)]) hx hb dX11_push_2 rfl hl (by decide) rfl (fun ls hl => ?_)
  refine lv_iload_n hx hb dX11_push_3 rfl (lv_at hl 0 rfl) ?_
  refine lv_if_lt (tgt := 53) hx hb dX11_push_4 (by decide) (fun hc => absurd hc (by decide)) (fun _ => ?_)
  refine lv_aload_n hx hb dX11_push_7 rfl (lv_at hl 1 rfl) ?_
  refine va_get (D := (dC, dI)) (ci := 11) (v := .int 12) (C := RX11) (T := TX11) (N := 19) hx hb hts (in_f_push12_X11) hown hK hP 0 rfl rfl 1 (by decide) (hts (.fieldLink RX11 112 "MotionSigns" "tapeSize" "I") (List.mem_of_getElem? (i := 1) rfl)) (fun _ h9 => h9) (mF.get hF_h0 0 rfl) dX11_push_8 ?_
  refine lv_if_lt (tgt := 47) hx hb dX11_push_11 (by decide) (fun hc => absurd hc (by decide)) (fun _ => ?_)
  refine lv_aload_n hx hb dX11_push_14 rfl (lv_at hl 1 rfl) ?_
  refine va_get (D := (dC, dI)) (ci := 11) (v := .int 12) (C := RX11) (T := TX11) (N := 19) hx hb hts (in_f_push12_X11) hown hK hP 0 rfl rfl 1 (by decide) (hts (.fieldLink RX11 112 "MotionSigns" "tapeSize" "I") (List.mem_of_getElem? (i := 1) rfl)) (fun _ h9 => h9) (mF.get hF_h0 0 rfl) dX11_push_15 ?_
  refine lv_sipush (v := 200) hx hb dX11_push_18 (by decide) ?_
  refine lv_icmp_ge (tgt := 47) hx hb dX11_push_21 (by decide) (fun hc => absurd hc (by decide)) (fun _ => ?_)
  refine lv_aload_n hx hb dX11_push_24 rfl (lv_at hl 1 rfl) ?_
  refine va_get (D := (dC, dI)) (ci := 11) (v := .ref qt) (C := RX11) (T := TX11) (N := 19) hx hb hts (in_f_push12_X11) hown hK hP 0 rfl rfl 0 (by decide) (hts (.fieldLink RX11 9 "MotionSigns" "tape" "[B") (List.mem_of_getElem? (i := 2) rfl)) (fun _ h9 => h9) (mF.get hF_h0 1 rfl) dX11_push_25 ?_
  refine lv_aload_n hx hb dX11_push_28 rfl (lv_at hl 1 rfl) ?_
  refine va_get (D := (dC, dI)) (ci := 11) (v := .int 12) (C := RX11) (T := TX11) (N := 19) hx hb hts (in_f_push12_X11) hown hK hP 0 rfl rfl 1 (by decide) (hts (.fieldLink RX11 112 "MotionSigns" "tapeSize" "I") (List.mem_of_getElem? (i := 1) rfl)) (fun _ h9 => h9) (mF.get hF_h0 0 rfl) dX11_push_29 ?_
  refine lv_iload_n hx hb dX11_push_32 rfl (lv_at hl 2 rfl) ?_
  refine lv_iload_n hx hb dX11_push_33 rfl (lv_at hl 0 rfl) ?_
  refine lv_ishr hx hb dX11_push_34 ?_
  refine lv_topi (fun v_1 ev_1 => ?_)
  refine lv_i2b (v := v_1.toInt8.toInt32) hx hb dX11_push_35 rfl ?_
  refine va_bast hx hb hK hP hD hS 1 0 rfl rfl (by exact fun h => by rcases h with h | h <;> revert h <;> decide) dX11_push_36 ?_
  clear hP hD hS; try clear H
  intro H locs hP hD hS
  have hPx := hP; have hDx := hD
  obtain ⟨f_3, hPx, hDx⟩ : ∃ g : Nat → Int32, va_P (dC, dI) vwCl [(h0, .inr (11, fs_h0)), (qt, .inl (kt, 200, .inl g))] H ∧ va_D A [(h0, .inr (11, fs_h0)), (qt, .inl (kt, 200, .inl g))] := ⟨_, hP, hD⟩
  replace hP := hPx; replace hD := hDx; clear hPx hDx
  replace hP : va_P (dC, dI) vwCl [(h0, .inr (11, fs_h0)), (qt, .inl (kt, 200, .inl f_3))] H := hP
  replace hD : va_D A [(h0, .inr (11, fs_h0)), (qt, .inl (kt, 200, .inl f_3))] := hD
  refine lv_aload_n hx hb dX11_push_37 rfl (lv_at hl 1 rfl) ?_
  refine lv_dup hx hb dX11_push_38 rfl ?_
  refine va_get (D := (dC, dI)) (ci := 11) (v := .int 12) (C := RX11) (T := TX11) (N := 19) hx hb hts (in_f_push12_X11) hown hK hP 0 rfl rfl 1 (by decide) (hts (.fieldLink RX11 112 "MotionSigns" "tapeSize" "I") (List.mem_of_getElem? (i := 1) rfl)) (fun _ h9 => h9) (mF.get hF_h0 0 rfl) dX11_push_39 ?_
  refine lv_iconst (v := 1) hx hb dX11_push_42 (by decide) ?_
  refine lv_iadd hx hb dX11_push_43 ?_
  refine lv_topi (fun v_4 ev_4 => ?_)
  have ev_4 : v_4 = 13 := ev_4.trans (by decide)
  subst ev_4
  refine va_put (D := (dC, dI)) (ci := 11) (v := .int 13) (ty := .int) (C := RX11) (T := TX11) (N := 19) hx hb hts (in_f_push12_X11) tyX11 tyX11_ok nmX11 hown hK hP hD hS 0 rfl rfl 1 (by decide) (hts (.fieldLink RX11 112 "MotionSigns" "tapeSize" "I") (List.mem_of_getElem? (i := 1) rfl)) (fun _ h9 => h9) rfl (tyX11_ok 1 (by decide)) rfl rfl (mF.lt hF_h0 (by decide)) dX11_push_44 ?_
  clear hP hD hS; try clear H
  intro H locs hP hD hS
  have hF0 := mF.sub (L' := [(0, .ref qt)]) hF_h0 [1] rfl
  have hF1 := mF.put hF0 1 (.int 13) (by decide) rfl
  replace hP : va_P (dC, dI) vwCl [(h0, .inr (11, (fs_h0.set 1 (.int 13)))), (qt, .inl (kt, 200, .inl f_3))] H := hP
  replace hD : va_D A [(h0, .inr (11, (fs_h0.set 1 (.int 13)))), (qt, .inl (kt, 200, .inl f_3))] := hD
  generalize fs_h0.set 1 (.int 13) = fs_5 at hP hD hF1
  replace hF_h0 : mF 19 [(1, .int 13), (0, .ref qt)] fs_5 := hF1
  clear hF1 hF0
  replace hP : va_P (dC, dI) vwCl [(h0, .inr (11, fs_5)), (qt, .inl (kt, 200, .inl f_3))] H := hP
  replace hD : va_D A [(h0, .inr (11, fs_5)), (qt, .inl (kt, 200, .inl f_3))] := hD
  refine lv_iinc (v := 16) (lv' := [(2, .int 16), (0, .ref h0), (1, .int x0)]) hx hb dX11_push_47 hl (k := 0) rfl (by decide) (by decide) rfl (fun ls hl => ?_)
  refine lv_goto (tgt := 3) hx hb dX11_push_50 (by decide) ?_
  refine lv_iload_n hx hb dX11_push_3 rfl (lv_at hl 0 rfl) ?_
  refine lv_if_lt (tgt := 53) hx hb dX11_push_4 (by decide) (fun hc => absurd hc (by decide)) (fun _ => ?_)
  refine lv_aload_n hx hb dX11_push_7 rfl (lv_at hl 1 rfl) ?_
  refine va_get (D := (dC, dI)) (ci := 11) (v := .int 13) (C := RX11) (T := TX11) (N := 19) hx hb hts (in_f_push12_X11) hown hK hP 0 rfl rfl 1 (by decide) (hts (.fieldLink RX11 112 "MotionSigns" "tapeSize" "I") (List.mem_of_getElem? (i := 1) rfl)) (fun _ h9 => h9) (mF.get hF_h0 0 rfl) dX11_push_8 ?_
  refine lv_if_lt (tgt := 47) hx hb dX11_push_11 (by decide) (fun hc => absurd hc (by decide)) (fun _ => ?_)
  refine lv_aload_n hx hb dX11_push_14 rfl (lv_at hl 1 rfl) ?_
  refine va_get (D := (dC, dI)) (ci := 11) (v := .int 13) (C := RX11) (T := TX11) (N := 19) hx hb hts (in_f_push12_X11) hown hK hP 0 rfl rfl 1 (by decide) (hts (.fieldLink RX11 112 "MotionSigns" "tapeSize" "I") (List.mem_of_getElem? (i := 1) rfl)) (fun _ h9 => h9) (mF.get hF_h0 0 rfl) dX11_push_15 ?_
  refine lv_sipush (v := 200) hx hb dX11_push_18 (by decide) ?_
  refine lv_icmp_ge (tgt := 47) hx hb dX11_push_21 (by decide) (fun hc => absurd hc (by decide)) (fun _ => ?_)
  refine lv_aload_n hx hb dX11_push_24 rfl (lv_at hl 1 rfl) ?_
  refine va_get (D := (dC, dI)) (ci := 11) (v := .ref qt) (C := RX11) (T := TX11) (N := 19) hx hb hts (in_f_push12_X11) hown hK hP 0 rfl rfl 0 (by decide) (hts (.fieldLink RX11 9 "MotionSigns" "tape" "[B") (List.mem_of_getElem? (i := 2) rfl)) (fun _ h9 => h9) (mF.get hF_h0 1 rfl) dX11_push_25 ?_
  refine lv_aload_n hx hb dX11_push_28 rfl (lv_at hl 1 rfl) ?_
  refine va_get (D := (dC, dI)) (ci := 11) (v := .int 13) (C := RX11) (T := TX11) (N := 19) hx hb hts (in_f_push12_X11) hown hK hP 0 rfl rfl 1 (by decide) (hts (.fieldLink RX11 112 "MotionSigns" "tapeSize" "I") (List.mem_of_getElem? (i := 1) rfl)) (fun _ h9 => h9) (mF.get hF_h0 0 rfl) dX11_push_29 ?_
  refine lv_iload_n hx hb dX11_push_32 rfl (lv_at hl 2 rfl) ?_
  refine lv_iload_n hx hb dX11_push_33 rfl (lv_at hl 0 rfl) ?_
  refine lv_ishr hx hb dX11_push_34 ?_
  refine lv_topi (fun v_6 ev_6 => ?_)
  refine lv_i2b (v := v_6.toInt8.toInt32) hx hb dX11_push_35 rfl ?_
  refine va_bast hx hb hK hP hD hS 1 0 rfl rfl (by exact fun h => by rcases h with h | h <;> revert h <;> decide) dX11_push_36 ?_
  clear hP hD hS; try clear H
  intro H locs hP hD hS
  have hPx := hP; have hDx := hD
  obtain ⟨f_8, hPx, hDx⟩ : ∃ g : Nat → Int32, va_P (dC, dI) vwCl [(h0, .inr (11, fs_5)), (qt, .inl (kt, 200, .inl g))] H ∧ va_D A [(h0, .inr (11, fs_5)), (qt, .inl (kt, 200, .inl g))] := ⟨_, hP, hD⟩
  replace hP := hPx; replace hD := hDx; clear hPx hDx
  replace hP : va_P (dC, dI) vwCl [(h0, .inr (11, fs_5)), (qt, .inl (kt, 200, .inl f_8))] H := hP
  replace hD : va_D A [(h0, .inr (11, fs_5)), (qt, .inl (kt, 200, .inl f_8))] := hD
  refine lv_aload_n hx hb dX11_push_37 rfl (lv_at hl 1 rfl) ?_
  refine lv_dup hx hb dX11_push_38 rfl ?_
  refine va_get (D := (dC, dI)) (ci := 11) (v := .int 13) (C := RX11) (T := TX11) (N := 19) hx hb hts (in_f_push12_X11) hown hK hP 0 rfl rfl 1 (by decide) (hts (.fieldLink RX11 112 "MotionSigns" "tapeSize" "I") (List.mem_of_getElem? (i := 1) rfl)) (fun _ h9 => h9) (mF.get hF_h0 0 rfl) dX11_push_39 ?_
  refine lv_iconst (v := 1) hx hb dX11_push_42 (by decide) ?_
  refine lv_iadd hx hb dX11_push_43 ?_
  refine lv_topi (fun v_9 ev_9 => ?_)
  have ev_9 : v_9 = 14 := ev_9.trans (by decide)
  subst ev_9
  refine va_put (D := (dC, dI)) (ci := 11) (v := .int 14) (ty := .int) (C := RX11) (T := TX11) (N := 19) hx hb hts (in_f_push12_X11) tyX11 tyX11_ok nmX11 hown hK hP hD hS 0 rfl rfl 1 (by decide) (hts (.fieldLink RX11 112 "MotionSigns" "tapeSize" "I") (List.mem_of_getElem? (i := 1) rfl)) (fun _ h9 => h9) rfl (tyX11_ok 1 (by decide)) rfl rfl (mF.lt hF_h0 (by decide)) dX11_push_44 ?_
  clear hP hD hS; try clear H
  intro H locs hP hD hS
  have hF0 := mF.sub (L' := [(0, .ref qt)]) hF_h0 [1] rfl
  have hF1 := mF.put hF0 1 (.int 14) (by decide) rfl
  replace hP : va_P (dC, dI) vwCl [(h0, .inr (11, (fs_5.set 1 (.int 14)))), (qt, .inl (kt, 200, .inl f_8))] H := hP
  replace hD : va_D A [(h0, .inr (11, (fs_5.set 1 (.int 14)))), (qt, .inl (kt, 200, .inl f_8))] := hD
  generalize fs_5.set 1 (.int 14) = fs_10 at hP hD hF1
  replace hF_h0 : mF 19 [(1, .int 14), (0, .ref qt)] fs_10 := hF1
  clear hF1 hF0
  replace hP : va_P (dC, dI) vwCl [(h0, .inr (11, fs_10)), (qt, .inl (kt, 200, .inl f_8))] H := hP
  replace hD : va_D A [(h0, .inr (11, fs_10)), (qt, .inl (kt, 200, .inl f_8))] := hD
  refine lv_iinc (v := 8) (lv' := [(2, .int 8), (0, .ref h0), (1, .int x0)]) hx hb dX11_push_47 hl (k := 0) rfl (by decide) (by decide) rfl (fun ls hl => ?_)
  refine lv_goto (tgt := 3) hx hb dX11_push_50 (by decide) ?_
  refine lv_iload_n hx hb dX11_push_3 rfl (lv_at hl 0 rfl) ?_
  refine lv_if_lt (tgt := 53) hx hb dX11_push_4 (by decide) (fun hc => absurd hc (by decide)) (fun _ => ?_)
  refine lv_aload_n hx hb dX11_push_7 rfl (lv_at hl 1 rfl) ?_
  refine va_get (D := (dC, dI)) (ci := 11) (v := .int 14) (C := RX11) (T := TX11) (N := 19) hx hb hts (in_f_push12_X11) hown hK hP 0 rfl rfl 1 (by decide) (hts (.fieldLink RX11 112 "MotionSigns" "tapeSize" "I") (List.mem_of_getElem? (i := 1) rfl)) (fun _ h9 => h9) (mF.get hF_h0 0 rfl) dX11_push_8 ?_
  refine lv_if_lt (tgt := 47) hx hb dX11_push_11 (by decide) (fun hc => absurd hc (by decide)) (fun _ => ?_)
  refine lv_aload_n hx hb dX11_push_14 rfl (lv_at hl 1 rfl) ?_
  refine va_get (D := (dC, dI)) (ci := 11) (v := .int 14) (C := RX11) (T := TX11) (N := 19) hx hb hts (in_f_push12_X11) hown hK hP 0 rfl rfl 1 (by decide) (hts (.fieldLink RX11 112 "MotionSigns" "tapeSize" "I") (List.mem_of_getElem? (i := 1) rfl)) (fun _ h9 => h9) (mF.get hF_h0 0 rfl) dX11_push_15 ?_
  refine lv_sipush (v := 200) hx hb dX11_push_18 (by decide) ?_
  refine lv_icmp_ge (tgt := 47) hx hb dX11_push_21 (by decide) (fun hc => absurd hc (by decide)) (fun _ => ?_)
  refine lv_aload_n hx hb dX11_push_24 rfl (lv_at hl 1 rfl) ?_
  refine va_get (D := (dC, dI)) (ci := 11) (v := .ref qt) (C := RX11) (T := TX11) (N := 19) hx hb hts (in_f_push12_X11) hown hK hP 0 rfl rfl 0 (by decide) (hts (.fieldLink RX11 9 "MotionSigns" "tape" "[B") (List.mem_of_getElem? (i := 2) rfl)) (fun _ h9 => h9) (mF.get hF_h0 1 rfl) dX11_push_25 ?_
  refine lv_aload_n hx hb dX11_push_28 rfl (lv_at hl 1 rfl) ?_
  refine va_get (D := (dC, dI)) (ci := 11) (v := .int 14) (C := RX11) (T := TX11) (N := 19) hx hb hts (in_f_push12_X11) hown hK hP 0 rfl rfl 1 (by decide) (hts (.fieldLink RX11 112 "MotionSigns" "tapeSize" "I") (List.mem_of_getElem? (i := 1) rfl)) (fun _ h9 => h9) (mF.get hF_h0 0 rfl) dX11_push_29 ?_
  refine lv_iload_n hx hb dX11_push_32 rfl (lv_at hl 2 rfl) ?_
  refine lv_iload_n hx hb dX11_push_33 rfl (lv_at hl 0 rfl) ?_
  refine lv_ishr hx hb dX11_push_34 ?_
  refine lv_topi (fun v_11 ev_11 => ?_)
  refine lv_i2b (v := v_11.toInt8.toInt32) hx hb dX11_push_35 rfl ?_
  refine va_bast hx hb hK hP hD hS 1 0 rfl rfl (by exact fun h => by rcases h with h | h <;> revert h <;> decide) dX11_push_36 ?_
  clear hP hD hS; try clear H
  intro H locs hP hD hS
  have hPx := hP; have hDx := hD
  obtain ⟨f_13, hPx, hDx⟩ : ∃ g : Nat → Int32, va_P (dC, dI) vwCl [(h0, .inr (11, fs_10)), (qt, .inl (kt, 200, .inl g))] H ∧ va_D A [(h0, .inr (11, fs_10)), (qt, .inl (kt, 200, .inl g))] := ⟨_, hP, hD⟩
  replace hP := hPx; replace hD := hDx; clear hPx hDx
  replace hP : va_P (dC, dI) vwCl [(h0, .inr (11, fs_10)), (qt, .inl (kt, 200, .inl f_13))] H := hP
  replace hD : va_D A [(h0, .inr (11, fs_10)), (qt, .inl (kt, 200, .inl f_13))] := hD
  refine lv_aload_n hx hb dX11_push_37 rfl (lv_at hl 1 rfl) ?_
  refine lv_dup hx hb dX11_push_38 rfl ?_
  refine va_get (D := (dC, dI)) (ci := 11) (v := .int 14) (C := RX11) (T := TX11) (N := 19) hx hb hts (in_f_push12_X11) hown hK hP 0 rfl rfl 1 (by decide) (hts (.fieldLink RX11 112 "MotionSigns" "tapeSize" "I") (List.mem_of_getElem? (i := 1) rfl)) (fun _ h9 => h9) (mF.get hF_h0 0 rfl) dX11_push_39 ?_
  refine lv_iconst (v := 1) hx hb dX11_push_42 (by decide) ?_
  refine lv_iadd hx hb dX11_push_43 ?_
  refine lv_topi (fun v_14 ev_14 => ?_)
  have ev_14 : v_14 = 15 := ev_14.trans (by decide)
  subst ev_14
  refine va_put (D := (dC, dI)) (ci := 11) (v := .int 15) (ty := .int) (C := RX11) (T := TX11) (N := 19) hx hb hts (in_f_push12_X11) tyX11 tyX11_ok nmX11 hown hK hP hD hS 0 rfl rfl 1 (by decide) (hts (.fieldLink RX11 112 "MotionSigns" "tapeSize" "I") (List.mem_of_getElem? (i := 1) rfl)) (fun _ h9 => h9) rfl (tyX11_ok 1 (by decide)) rfl rfl (mF.lt hF_h0 (by decide)) dX11_push_44 ?_
  clear hP hD hS; try clear H
  intro H locs hP hD hS
  have hF0 := mF.sub (L' := [(0, .ref qt)]) hF_h0 [1] rfl
  have hF1 := mF.put hF0 1 (.int 15) (by decide) rfl
  replace hP : va_P (dC, dI) vwCl [(h0, .inr (11, (fs_10.set 1 (.int 15)))), (qt, .inl (kt, 200, .inl f_13))] H := hP
  replace hD : va_D A [(h0, .inr (11, (fs_10.set 1 (.int 15)))), (qt, .inl (kt, 200, .inl f_13))] := hD
  generalize fs_10.set 1 (.int 15) = fs_15 at hP hD hF1
  replace hF_h0 : mF 19 [(1, .int 15), (0, .ref qt)] fs_15 := hF1
  clear hF1 hF0
  replace hP : va_P (dC, dI) vwCl [(h0, .inr (11, fs_15)), (qt, .inl (kt, 200, .inl f_13))] H := hP
  replace hD : va_D A [(h0, .inr (11, fs_15)), (qt, .inl (kt, 200, .inl f_13))] := hD
  refine lv_iinc (v := 0) (lv' := [(2, .int 0), (0, .ref h0), (1, .int x0)]) hx hb dX11_push_47 hl (k := 0) rfl (by decide) (by decide) rfl (fun ls hl => ?_)
  refine lv_goto (tgt := 3) hx hb dX11_push_50 (by decide) ?_
  refine lv_iload_n hx hb dX11_push_3 rfl (lv_at hl 0 rfl) ?_
  refine lv_if_lt (tgt := 53) hx hb dX11_push_4 (by decide) (fun hc => absurd hc (by decide)) (fun _ => ?_)
  refine lv_aload_n hx hb dX11_push_7 rfl (lv_at hl 1 rfl) ?_
  refine va_get (D := (dC, dI)) (ci := 11) (v := .int 15) (C := RX11) (T := TX11) (N := 19) hx hb hts (in_f_push12_X11) hown hK hP 0 rfl rfl 1 (by decide) (hts (.fieldLink RX11 112 "MotionSigns" "tapeSize" "I") (List.mem_of_getElem? (i := 1) rfl)) (fun _ h9 => h9) (mF.get hF_h0 0 rfl) dX11_push_8 ?_
  refine lv_if_lt (tgt := 47) hx hb dX11_push_11 (by decide) (fun hc => absurd hc (by decide)) (fun _ => ?_)
  refine lv_aload_n hx hb dX11_push_14 rfl (lv_at hl 1 rfl) ?_
  refine va_get (D := (dC, dI)) (ci := 11) (v := .int 15) (C := RX11) (T := TX11) (N := 19) hx hb hts (in_f_push12_X11) hown hK hP 0 rfl rfl 1 (by decide) (hts (.fieldLink RX11 112 "MotionSigns" "tapeSize" "I") (List.mem_of_getElem? (i := 1) rfl)) (fun _ h9 => h9) (mF.get hF_h0 0 rfl) dX11_push_15 ?_
  refine lv_sipush (v := 200) hx hb dX11_push_18 (by decide) ?_
  refine lv_icmp_ge (tgt := 47) hx hb dX11_push_21 (by decide) (fun hc => absurd hc (by decide)) (fun _ => ?_)
  refine lv_aload_n hx hb dX11_push_24 rfl (lv_at hl 1 rfl) ?_
  refine va_get (D := (dC, dI)) (ci := 11) (v := .ref qt) (C := RX11) (T := TX11) (N := 19) hx hb hts (in_f_push12_X11) hown hK hP 0 rfl rfl 0 (by decide) (hts (.fieldLink RX11 9 "MotionSigns" "tape" "[B") (List.mem_of_getElem? (i := 2) rfl)) (fun _ h9 => h9) (mF.get hF_h0 1 rfl) dX11_push_25 ?_
  refine lv_aload_n hx hb dX11_push_28 rfl (lv_at hl 1 rfl) ?_
  refine va_get (D := (dC, dI)) (ci := 11) (v := .int 15) (C := RX11) (T := TX11) (N := 19) hx hb hts (in_f_push12_X11) hown hK hP 0 rfl rfl 1 (by decide) (hts (.fieldLink RX11 112 "MotionSigns" "tapeSize" "I") (List.mem_of_getElem? (i := 1) rfl)) (fun _ h9 => h9) (mF.get hF_h0 0 rfl) dX11_push_29 ?_
  refine lv_iload_n hx hb dX11_push_32 rfl (lv_at hl 2 rfl) ?_
  refine lv_iload_n hx hb dX11_push_33 rfl (lv_at hl 0 rfl) ?_
  refine lv_ishr hx hb dX11_push_34 ?_
  refine lv_topi (fun v_16 ev_16 => ?_)
  refine lv_i2b (v := v_16.toInt8.toInt32) hx hb dX11_push_35 rfl ?_
  refine va_bast hx hb hK hP hD hS 1 0 rfl rfl (by exact fun h => by rcases h with h | h <;> revert h <;> decide) dX11_push_36 ?_
  clear hP hD hS; try clear H
  intro H locs hP hD hS
  have hPx := hP; have hDx := hD
  obtain ⟨f_18, hPx, hDx⟩ : ∃ g : Nat → Int32, va_P (dC, dI) vwCl [(h0, .inr (11, fs_15)), (qt, .inl (kt, 200, .inl g))] H ∧ va_D A [(h0, .inr (11, fs_15)), (qt, .inl (kt, 200, .inl g))] := ⟨_, hP, hD⟩
  replace hP := hPx; replace hD := hDx; clear hPx hDx
  replace hP : va_P (dC, dI) vwCl [(h0, .inr (11, fs_15)), (qt, .inl (kt, 200, .inl f_18))] H := hP
  replace hD : va_D A [(h0, .inr (11, fs_15)), (qt, .inl (kt, 200, .inl f_18))] := hD
  refine lv_aload_n hx hb dX11_push_37 rfl (lv_at hl 1 rfl) ?_
  refine lv_dup hx hb dX11_push_38 rfl ?_
  refine va_get (D := (dC, dI)) (ci := 11) (v := .int 15) (C := RX11) (T := TX11) (N := 19) hx hb hts (in_f_push12_X11) hown hK hP 0 rfl rfl 1 (by decide) (hts (.fieldLink RX11 112 "MotionSigns" "tapeSize" "I") (List.mem_of_getElem? (i := 1) rfl)) (fun _ h9 => h9) (mF.get hF_h0 0 rfl) dX11_push_39 ?_
  refine lv_iconst (v := 1) hx hb dX11_push_42 (by decide) ?_
  refine lv_iadd hx hb dX11_push_43 ?_
  refine lv_topi (fun v_19 ev_19 => ?_)
  have ev_19 : v_19 = 16 := ev_19.trans (by decide)
  subst ev_19
  refine va_put (D := (dC, dI)) (ci := 11) (v := .int 16) (ty := .int) (C := RX11) (T := TX11) (N := 19) hx hb hts (in_f_push12_X11) tyX11 tyX11_ok nmX11 hown hK hP hD hS 0 rfl rfl 1 (by decide) (hts (.fieldLink RX11 112 "MotionSigns" "tapeSize" "I") (List.mem_of_getElem? (i := 1) rfl)) (fun _ h9 => h9) rfl (tyX11_ok 1 (by decide)) rfl rfl (mF.lt hF_h0 (by decide)) dX11_push_44 ?_
  clear hP hD hS; try clear H
  intro H locs hP hD hS
  have hF0 := mF.sub (L' := [(0, .ref qt)]) hF_h0 [1] rfl
  have hF1 := mF.put hF0 1 (.int 16) (by decide) rfl
  replace hP : va_P (dC, dI) vwCl [(h0, .inr (11, (fs_15.set 1 (.int 16)))), (qt, .inl (kt, 200, .inl f_18))] H := hP
  replace hD : va_D A [(h0, .inr (11, (fs_15.set 1 (.int 16)))), (qt, .inl (kt, 200, .inl f_18))] := hD
  generalize fs_15.set 1 (.int 16) = fs_20 at hP hD hF1
  replace hF_h0 : mF 19 [(1, .int 16), (0, .ref qt)] fs_20 := hF1
  clear hF1 hF0
  replace hP : va_P (dC, dI) vwCl [(h0, .inr (11, fs_20)), (qt, .inl (kt, 200, .inl f_18))] H := hP
  replace hD : va_D A [(h0, .inr (11, fs_20)), (qt, .inl (kt, 200, .inl f_18))] := hD
  refine lv_iinc (v := (-8)) (lv' := [(2, .int (-8)), (0, .ref h0), (1, .int x0)]) hx hb dX11_push_47 hl (k := 0) rfl (by decide) (by decide) rfl (fun ls hl => ?_)
  refine lv_goto (tgt := 3) hx hb dX11_push_50 (by decide) ?_
  refine lv_iload_n hx hb dX11_push_3 rfl (lv_at hl 0 rfl) ?_
  refine lv_if_lt (tgt := 53) hx hb dX11_push_4 (by decide) (fun _ => ?_) (fun hc => absurd (by decide) hc)
  have hP9 := hP.sub (ws' := [(h0, .inr (11, fs_20)), (qt, .inl (kt, 200, .inl f_18))]) [0, 1] rfl
  have hD9 := hD.sub (ws' := [(h0, .inr (11, fs_20)), (qt, .inl (kt, 200, .inl f_18))]) [0, 1] (by decide) rfl
  have hK9 := hK.sub (tys' := [(kt, .byte)]) [0] rfl
  rw [← hAe] at hD9
  refine W.widen (k := 0) (n := 0) (Nat.le_of_ble_eq_true rfl) (Nat.le_of_ble_eq_true rfl) ?_
  subst hAe
  exact (W.vret hx hb hr (fun t ht hW => ⟨⟨(), rfl, trivial, (f_18), fs_20, by rw [ht]; exact hP9, va_K.moved hW.alike hK9, hD9, (mF.sub hF_h0 [0, 1] rfl)⟩, hS.F ht⟩) hS.2.2 dX11_push_53)
def wv_f_push16 : List Cond := .code yX11_push cX11_push 3 none :: ([.fieldLink RX11 112 "MotionSigns" "tapeSize" "I", .fieldLink RX11 9 "MotionSigns" "tape" "[B"] ++ (wsX110 ++ ([])))
theorem gw_f_push16 : wv_f_push16.all goodWord = true := by decide +kernel
theorem in_f_push16_X11 : ∀ w ∈ wsX110, w ∈ wv_f_push16 := fun _ h => List.mem_cons_of_mem _ (List.mem_append_right _ (List.mem_append_left _ h))
set_option maxHeartbeats 4000000 in
set_option maxRecDepth 100000 in
/-- four bytes behind the 16 that there are -/
theorem c_f_push16 (l : Launch) (dC : Nat → ClassId) (dI : Nat → Nat → Nat) (h0 : Nat) (qt : Nat) (kt : Nat) (x0 : Int32) (ft : Nat → Int32) (fs_h0 : List Value) (hF_h0 : mF 19 [(1, .int 16), (0, .ref qt)] fs_h0) (sz : Nat) : Met l yX11_push wv_f_push16 ({ frames := 0, cells := 0, slots := 0, locals := 0 }) (va_Pc [.ref h0, .int x0] (fun U => U.heap.size = sz ∧ va_P (dC, dI) vwCl [(h0, .inr (11, fs_h0)), (qt, .inl (kt, 200, .inl ft))] U.heap ∧ va_K (dC, dI) vwCl [(kt, .byte)] U ∧ va_D (fun _ => True) [(h0, .inr (11, fs_h0)), (qt, .inl (kt, 200, .inl ft))] ∧ w_N U)) (va_Qv (fun (_ : Unit) => True) (fun _ t => ∃ (ft2 : Nat → Int32) (fs_h02 : List Value), va_P (dC, dI) vwCl [(h0, .inr (11, fs_h02)), (qt, .inl (kt, 200, .inl ft2))] t.heap ∧ va_K (dC, dI) vwCl [(kt, .byte)] t ∧ va_D (va_A [(h0, .inr (11, fs_h0)), (qt, .inl (kt, 200, .inl ft))] sz) [(h0, .inr (11, fs_h02)), (qt, .inl (kt, 200, .inl ft2))] ∧ mF 19 [(1, .int 20), (0, .ref qt)] fs_h02) (va_A [(h0, .inr (11, fs_h0)), (qt, .inl (kt, 200, .inl ft))] sz)) 0 0 (va_A [(h0, .inr (11, fs_h0)), (qt, .inl (kt, 200, .inl ft))] sz) := by
  refine Met.ofW (cc := cX11_push) (maxL := 3) (ret := none) (by decide) rfl ?_
  intro p e s m args below meth c s₁ B hml hv
  obtain ⟨rfl, hsz, hP, hK, hD0, hN⟩ := hv
  have hx := B.exec
  have hb := B.bytes
  have hr := B.returns
  have hts := atoms_spec (ws := wv_f_push16) B.pre
  have hown : s.vm.findClass RX11 = some m.cls := findClass_of_methodNamed B.named
  have hlocks := B.notSynchronized
  subst hsz
  have hD := hD0.self (sz := s.heap.size)
  generalize hAe : va_A [(h0, .inr (11, fs_h0)), (qt, .inl (kt, 200, .inl ft))] s.heap.size = A at hD ⊢
  have hA : ∀ q : Nat, s.heap.size ≤ q → A q := fun q h => by rw [← hAe]; exact Or.inr h
  obtain ⟨H, hHe, hP, hS⟩ : ∃ H : Heap, H = s.heap ∧ va_P (dC, dI) vwCl [(h0, .inr (11, fs_h0)), (qt, .inl (kt, 200, .inl ft))] H ∧ va_S A s.heap H [] := ⟨s.heap, rfl, hP, va_S.rf⟩
  have hl := lv_entry ([.ref h0, .int x0]) (n := 3) (Nat.le_of_ble_eq_true rfl)
  rw [lg_entry_eq]
  generalize (lg_sl ([.ref h0, .int x0]) ++ List.replicate (3 - (lg_sl ([.ref h0, .int x0])).length) Slot.unset).toArray = ls at hl ⊢
  have hl : lv_has ls 3 [(0, .ref h0), (1, .int x0)] := hl
  rw [← hHe]; clear hHe
  refine lv_bipush (v := 24) hx hb dX11_push_0 (by decide) ?_
  refine lv_istore_n (lv' := [(2, .int 24), (0, .ref h0), (1, .int x0)]) hx hb dX11_push_2 rfl hl (by decide) rfl (fun ls hl => ?_)
  refine lv_iload_n hx hb dX11_push_3 rfl (lv_at hl 0 rfl) ?_
  refine lv_if_lt (tgt := 53) hx hb dX11_push_4 (by decide) (fun hc => absurd hc (by decide)) (fun _ => ?_)
  refine lv_aload_n hx hb dX11_push_7 rfl (lv_at hl 1 rfl) ?_
  refine va_get (D := (dC, dI)) (ci := 11) (v := .int 16) (C := RX11) (T := TX11) (N := 19) hx hb hts (in_f_push16_X11) hown hK hP 0 rfl rfl 1 (by decide) (hts (.fieldLink RX11 112 "MotionSigns" "tapeSize" "I") (List.mem_of_getElem? (i := 1) rfl)) (fun _ h9 => h9) (mF.get hF_h0 0 rfl) dX11_push_8 ?_
  refine lv_if_lt (tgt := 47) hx hb dX11_push_11 (by decide) (fun hc => absurd hc (by decide)) (fun _ => ?_)
  refine lv_aload_n hx hb dX11_push_14 rfl (lv_at hl 1 rfl) ?_
  refine va_get (D := (dC, dI)) (ci := 11) (v := .int 16) (C := RX11) (T := TX11) (N := 19) hx hb hts (in_f_push16_X11) hown hK hP 0 rfl rfl 1 (by decide) (hts (.fieldLink RX11 112 "MotionSigns" "tapeSize" "I") (List.mem_of_getElem? (i := 1) rfl)) (fun _ h9 => h9) (mF.get hF_h0 0 rfl) dX11_push_15 ?_
  refine lv_sipush (v := 200) hx hb dX11_push_18 (by decide) ?_
  refine lv_icmp_ge (tgt := 47) hx hb dX11_push_21 (by decide) (fun hc => absurd hc (by decide)) (fun _ => ?_)
  refine lv_aload_n hx hb dX11_push_24 rfl (lv_at hl 1 rfl) ?_
  refine va_get (D := (dC, dI)) (ci := 11) (v := .ref qt) (C := RX11) (T := TX11) (N := 19) hx hb hts (in_f_push16_X11) hown hK hP 0 rfl rfl 0 (by decide) (hts (.fieldLink RX11 9 "MotionSigns" "tape" "[B") (List.mem_of_getElem? (i := 2) rfl)) (fun _ h9 => h9) (mF.get hF_h0 1 rfl) dX11_push_25 ?_
  refine lv_aload_n hx hb dX11_push_28 rfl (lv_at hl 1 rfl) ?_
  refine va_get (D := (dC, dI)) (ci := 11) (v := .int 16) (C := RX11) (T := TX11) (N := 19) hx hb hts (in_f_push16_X11) hown hK hP 0 rfl rfl 1 (by decide) (hts (.fieldLink RX11 112 "MotionSigns" "tapeSize" "I") (List.mem_of_getElem? (i := 1) rfl)) (fun _ h9 => h9) (mF.get hF_h0 0 rfl) dX11_push_29 ?_
  refine lv_iload_n hx hb dX11_push_32 rfl (lv_at hl 2 rfl) ?_
  refine lv_iload_n hx hb dX11_push_33 rfl (lv_at hl 0 rfl) ?_
  refine lv_ishr hx hb dX11_push_34 ?_
  refine lv_topi (fun v_1 ev_1 => ?_)
  refine lv_i2b (v := v_1.toInt8.toInt32) hx hb dX11_push_35 rfl ?_
  refine va_bast hx hb hK hP hD hS 1 0 rfl rfl (by exact fun h => by rcases h with h | h <;> revert h <;> decide) dX11_push_36 ?_
  clear hP hD hS; try clear H
  intro H locs hP hD hS
  have hPx := hP; have hDx := hD
  obtain ⟨f_3, hPx, hDx⟩ : ∃ g : Nat → Int32, va_P (dC, dI) vwCl [(h0, .inr (11, fs_h0)), (qt, .inl (kt, 200, .inl g))] H ∧ va_D A [(h0, .inr (11, fs_h0)), (qt, .inl (kt, 200, .inl g))] := ⟨_, hP, hD⟩
  replace hP := hPx; replace hD := hDx; clear hPx hDx
  replace hP : va_P (dC, dI) vwCl [(h0, .inr (11, fs_h0)), (qt, .inl (kt, 200, .inl f_3))] H := hP
  replace hD : va_D A [(h0, .inr (11, fs_h0)), (qt, .inl (kt, 200, .inl f_3))] := hD
  refine lv_aload_n hx hb dX11_push_37 rfl (lv_at hl 1 rfl) ?_
  refine lv_dup hx hb dX11_push_38 rfl ?_
  refine va_get (D := (dC, dI)) (ci := 11) (v := .int 16) (C := RX11) (T := TX11) (N := 19) hx hb hts (in_f_push16_X11) hown hK hP 0 rfl rfl 1 (by decide) (hts (.fieldLink RX11 112 "MotionSigns" "tapeSize" "I") (List.mem_of_getElem? (i := 1) rfl)) (fun _ h9 => h9) (mF.get hF_h0 0 rfl) dX11_push_39 ?_
  refine lv_iconst (v := 1) hx hb dX11_push_42 (by decide) ?_
  refine lv_iadd hx hb dX11_push_43 ?_
  refine lv_topi (fun v_4 ev_4 => ?_)
  have ev_4 : v_4 = 17 := ev_4.trans (by decide)
  subst ev_4
  refine va_put (D := (dC, dI)) (ci := 11) (v := .int 17) (ty := .int) (C := RX11) (T := TX11) (N := 19) hx hb hts (in_f_push16_X11) tyX11 tyX11_ok nmX11 hown hK hP hD hS 0 rfl rfl 1 (by decide) (hts (.fieldLink RX11 112 "MotionSigns" "tapeSize" "I") (List.mem_of_getElem? (i := 1) rfl)) (fun _ h9 => h9) rfl (tyX11_ok 1 (by decide)) rfl rfl (mF.lt hF_h0 (by decide)) dX11_push_44 ?_
  clear hP hD hS; try clear H
  intro H locs hP hD hS
  have hF0 := mF.sub (L' := [(0, .ref qt)]) hF_h0 [1] rfl
  have hF1 := mF.put hF0 1 (.int 17) (by decide) rfl
  replace hP : va_P (dC, dI) vwCl [(h0, .inr (11, (fs_h0.set 1 (.int 17)))), (qt, .inl (kt, 200, .inl f_3))] H := hP
  replace hD : va_D A [(h0, .inr (11, (fs_h0.set 1 (.int 17)))), (qt, .inl (kt, 200, .inl f_3))] := hD
  generalize fs_h0.set 1 (.int 17) = fs_5 at hP hD hF1
  replace hF_h0 : mF 19 [(1, .int 17), (0, .ref qt)] fs_5 := hF1
  clear hF1 hF0
  replace hP : va_P (dC, dI) vwCl [(h0, .inr (11, fs_5)), (qt, .inl (kt, 200, .inl f_3))] H := hP
  replace hD : va_D A [(h0, .inr (11, fs_5)), (qt, .inl (kt, 200, .inl f_3))] := hD
  refine lv_iinc (v := 16) (lv' := [(2, .int 16), (0, .ref h0), (1, .int x0)]) hx hb dX11_push_47 hl (k := 0) rfl (by decide) (by decide) rfl (fun ls hl => ?_)
  refine lv_goto (tgt := 3) hx hb dX11_push_50 (by decide) ?_
  refine lv_iload_n hx hb dX11_push_3 rfl (lv_at hl 0 rfl) ?_
  refine lv_if_lt (tgt := 53) hx hb dX11_push_4 (by decide) (fun hc => absurd hc (by decide)) (fun _ => ?_)
  refine lv_aload_n hx hb dX11_push_7 rfl (lv_at hl 1 rfl) ?_
  refine va_get (D := (dC, dI)) (ci := 11) (v := .int 17) (C := RX11) (T := TX11) (N := 19) hx hb hts (in_f_push16_X11) hown hK hP 0 rfl rfl 1 (by decide) (hts (.fieldLink RX11 112 "MotionSigns" "tapeSize" "I") (List.mem_of_getElem? (i := 1) rfl)) (fun _ h9 => h9) (mF.get hF_h0 0 rfl) dX11_push_8 ?_
  refine lv_if_lt (tgt := 47) hx hb dX11_push_11 (by decide) (fun hc => absurd hc (by decide)) (fun _ => ?_)
  refine lv_aload_n hx hb dX11_push_14 rfl (lv_at hl 1 rfl) ?_
  refine va_get (D := (dC, dI)) (ci := 11) (v := .int 17) (C := RX11) (T := TX11) (N := 19) hx hb hts (in_f_push16_X11) hown hK hP 0 rfl rfl 1 (by decide) (hts (.fieldLink RX11 112 "MotionSigns" "tapeSize" "I") (List.mem_of_getElem? (i := 1) rfl)) (fun _ h9 => h9) (mF.get hF_h0 0 rfl) dX11_push_15 ?_
  refine lv_sipush (v := 200) hx hb dX11_push_18 (by decide) ?_
  refine lv_icmp_ge (tgt := 47) hx hb dX11_push_21 (by decide) (fun hc => absurd hc (by decide)) (fun _ => ?_)
  refine lv_aload_n hx hb dX11_push_24 rfl (lv_at hl 1 rfl) ?_
  refine va_get (D := (dC, dI)) (ci := 11) (v := .ref qt) (C := RX11) (T := TX11) (N := 19) hx hb hts (in_f_push16_X11) hown hK hP 0 rfl rfl 0 (by decide) (hts (.fieldLink RX11 9 "MotionSigns" "tape" "[B") (List.mem_of_getElem? (i := 2) rfl)) (fun _ h9 => h9) (mF.get hF_h0 1 rfl) dX11_push_25 ?_
  refine lv_aload_n hx hb dX11_push_28 rfl (lv_at hl 1 rfl) ?_
  refine va_get (D := (dC, dI)) (ci := 11) (v := .int 17) (C := RX11) (T := TX11) (N := 19) hx hb hts (in_f_push16_X11) hown hK hP 0 rfl rfl 1 (by decide) (hts (.fieldLink RX11 112 "MotionSigns" "tapeSize" "I") (List.mem_of_getElem? (i := 1) rfl)) (fun _ h9 => h9) (mF.get hF_h0 0 rfl) dX11_push_29 ?_
  refine lv_iload_n hx hb dX11_push_32 rfl (lv_at hl 2 rfl) ?_
  refine lv_iload_n hx hb dX11_push_33 rfl (lv_at hl 0 rfl) ?_
  refine lv_ishr hx hb dX11_push_34 ?_
  refine lv_topi (fun v_6 ev_6 => ?_)
  refine lv_i2b (v := v_6.toInt8.toInt32) hx hb dX11_push_35 rfl ?_
  refine va_bast hx hb hK hP hD hS 1 0 rfl rfl (by exact fun h => by rcases h with h | h <;> revert h <;> decide) dX11_push_36 ?_
  clear hP hD hS; try clear H
  intro H locs hP hD hS
  have hPx := hP; have hDx := hD
  obtain ⟨f_8, hPx, hDx⟩ : ∃ g : Nat → Int32, va_P (dC, dI) vwCl [(h0, .inr (11, fs_5)), (qt, .inl (kt, 200, .inl g))] H ∧ va_D A [(h0, .inr (11, fs_5)), (qt, .inl (kt, 200, .inl g))] := ⟨_, hP, hD⟩
  replace hP := hPx; replace hD := hDx; clear hPx hDx
  replace hP : va_P (dC, dI) vwCl [(h0, .inr (11, fs_5)), (qt, .inl (kt, 200, .inl f_8))] H := hP
  replace hD : va_D A [(h0, .inr (11, fs_5)), (qt, .inl (kt, 200, .inl f_8))] := hD
  refine lv_aload_n hx hb dX11_push_37 rfl (lv_at hl 1 rfl) ?_
  refine lv_dup hx hb dX11_push_38 rfl ?_
  refine va_get (D := (dC, dI)) (ci := 11) (v := .int 17) (C := RX11) (T := TX11) (N := 19) hx hb hts (in_f_push16_X11) hown hK hP 0 rfl rfl 1 (by decide) (hts (.fieldLink RX11 112 "MotionSigns" "tapeSize" "I") (List.mem_of_getElem? (i := 1) rfl)) (fun _ h9 => h9) (mF.get hF_h0 0 rfl) dX11_push_39 ?_
  refine lv_iconst (v := 1) hx hb dX11_push_42 (by decide) ?_
  refine lv_iadd hx hb dX11_push_43 ?_
  refine lv_topi (fun v_9 ev_9 => ?_)
  have ev_9 : v_9 = 18 := ev_9.trans (by decide)
  subst ev_9
  refine va_put (D := (dC, dI)) (ci := 11) (v := .int 18) (ty := .int) (C := RX11) (T := TX11) (N := 19) hx hb hts (in_f_push16_X11) tyX11 tyX11_ok nmX11 hown hK hP hD hS 0 rfl rfl 1 (by decide) (hts (.fieldLink RX11 112 "MotionSigns" "tapeSize" "I") (List.mem_of_getElem? (i := 1) rfl)) (fun _ h9 => h9) rfl (tyX11_ok 1 (by decide)) rfl rfl (mF.lt hF_h0 (by decide)) dX11_push_44 ?_
  clear hP hD hS; try clear H
  intro H locs hP hD hS
  have hF0 := mF.sub (L' := [(0, .ref qt)]) hF_h0 [1] rfl
  have hF1 := mF.put hF0 1 (.int 18) (by decide) rfl
  replace hP : va_P (dC, dI) vwCl [(h0, .inr (11, (fs_5.set 1 (.int 18)))), (qt, .inl (kt, 200, .inl f_8))] H := hP
  replace hD : va_D A [(h0, .inr (11, (fs_5.set 1 (.int 18)))), (qt, .inl (kt, 200, .inl f_8))] := hD
  generalize fs_5.set 1 (.int 18) = fs_10 at hP hD hF1
  replace hF_h0 : mF 19 [(1, .int 18), (0, .ref qt)] fs_10 := hF1
  clear hF1 hF0
  replace hP : va_P (dC, dI) vwCl [(h0, .inr (11, fs_10)), (qt, .inl (kt, 200, .inl f_8))] H := hP
  replace hD : va_D A [(h0, .inr (11, fs_10)), (qt, .inl (kt, 200, .inl f_8))] := hD
  refine lv_iinc (v := 8) (lv' := [(2, .int 8), (0, .ref h0), (1, .int x0)]) hx hb dX11_push_47 hl (k := 0) rfl (by decide) (by decide) rfl (fun ls hl => ?_)
  refine lv_goto (tgt := 3) hx hb dX11_push_50 (by decide) ?_
  refine lv_iload_n hx hb dX11_push_3 rfl (lv_at hl 0 rfl) ?_
  refine lv_if_lt (tgt := 53) hx hb dX11_push_4 (by decide) (fun hc => absurd hc (by decide)) (fun _ => ?_)
  refine lv_aload_n hx hb dX11_push_7 rfl (lv_at hl 1 rfl) ?_
  refine va_get (D := (dC, dI)) (ci := 11) (v := .int 18) (C := RX11) (T := TX11) (N := 19) hx hb hts (in_f_push16_X11) hown hK hP 0 rfl rfl 1 (by decide) (hts (.fieldLink RX11 112 "MotionSigns" "tapeSize" "I") (List.mem_of_getElem? (i := 1) rfl)) (fun _ h9 => h9) (mF.get hF_h0 0 rfl) dX11_push_8 ?_
  refine lv_if_lt (tgt := 47) hx hb dX11_push_11 (by decide) (fun hc => absurd hc (by decide)) (fun _ => ?_)
  refine lv_aload_n hx hb dX11_push_14 rfl (lv_at hl 1 rfl) ?_
  refine va_get (D := (dC, dI)) (ci := 11) (v := .int 18) (C := RX11) (T := TX11) (N := 19) hx hb hts (in_f_push16_X11) hown hK hP 0 rfl rfl 1 (by decide) (hts (.fieldLink RX11 112 "MotionSigns" "tapeSize" "I") (List.mem_of_getElem? (i := 1) rfl)) (fun _ h9 => h9) (mF.get hF_h0 0 rfl) dX11_push_15 ?_
  refine lv_sipush (v := 200) hx hb dX11_push_18 (by decide) ?_
  refine lv_icmp_ge (tgt := 47) hx hb dX11_push_21 (by decide) (fun hc => absurd hc (by decide)) (fun _ => ?_)
  refine lv_aload_n hx hb dX11_push_24 rfl (lv_at hl 1 rfl) ?_
  refine va_get (D := (dC, dI)) (ci := 11) (v := .ref qt) (C := RX11) (T := TX11) (N := 19) hx hb hts (in_f_push16_X11) hown hK hP 0 rfl rfl 0 (by decide) (hts (.fieldLink RX11 9 "MotionSigns" "tape" "[B") (List.mem_of_getElem? (i := 2) rfl)) (fun _ h9 => h9) (mF.get hF_h0 1 rfl) dX11_push_25 ?_
  refine lv_aload_n hx hb dX11_push_28 rfl (lv_at hl 1 rfl) ?_
  refine va_get (D := (dC, dI)) (ci := 11) (v := .int 18) (C := RX11) (T := TX11) (N := 19) hx hb hts (in_f_push16_X11) hown hK hP 0 rfl rfl 1 (by decide) (hts (.fieldLink RX11 112 "MotionSigns" "tapeSize" "I") (List.mem_of_getElem? (i := 1) rfl)) (fun _ h9 => h9) (mF.get hF_h0 0 rfl) dX11_push_29 ?_
  refine lv_iload_n hx hb dX11_push_32 rfl (lv_at hl 2 rfl) ?_
  refine lv_iload_n hx hb dX11_push_33 rfl (lv_at hl 0 rfl) ?_
  refine lv_ishr hx hb dX11_push_34 ?_
  refine lv_topi (fun v_11 ev_11 => ?_)
  refine lv_i2b (v := v_11.toInt8.toInt32) hx hb dX11_push_35 rfl ?_
  refine va_bast hx hb hK hP hD hS 1 0 rfl rfl (by exact fun h => by rcases h with h | h <;> revert h <;> decide) dX11_push_36 ?_
  clear hP hD hS; try clear H
  intro H locs hP hD hS
  have hPx := hP; have hDx := hD
  obtain ⟨f_13, hPx, hDx⟩ : ∃ g : Nat → Int32, va_P (dC, dI) vwCl [(h0, .inr (11, fs_10)), (qt, .inl (kt, 200, .inl g))] H ∧ va_D A [(h0, .inr (11, fs_10)), (qt, .inl (kt, 200, .inl g))] := ⟨_, hP, hD⟩
  replace hP := hPx; replace hD := hDx; clear hPx hDx
  replace hP : va_P (dC, dI) vwCl [(h0, .inr (11, fs_10)), (qt, .inl (kt, 200, .inl f_13))] H := hP
  replace hD : va_D A [(h0, .inr (11, fs_10)), (qt, .inl (kt, 200, .inl f_13))] := hD
  refine lv_aload_n hx hb dX11_push_37 rfl (lv_at hl 1 rfl) ?_
  refine lv_dup hx hb dX11_push_38 rfl ?_
  refine va_get (D := (dC, dI)) (ci := 11) (v := .int 18) (C := RX11) (T := TX11) (N := 19) hx hb hts (in_f_push16_X11) hown hK hP 0 rfl rfl 1 (by decide) (hts (.fieldLink RX11 112 "MotionSigns" "tapeSize" "I") (List.mem_of_getElem? (i := 1) rfl)) (fun _ h9 => h9) (mF.get hF_h0 0 rfl) dX11_push_39 ?_
  refine lv_iconst (v := 1) hx hb dX11_push_42 (by decide) ?_
  refine lv_iadd hx hb dX11_push_43 ?_
  refine lv_topi (fun v_14 ev_14 => ?_)
  have ev_14 : v_14 = 19 := ev_14.trans (by decide)
  subst ev_14
  refine va_put (D := (dC, dI)) (ci := 11) (v := .int 19) (ty := .int) (C := RX11) (T := TX11) (N := 19) hx hb hts (in_f_push16_X11) tyX11 tyX11_ok nmX11 hown hK hP hD hS 0 rfl rfl 1 (by decide) (hts (.fieldLink RX11 112 "MotionSigns" "tapeSize" "I") (List.mem_of_getElem? (i := 1) rfl)) (fun _ h9 => h9) rfl (tyX11_ok 1 (by decide)) rfl rfl (mF.lt hF_h0 (by decide)) dX11_push_44 ?_
  clear hP hD hS; try clear H
  intro H locs hP hD hS
  have hF0 := mF.sub (L' := [(0, .ref qt)]) hF_h0 [1] rfl
  have hF1 := mF.put hF0 1 (.int 19) (by decide) rfl
  replace hP : va_P (dC, dI) vwCl [(h0, .inr (11, (fs_10.set 1 (.int 19)))), (qt, .inl (kt, 200, .inl f_13))] H := hP
  replace hD : va_D A [(h0, .inr (11, (fs_10.set 1 (.int 19)))), (qt, .inl (kt, 200, .inl f_13))] := hD
  generalize fs_10.set 1 (.int 19) = fs_15 at hP hD hF1
  replace hF_h0 : mF 19 [(1, .int 19), (0, .ref qt)] fs_15 := hF1
  clear hF1 hF0
  replace hP : va_P (dC, dI) vwCl [(h0, .inr (11, fs_15)), (qt, .inl (kt, 200, .inl f_13))] H := hP
  replace hD : va_D A [(h0, .inr (11, fs_15)), (qt, .inl (kt, 200, .inl f_13))] := hD
  refine lv_iinc (v := 0) (lv' := [(2, .int 0), (0, .ref h0), (1, .int x0)]) hx hb dX11_push_47 hl (k := 0) rfl (by decide) (by decide) rfl (fun ls hl => ?_)
  refine lv_goto (tgt := 3) hx hb dX11_push_50 (by decide) ?_
  refine lv_iload_n hx hb dX11_push_3 rfl (lv_at hl 0 rfl) ?_
  refine lv_if_lt (tgt := 53) hx hb dX11_push_4 (by decide) (fun hc => absurd hc (by decide)) (fun _ => ?_)
  refine lv_aload_n hx hb dX11_push_7 rfl (lv_at hl 1 rfl) ?_
  refine va_get (D := (dC, dI)) (ci := 11) (v := .int 19) (C := RX11) (T := TX11) (N := 19) hx hb hts (in_f_push16_X11) hown hK hP 0 rfl rfl 1 (by decide) (hts (.fieldLink RX11 112 "MotionSigns" "tapeSize" "I") (List.mem_of_getElem? (i := 1) rfl)) (fun _ h9 => h9) (mF.get hF_h0 0 rfl) dX11_push_8 ?_
  refine lv_if_lt (tgt := 47) hx hb dX11_push_11 (by decide) (fun hc => absurd hc (by decide)) (fun _ => ?_)
  refine lv_aload_n hx hb dX11_push_14 rfl (lv_at hl 1 rfl) ?_
  refine va_get (D := (dC, dI)) (ci := 11) (v := .int 19) (C := RX11) (T := TX11) (N := 19) hx hb hts (in_f_push16_X11) hown hK hP 0 rfl rfl 1 (by decide) (hts (.fieldLink RX11 112 "MotionSigns" "tapeSize" "I") (List.mem_of_getElem? (i := 1) rfl)) (fun _ h9 => h9) (mF.get hF_h0 0 rfl) dX11_push_15 ?_
  refine lv_sipush (v := 200) hx hb dX11_push_18 (by decide) ?_
  refine lv_icmp_ge (tgt := 47) hx hb dX11_push_21 (by decide) (fun hc => absurd hc (by decide)) (fun _ => ?_)
  refine lv_aload_n hx hb dX11_push_24 rfl (lv_at hl 1 rfl) ?_
  refine va_get (D := (dC, dI)) (ci := 11) (v := .ref qt) (C := RX11) (T := TX11) (N := 19) hx hb hts (in_f_push16_X11) hown hK hP 0 rfl rfl 0 (by decide) (hts (.fieldLink RX11 9 "MotionSigns" "tape" "[B") (List.mem_of_getElem? (i := 2) rfl)) (fun _ h9 => h9) (mF.get hF_h0 1 rfl) dX11_push_25 ?_
  refine lv_aload_n hx hb dX11_push_28 rfl (lv_at hl 1 rfl) ?_
  refine va_get (D := (dC, dI)) (ci := 11) (v := .int 19) (C := RX11) (T := TX11) (N := 19) hx hb hts (in_f_push16_X11) hown hK hP 0 rfl rfl 1 (by decide) (hts (.fieldLink RX11 112 "MotionSigns" "tapeSize" "I") (List.mem_of_getElem? (i := 1) rfl)) (fun _ h9 => h9) (mF.get hF_h0 0 rfl) dX11_push_29 ?_
  refine lv_iload_n hx hb dX11_push_32 rfl (lv_at hl 2 rfl) ?_
  refine lv_iload_n hx hb dX11_push_33 rfl (lv_at hl 0 rfl) ?_
  refine lv_ishr hx hb dX11_push_34 ?_
  refine lv_topi (fun v_16 ev_16 => ?_)
  refine lv_i2b (v := v_16.toInt8.toInt32) hx hb dX11_push_35 rfl ?_
  refine va_bast hx hb hK hP hD hS 1 0 rfl rfl (by exact fun h => by rcases h with h | h <;> revert h <;> decide) dX11_push_36 ?_
  clear hP hD hS; try clear H
  intro H locs hP hD hS
  have hPx := hP; have hDx := hD
  obtain ⟨f_18, hPx, hDx⟩ : ∃ g : Nat → Int32, va_P (dC, dI) vwCl [(h0, .inr (11, fs_15)), (qt, .inl (kt, 200, .inl g))] H ∧ va_D A [(h0, .inr (11, fs_15)), (qt, .inl (kt, 200, .inl g))] := ⟨_, hP, hD⟩
  replace hP := hPx; replace hD := hDx; clear hPx hDx
  replace hP : va_P (dC, dI) vwCl [(h0, .inr (11, fs_15)), (qt, .inl (kt, 200, .inl f_18))] H := hP
  replace hD : va_D A [(h0, .inr (11, fs_15)), (qt, .inl (kt, 200, .inl f_18))] := hD
  refine lv_aload_n hx hb dX11_push_37 rfl (lv_at hl 1 rfl) ?_
  refine lv_dup hx hb dX11_push_38 rfl ?_
  refine va_get (D := (dC, dI)) (ci := 11) (v := .int 19) (C := RX11) (T := TX11) (N := 19) hx hb hts (in_f_push16_X11) hown hK hP 0 rfl rfl 1 (by decide) (hts (.fieldLink RX11 112 "MotionSigns" "tapeSize" "I") (List.mem_of_getElem? (i := 1) rfl)) (fun _ h9 => h9) (mF.get hF_h0 0 rfl) dX11_push_39 ?_
  refine lv_iconst (v := 1) hx hb dX11_push_42 (by decide) ?_
  refine lv_iadd hx hb dX11_push_43 ?_
  refine lv_topi (fun v_19 ev_19 => ?_)
  have ev_19 : v_19 = 20 := ev_19.trans (by decide)
  subst ev_19
  refine va_put (D := (dC, dI)) (ci := 11) (v := .int 20) (ty := .int) (C := RX11) (T := TX11) (N := 19) hx hb hts (in_f_push16_X11) tyX11 tyX11_ok nmX11 hown hK hP hD hS 0 rfl rfl 1 (by decide) (hts (.fieldLink RX11 112 "MotionSigns" "tapeSize" "I") (List.mem_of_getElem? (i := 1) rfl)) (fun _ h9 => h9) rfl (tyX11_ok 1 (by decide)) rfl rfl (mF.lt hF_h0 (by decide)) dX11_push_44 ?_
  clear hP hD hS; try clear H
  intro H locs hP hD hS
  have hF0 := mF.sub (L' := [(0, .ref qt)]) hF_h0 [1] rfl
  have hF1 := mF.put hF0 1 (.int 20) (by decide) rfl
  replace hP : va_P (dC, dI) vwCl [(h0, .inr (11, (fs_15.set 1 (.int 20)))), (qt, .inl (kt, 200, .inl f_18))] H := hP
  replace hD : va_D A [(h0, .inr (11, (fs_15.set 1 (.int 20)))), (qt, .inl (kt, 200, .inl f_18))] := hD
  generalize fs_15.set 1 (.int 20) = fs_20 at hP hD hF1
  replace hF_h0 : mF 19 [(1, .int 20), (0, .ref qt)] fs_20 := hF1
  clear hF1 hF0
  replace hP : va_P (dC, dI) vwCl [(h0, .inr (11, fs_20)), (qt, .inl (kt, 200, .inl f_18))] H := hP
  replace hD : va_D A [(h0, .inr (11, fs_20)), (qt, .inl (kt, 200, .inl f_18))] := hD
  refine lv_iinc (v := (-8)) (lv' := [(2, .int (-8)), (0, .ref h0), (1, .int x0)]) hx hb dX11_push_47 hl (k := 0) rfl (by decide) (by decide) rfl (fun ls hl => ?_)
  refine lv_goto (tgt := 3) hx hb dX11_push_50 (by decide) ?_
  refine lv_iload_n hx hb dX11_push_3 rfl (lv_at hl 0 rfl) ?_
  refine lv_if_lt (tgt := 53) hx hb dX11_push_4 (by decide) (fun _ => ?_) (fun hc => absurd (by decide) hc)
  have hP9 := hP.sub (ws' := [(h0, .inr (11, fs_20)), (qt, .inl (kt, 200, .inl f_18))]) [0, 1] rfl
  have hD9 := hD.sub (ws' := [(h0, .inr (11, fs_20)), (qt, .inl (kt, 200, .inl f_18))]) [0, 1] (by decide) rfl
  have hK9 := hK.sub (tys' := [(kt, .byte)]) [0] rfl
  rw [← hAe] at hD9
  refine W.widen (k := 0) (n := 0) (Nat.le_of_ble_eq_true rfl) (Nat.le_of_ble_eq_true rfl) ?_
  subst hAe
  exact (W.vret hx hb hr (fun t ht hW => ⟨⟨(), rfl, trivial, (f_18), fs_20, by rw [ht]; exact hP9, va_K.moved hW.alike hK9, hD9, (mF.sub hF_h0 [0, 1] rfl)⟩, hS.F ht⟩) hS.2.2 dX11_push_53)
def wv_f_feed : List Cond := .code yX11_feed cX11_feed 6 (some .int) :: ([.fieldLink RX11 112 "MotionSigns" "tapeSize" "I", .methodLink RX11 115 yX11_push, .instanceMethod yX11_push, .selects RX11 yX11_push yX11_push, .initialized RX11] ++ (wsX110 ++ (wv_f_push0 ++ (wv_f_push4 ++ (wv_f_push8 ++ (wv_f_push12 ++ (wv_f_push16 ++ ([]))))))))
theorem gw_f_feed : wv_f_feed.all goodWord = true := by decide +kernel
theorem in_f_feed_X11 : ∀ w ∈ wsX110, w ∈ wv_f_feed := fun _ h => List.mem_cons_of_mem _ (List.mem_append_right _ (List.mem_append_left _ h))
theorem g_f_feed_f_push0_115 : GoodIn wv_f_feed (wsV RX11 115 RX11 yX11_push wv_f_push0) := goodIn_app (goodIn_of _ (by decide +kernel)) (goodIn_sub (fun _ h => List.mem_cons_of_mem _ (List.mem_append_right _ (List.mem_append_right _ (List.mem_append_left _ h)))) gw_f_push0)
theorem g_f_feed_f_push4_115 : GoodIn wv_f_feed (wsV RX11 115 RX11 yX11_push wv_f_push4) := goodIn_app (goodIn_of _ (by decide +kernel)) (goodIn_sub (fun _ h => List.mem_cons_of_mem _ (List.mem_append_right _ (List.mem_append_right _ (List.mem_append_right _ (List.mem_append_left _ h))))) gw_f_push4)
theorem g_f_feed_f_push8_115 : GoodIn wv_f_feed (wsV RX11 115 RX11 yX11_push wv_f_push8) := goodIn_app (goodIn_of _ (by decide +kernel)) (goodIn_sub (fun _ h => List.mem_cons_of_mem _ (List.mem_append_right _ (List.mem_append_right _ (List.mem_append_right _ (List.mem_append_right _ (List.mem_append_left _ h)))))) gw_f_push8)
theorem g_f_feed_f_push12_115 : GoodIn wv_f_feed (wsV RX11 115 RX11 yX11_push wv_f_push12) := goodIn_app (goodIn_of _ (by decide +kernel)) (goodIn_sub (fun _ h => List.mem_cons_of_mem _ (List.mem_append_right _ (List.mem_append_right _ (List.mem_append_right _ (List.mem_append_right _ (List.mem_append_right _ (List.mem_append_left _ h))))))) gw_f_push12)
theorem g_f_feed_f_push16_115 : GoodIn wv_f_feed (wsV RX11 115 RX11 yX11_push wv_f_push16) := goodIn_app (goodIn_of _ (by decide +kernel)) (goodIn_sub (fun _ h => List.mem_cons_of_mem _ (List.mem_append_right _ (List.mem_append_right _ (List.mem_append_right _ (List.mem_append_right _ (List.mem_append_right _ (List.mem_append_right _ (List.mem_append_left _ h)))))))) gw_f_push16)
set_option maxHeartbeats 4000000 in
set_option maxRecDepth 100000 in
/-- feed -/
theorem c_f_feed (l : Launch) (dC : Nat → ClassId) (dI : Nat → Nat → Nat) (h0 : Nat) (qt : Nat) (kt : Nat) (x0 : Int32) (x1 : Int32) (x2 : Int32) (x3 : Int32) (x4 : Int32) (ft : Nat → Int32) (fs_h0 : List Value) (hF_h0 : mF 19 [(1, .int 0), (0, .ref qt)] fs_h0) (sz : Nat) : Met l yX11_feed wv_f_feed ({ frames := 1, cells := 0, slots := 0, locals := 22 }) (va_Pc [.ref h0, .int x0, .int x1, .int x2, .int x3, .int x4] (fun U => U.heap.size = sz ∧ va_P (dC, dI) vwCl [(h0, .inr (11, fs_h0)), (qt, .inl (kt, 200, .inl ft))] U.heap ∧ va_K (dC, dI) vwCl [(kt, .byte)] U ∧ va_D (fun _ => True) [(h0, .inr (11, fs_h0)), (qt, .inl (kt, 200, .inl ft))] ∧ w_N U)) (va_Qi (fun (r : Int32) (_ : Unit) => r = 20) (fun _ t => va_P (dC, dI) vwCl [] t.heap ∧ va_K (dC, dI) vwCl [] t ∧ va_D (va_A [(h0, .inr (11, fs_h0)), (qt, .inl (kt, 200, .inl ft))] sz) []) (va_A [(h0, .inr (11, fs_h0)), (qt, .inl (kt, 200, .inl ft))] sz)) 0 0 (va_A [(h0, .inr (11, fs_h0)), (qt, .inl (kt, 200, .inl ft))] sz) := by
  refine Met.ofW (cc := cX11_feed) (maxL := 6) (ret := (some .int)) (by decide) rfl ?_
  intro p e s m args below meth c s₁ B hml hv
  obtain ⟨rfl, hsz, hP, hK, hD0, hN⟩ := hv
  have hx := B.exec
  have hb := B.bytes
  have hr := B.returns
  have hts := atoms_spec (ws := wv_f_feed) B.pre
  have hown : s.vm.findClass RX11 = some m.cls := findClass_of_methodNamed B.named
  have hlocks := B.notSynchronized
  subst hsz
  have hD := hD0.self (sz := s.heap.size)
  generalize hAe : va_A [(h0, .inr (11, fs_h0)), (qt, .inl (kt, 200, .inl ft))] s.heap.size = A at hD ⊢
  have hA : ∀ q : Nat, s.heap.size ≤ q → A q := fun q h => by rw [← hAe]; exact Or.inr h
  obtain ⟨H, hHe, hP, hS⟩ : ∃ H : Heap, H = s.heap ∧ va_P (dC, dI) vwCl [(h0, .inr (11, fs_h0)), (qt, .inl (kt, 200, .inl ft))] H ∧ va_S A s.heap H [] := ⟨s.heap, rfl, hP, va_S.rf⟩
  have hl := lv_entry ([.ref h0, .int x0, .int x1, .int x2, .int x3, .int x4]) (n := 6) (Nat.le_of_ble_eq_true rfl)
  rw [lg_entry_eq]
  generalize (lg_sl ([.ref h0, .int x0, .int x1, .int x2, .int x3, .int x4]) ++ List.replicate (6 - (lg_sl ([.ref h0, .int x0, .int x1, .int x2, .int x3, .int x4])).length) Slot.unset).toArray = ls at hl ⊢
  have hl : lv_has ls 6 [(0, .ref h0), (1, .int x0), (2, .int x1), (3, .int x2), (4, .int x3), (5, .int x4)] := hl
  rw [← hHe]; clear hHe
  refine lv_aload_n hx hb dX11_feed_0 rfl (lv_at hl 0 rfl) ?_
  refine va_get (D := (dC, dI)) (ci := 11) (v := .int 0) (C := RX11) (T := TX11) (N := 19) hx hb hts (in_f_feed_X11) hown hK hP 0 rfl rfl 1 (by decide) (hts (.fieldLink RX11 112 "MotionSigns" "tapeSize" "I") (List.mem_of_getElem? (i := 1) rfl)) (fun _ h9 => h9) (mF.get hF_h0 0 rfl) dX11_feed_1 ?_
  refine lv_bipush (v := 20) hx hb dX11_feed_4 (by decide) ?_
  refine lv_iadd hx hb dX11_feed_6 ?_
  refine lv_topi (fun v_1 ev_1 => ?_)
  have ev_1 : v_1 = 20 := ev_1.trans (by decide)
  subst ev_1
  refine lv_sipush (v := 200) hx hb dX11_feed_7 (by decide) ?_
  refine lv_icmp_le (tgt := 15) hx hb dX11_feed_10 (by decide) (fun _ => ?_) (fun hc => absurd (by decide) hc)
  refine lv_aload_n hx hb dX11_feed_15 rfl (lv_at hl 0 rfl) ?_
  refine lv_iload_n hx hb dX11_feed_16 rfl (lv_at hl 1 rfl) ?_
  have hPc := hP.sub (ws' := [(h0, .inr (11, fs_h0)), (qt, .inl (kt, 200, .inl ft))]) [0, 1] rfl
  have hDc := hD.sub (ws' := [(h0, .inr (11, fs_h0)), (qt, .inl (kt, 200, .inl ft))]) [0, 1] (by decide) rfl
  have hKc := hK.sub (tys' := [(kt, .byte)]) [0] rfl
  have hFc := va_free (wc := [(h0, .inr (11, fs_h0)), (qt, .inl (kt, 200, .inl ft))]) hD hS hA [0, 1] rfl
  refine va_callv (va_runV (As := [.int x0]) (rest := []) ⟨hx, hb, hml, hown, hts⟩ (c_f_push0 l dC dI h0 qt kt x0 ft fs_h0 (mF.sub hF_h0 [0, 1] rfl) H.size) (cwV 1 hts g_f_feed_f_push0_115 rfl rfl rfl hv_X11_push ⟨Nat.le_of_ble_eq_true rfl, Nat.le_of_ble_eq_true rfl⟩) ⟨fun a U g mk q => by obtain ⟨q0, q1, qP, qK, qD, qE0⟩ := q; exact ⟨q0, q1, qP, va_K.moved (u := U) (U := U.calling g mk a) (Vm.Alike.refl U.vm) qK, qD, w_N.same rfl qE0⟩, va_recv hKc hPc (ci := 11) (q0 := 0) rfl rfl, fun U hU hW => ⟨rfl, by rw [hU], by rw [hU]; exact hPc, va_K.moved hW.alike hKc, hDc.weaken (fun _ _ _ _ => trivial), w_N.warm hW hN⟩⟩ rfl rfl hl.1 rfl (lv_room (Nat.le_of_ble_eq_true rfl)) dX11_feed_17 ⟨(Nat.le_of_ble_eq_true rfl), (Nat.le_of_ble_eq_true rfl)⟩) hS (fun q _ h => hFc q h) hFc (fun u t H1 locs1 ht hvm hw hB hz1 hk1 hS1 => ?_)
  obtain ⟨f_2, fs_3, hP1, hK1, hD1, hp_4⟩ := hB
  rw [ht] at hP1
  have hK1 := va_K.moved hvm.symm hK1
  have hJ := va_join (wr := []) (w1 := [(h0, .inr (11, fs_3)), (qt, .inl (kt, 200, .inl f_2))]) hP hD [0, 1] [] rfl rfl (by decide) (by decide) hk1 hFc hP1 hD1
  clear hP hD hPc hDc hKc hFc hz1; try clear hk1
  obtain ⟨hP, hD⟩ := hJ
  replace hK := (hK.sub (tys' := [(kt, .byte)]) [0] rfl).app (hK1.sub (tys' := []) [] rfl)
  clear hP1 hK1 hD1 hvm ht hS; try clear t
  try clear H
  revert hS1
  intro hS
  generalize H1 = H at hP hS ⊢; try clear H1
  replace hP : va_P (dC, dI) vwCl [(h0, .inr (11, fs_3)), (qt, .inl (kt, 200, .inl f_2))] H := hP
  replace hD : va_D A [(h0, .inr (11, fs_3)), (qt, .inl (kt, 200, .inl f_2))] := hD
  replace hK : va_K (dC, dI) vwCl [(kt, .byte)] s := hK
  have hw_5 : True := hw; clear hw
  refine lv_aload_n hx hb dX11_feed_20 rfl (lv_at hl 0 rfl) ?_
  refine lv_iload_n hx hb dX11_feed_21 rfl (lv_at hl 2 rfl) ?_
  have hPc := hP.sub (ws' := [(h0, .inr (11, fs_3)), (qt, .inl (kt, 200, .inl f_2))]) [0, 1] rfl
  have hDc := hD.sub (ws' := [(h0, .inr (11, fs_3)), (qt, .inl (kt, 200, .inl f_2))]) [0, 1] (by decide) rfl
  have hKc := hK.sub (tys' := [(kt, .byte)]) [0] rfl
  have hFc := va_free (wc := [(h0, .inr (11, fs_3)), (qt, .inl (kt, 200, .inl f_2))]) hD hS hA [0, 1] rfl
  refine va_callv (va_runV (As := [.int x1]) (rest := []) ⟨hx, hb, hml, hown, hts⟩ (c_f_push4 l dC dI h0 qt kt x1 f_2 fs_3 (mF.sub hp_4 [0, 1] rfl) H.size) (cwV 1 hts g_f_feed_f_push4_115 rfl rfl rfl hv_X11_push ⟨Nat.le_of_ble_eq_true rfl, Nat.le_of_ble_eq_true rfl⟩) ⟨fun a U g mk q => by obtain ⟨q0, q1, qP, qK, qD, qE0⟩ := q; exact ⟨q0, q1, qP, va_K.moved (u := U) (U := U.calling g mk a) (Vm.Alike.refl U.vm) qK, qD, w_N.same rfl qE0⟩, va_recv hKc hPc (ci := 11) (q0 := 0) rfl rfl, fun U hU hW => ⟨rfl, by rw [hU], by rw [hU]; exact hPc, va_K.moved hW.alike hKc, hDc.weaken (fun _ _ _ _ => trivial), w_N.warm hW hN⟩⟩ rfl rfl hl.1 rfl (lv_room (Nat.le_of_ble_eq_true rfl)) dX11_feed_22 ⟨(Nat.le_of_ble_eq_true rfl), (Nat.le_of_ble_eq_true rfl)⟩) hS (fun q _ h => hFc q h) hFc (fun u t H1 locs1 ht hvm hw hB hz1 hk1 hS1 => ?_)
  obtain ⟨f_6, fs_7, hP1, hK1, hD1, hp_8⟩ := hB
  rw [ht] at hP1
  have hK1 := va_K.moved hvm.symm hK1
  have hJ := va_join (wr := []) (w1 := [(h0, .inr (11, fs_7)), (qt, .inl (kt, 200, .inl f_6))]) hP hD [0, 1] [] rfl rfl (by decide) (by decide) hk1 hFc hP1 hD1
  clear hP hD hPc hDc hKc hFc hz1; try clear hk1
  obtain ⟨hP, hD⟩ := hJ
  replace hK := (hK.sub (tys' := [(kt, .byte)]) [0] rfl).app (hK1.sub (tys' := []) [] rfl)
  clear hP1 hK1 hD1 hvm ht hS; try clear t
  try clear H
  revert hS1
  intro hS
  generalize H1 = H at hP hS ⊢; try clear H1
  replace hP : va_P (dC, dI) vwCl [(h0, .inr (11, fs_7)), (qt, .inl (kt, 200, .inl f_6))] H := hP
  replace hD : va_D A [(h0, .inr (11, fs_7)), (qt, .inl (kt, 200, .inl f_6))] := hD
  replace hK : va_K (dC, dI) vwCl [(kt, .byte)] s := hK
  have hw_9 : True := hw; clear hw
  refine lv_aload_n hx hb dX11_feed_25 rfl (lv_at hl 0 rfl) ?_
  refine lv_iload_n hx hb dX11_feed_26 rfl (lv_at hl 3 rfl) ?_
  have hPc := hP.sub (ws' := [(h0, .inr (11, fs_7)), (qt, .inl (kt, 200, .inl f_6))]) [0, 1] rfl
  have hDc := hD.sub (ws' := [(h0, .inr (11, fs_7)), (qt, .inl (kt, 200, .inl f_6))]) [0, 1] (by decide) rfl
  have hKc := hK.sub (tys' := [(kt, .byte)]) [0] rfl
  have hFc := va_free (wc := [(h0, .inr (11, fs_7)), (qt, .inl (kt, 200, .inl f_6))]) hD hS hA [0, 1] rfl
  refine va_callv (va_runV (As := [.int x2]) (rest := []) ⟨hx, hb, hml, hown, hts⟩ (c_f_push8 l dC dI h0 qt kt x2 f_6 fs_7 (mF.sub hp_8 [0, 1] rfl) H.size) (cwV 1 hts g_f_feed_f_push8_115 rfl rfl rfl hv_X11_push ⟨Nat.le_of_ble_eq_true rfl, Nat.le_of_ble_eq_true rfl⟩) ⟨fun a U g mk q => by obtain ⟨q0, q1, qP, qK, qD, qE0⟩ := q; exact ⟨q0, q1, qP, va_K.moved (u := U) (U := U.calling g mk a) (Vm.Alike.refl U.vm) qK, qD, w_N.same rfl qE0⟩, va_recv hKc hPc (ci := 11) (q0 := 0) rfl rfl, fun U hU hW => ⟨rfl, by rw [hU], by rw [hU]; exact hPc, va_K.moved hW.alike hKc, hDc.weaken (fun _ _ _ _ => trivial), w_N.warm hW hN⟩⟩ rfl rfl hl.1 rfl (lv_room (Nat.le_of_ble_eq_true rfl)) dX11_feed_27 ⟨(Nat.le_of_ble_eq_true rfl), (Nat.le_of_ble_eq_true rfl)⟩) hS (fun q _ h => hFc q h) hFc (fun u t H1 locs1 ht hvm hw hB hz1 hk1 hS1 => ?_)
  obtain ⟨f_10, fs_11, hP1, hK1, hD1, hp_12⟩ := hB
  rw [ht] at hP1
  have hK1 := va_K.moved hvm.symm hK1
  have hJ := va_join (wr := []) (w1 := [(h0, .inr (11, fs_11)), (qt, .inl (kt, 200, .inl f_10))]) hP hD [0, 1] [] rfl rfl (by decide) (by decide) hk1 hFc hP1 hD1
  clear hP hD hPc hDc hKc hFc hz1; try clear hk1
  obtain ⟨hP, hD⟩ := hJ
  replace hK := (hK.sub (tys' := [(kt, .byte)]) [0] rfl).app (hK1.sub (tys' := []) [] rfl)
  clear hP1 hK1 hD1 hvm ht hS; try clear t
  try clear H
  revert hS1
  intro hS
  generalize H1 = H at hP hS ⊢; try clear H1
  replace hP : va_P (dC, dI) vwCl [(h0, .inr (11, fs_11)), (qt, .inl (kt, 200, .inl f_10))] H := hP
  replace hD : va_D A [(h0, .inr (11, fs_11)), (qt, .inl (kt, 200, .inl f_10))] := hD
  replace hK : va_K (dC, dI) vwCl [(kt, .byte)] s := hK
  have hw_13 : True := hw; clear hw
  refine lv_aload_n hx hb dX11_feed_30 rfl (lv_at hl 0 rfl) ?_
  refine lv_iload hx hb dX11_feed_31 (lv_at hl 4 rfl) ?_
  have hPc := hP.sub (ws' := [(h0, .inr (11, fs_11)), (qt, .inl (kt, 200, .inl f_10))]) [0, 1] rfl
  have hDc := hD.sub (ws' := [(h0, .inr (11, fs_11)), (qt, .inl (kt, 200, .inl f_10))]) [0, 1] (by decide) rfl
  have hKc := hK.sub (tys' := [(kt, .byte)]) [0] rfl
  have hFc := va_free (wc := [(h0, .inr (11, fs_11)), (qt, .inl (kt, 200, .inl f_10))]) hD hS hA [0, 1] rfl
  refine va_callv (va_runV (As := [.int x3]) (rest := []) ⟨hx, hb, hml, hown, hts⟩ (c_f_push12 l dC dI h0 qt kt x3 f_10 fs_11 (mF.sub hp_12 [0, 1] rfl) H.size) (cwV 1 hts g_f_feed_f_push12_115 rfl rfl rfl hv_X11_push ⟨Nat.le_of_ble_eq_true rfl, Nat.le_of_ble_eq_true rfl⟩) ⟨fun a U g mk q => by obtain ⟨q0, q1, qP, qK, qD, qE0⟩ := q; exact ⟨q0, q1, qP, va_K.moved (u := U) (U := U.calling g mk a) (Vm.Alike.refl U.vm) qK, qD, w_N.same rfl qE0⟩, va_recv hKc hPc (ci := 11) (q0 := 0) rfl rfl, fun U hU hW => ⟨rfl, by rw [hU], by rw [hU]; exact hPc, va_K.moved hW.alike hKc, hDc.weaken (fun _ _ _ _ => trivial), w_N.warm hW hN⟩⟩ rfl rfl hl.1 rfl (lv_room (Nat.le_of_ble_eq_true rfl)) dX11_feed_33 ⟨(Nat.le_of_ble_eq_true rfl), (Nat.le_of_ble_eq_true rfl)⟩) hS (fun q _ h => hFc q h) hFc (fun u t H1 locs1 ht hvm hw hB hz1 hk1 hS1 => ?_)
  obtain ⟨f_14, fs_15, hP1, hK1, hD1, hp_16⟩ := hB
  rw [ht] at hP1
  have hK1 := va_K.moved hvm.symm hK1
  have hJ := va_join (wr := []) (w1 := [(h0, .inr (11, fs_15)), (qt, .inl (kt, 200, .inl f_14))]) hP hD [0, 1] [] rfl rfl (by decide) (by decide) hk1 hFc hP1 hD1
  clear hP hD hPc hDc hKc hFc hz1; try clear hk1
  obtain ⟨hP, hD⟩ := hJ
  replace hK := (hK.sub (tys' := [(kt, .byte)]) [0] rfl).app (hK1.sub (tys' := []) [] rfl)
  clear hP1 hK1 hD1 hvm ht hS; try clear t
  try clear H
  revert hS1
  intro hS
  generalize H1 = H at hP hS ⊢; try clear H1
  replace hP : va_P (dC, dI) vwCl [(h0, .inr (11, fs_15)), (qt, .inl (kt, 200, .inl f_14))] H := hP
  replace hD : va_D A [(h0, .inr (11, fs_15)), (qt, .inl (kt, 200, .inl f_14))] := hD
  replace hK : va_K (dC, dI) vwCl [(kt, .byte)] s := hK
  have hw_17 : True := hw; clear hw
  refine lv_aload_n hx hb dX11_feed_36 rfl (lv_at hl 0 rfl) ?_
  refine lv_iload hx hb dX11_feed_37 (lv_at hl 5 rfl) ?_
  have hPc := hP.sub (ws' := [(h0, .inr (11, fs_15)), (qt, .inl (kt, 200, .inl f_14))]) [0, 1] rfl
  have hDc := hD.sub (ws' := [(h0, .inr (11, fs_15)), (qt, .inl (kt, 200, .inl f_14))]) [0, 1] (by decide) rfl
  have hKc := hK.sub (tys' := [(kt, .byte)]) [0] rfl
  have hFc := va_free (wc := [(h0, .inr (11, fs_15)), (qt, .inl (kt, 200, .inl f_14))]) hD hS hA [0, 1] rfl
  refine va_callv (va_runV (As := [.int x4]) (rest := []) ⟨hx, hb, hml, hown, hts⟩ (c_f_push16 l dC dI h0 qt kt x4 f_14 fs_15 (mF.sub hp_16 [0, 1] rfl) H.size) (cwV 1 hts g_f_feed_f_push16_115 rfl rfl rfl hv_X11_push ⟨Nat.le_of_ble_eq_true rfl, Nat.le_of_ble_eq_true rfl⟩) ⟨fun a U g mk q => by obtain ⟨q0, q1, qP, qK, qD, qE0⟩ := q; exact ⟨q0, q1, qP, va_K.moved (u := U) (U := U.calling g mk a) (Vm.Alike.refl U.vm) qK, qD, w_N.same rfl qE0⟩, va_recv hKc hPc (ci := 11) (q0 := 0) rfl rfl, fun U hU hW => ⟨rfl, by rw [hU], by rw [hU]; exact hPc, va_K.moved hW.alike hKc, hDc.weaken (fun _ _ _ _ => trivial), w_N.warm hW hN⟩⟩ rfl rfl hl.1 rfl (lv_room (Nat.le_of_ble_eq_true rfl)) dX11_feed_39 ⟨(Nat.le_of_ble_eq_true rfl), (Nat.le_of_ble_eq_true rfl)⟩) hS (fun q _ h => hFc q h) hFc (fun u t H1 locs1 ht hvm hw hB hz1 hk1 hS1 => ?_)
  obtain ⟨f_18, fs_19, hP1, hK1, hD1, hp_20⟩ := hB
  rw [ht] at hP1
  have hK1 := va_K.moved hvm.symm hK1
  have hJ := va_join (wr := []) (w1 := [(h0, .inr (11, fs_19)), (qt, .inl (kt, 200, .inl f_18))]) hP hD [0, 1] [] rfl rfl (by decide) (by decide) hk1 hFc hP1 hD1
  clear hP hD hPc hDc hKc hFc hz1; try clear hk1
  obtain ⟨hP, hD⟩ := hJ
  replace hK := (hK.sub (tys' := [(kt, .byte)]) [0] rfl).app (hK1.sub (tys' := []) [] rfl)
  clear hP1 hK1 hD1 hvm ht hS; try clear t
  try clear H
  revert hS1
  intro hS
  generalize H1 = H at hP hS ⊢; try clear H1
  replace hP : va_P (dC, dI) vwCl [(h0, .inr (11, fs_19)), (qt, .inl (kt, 200, .inl f_18))] H := hP
  replace hD : va_D A [(h0, .inr (11, fs_19)), (qt, .inl (kt, 200, .inl f_18))] := hD
  replace hK : va_K (dC, dI) vwCl [(kt, .byte)] s := hK
  have hw_21 : True := hw; clear hw
  refine lv_aload_n hx hb dX11_feed_42 rfl (lv_at hl 0 rfl) ?_
  refine va_get (D := (dC, dI)) (ci := 11) (v := .int 20) (C := RX11) (T := TX11) (N := 19) hx hb hts (in_f_feed_X11) hown hK hP 0 rfl rfl 1 (by decide) (hts (.fieldLink RX11 112 "MotionSigns" "tapeSize" "I") (List.mem_of_getElem? (i := 1) rfl)) (fun _ h9 => h9) (mF.get hp_20 0 rfl) dX11_feed_43 ?_
  have hP9 := hP.sub (ws' := []) [] rfl
  have hD9 := hD.sub (ws' := []) [] (by decide) rfl
  have hK9 := hK.sub (tys' := []) [] rfl
  rw [← hAe] at hD9
  refine W.widen (k := 0) (n := 0) (Nat.le_of_ble_eq_true rfl) (Nat.le_of_ble_eq_true rfl) ?_
  subst hAe
  exact (W.iret (v := 20) hx hb hr (fun t ht hW => ⟨⟨20, (), rfl, rfl, by rw [ht]; exact hP9, va_K.moved hW.alike hK9, hD9⟩, hS.F ht⟩) hS.2.2 dX11_feed_46)
