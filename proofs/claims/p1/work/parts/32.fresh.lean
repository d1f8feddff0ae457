def wv_f_needEquation : List Cond := .code yX11_needEquation cX11_needEquation 1 none :: ([.fieldLink RX11 50 "MotionSigns" "change" "LMotionSigns$Change;", .classLink RX11 320 "java/lang/IllegalStateException", .initialized "java/lang/IllegalStateException"] ++ (wsX110 ++ (wsX20 ++ (wt_ISE ++ ([])))))
theorem gw_f_needEquation : wv_f_needEquation.all goodWord = true := by decide +kernel
theorem in_f_needEquation_X11 : ∀ w ∈ wsX110, w ∈ wv_f_needEquation := fun _ h => List.mem_cons_of_mem _ (List.mem_append_right _ (List.mem_append_left _ h))
theorem in_f_needEquation_X2 : ∀ w ∈ wsX20, w ∈ wv_f_needEquation := fun _ h => List.mem_cons_of_mem _ (List.mem_append_right _ (List.mem_append_right _ (List.mem_append_left _ h)))
set_option maxHeartbeats 4000000 in
set_option maxRecDepth 100000 in
/-- needEquation on a fresh object: it throws -/
theorem c_f_needEquation (l : Launch) (hlt : l.stackTraces = false) (dC : Nat → ClassId) (dI : Nat → Nat → Nat) (h0 : Nat) (qC : Nat) (fs_h0 : List Value) (fs_qC : List Value) (hF_h0 : mF 19 [(7, .ref qC)] fs_h0) (hF_qC : mF 13 [(8, .int 0)] fs_qC) (sz : Nat) : vx_Met l yX11_needEquation wv_f_needEquation ({ frames := 6, cells := 1, slots := 6, locals := 90 }) (va_Pc [.ref h0] (fun U => U.heap.size = sz ∧ va_P (dC, dI) vwCl [(h0, .inr (11, fs_h0)), (qC, .inr (2, fs_qC))] U.heap ∧ va_K (dC, dI) vwCl [] U ∧ va_D (fun _ => True) [(h0, .inr (11, fs_h0)), (qC, .inr (2, fs_qC))] ∧ w_N U ∧ w_T (va_A [(h0, .inr (11, fs_h0)), (qC, .inr (2, fs_qC))] sz) U U.heap)) (va_Qv (fun (_ : Unit) => False) (fun _ t => va_P (dC, dI) vwCl [] t.heap ∧ va_K (dC, dI) vwCl [] t ∧ va_D (va_A [(h0, .inr (11, fs_h0)), (qC, .inr (2, fs_qC))] sz) []) (va_A [(h0, .inr (11, fs_h0)), (qC, .inr (2, fs_qC))] sz)) (vx_X (fun _ : Unit => True) (fun E _ _ => E = "java/lang/IllegalStateException") (va_A [(h0, .inr (11, fs_h0)), (qC, .inr (2, fs_qC))] sz)) 1 6 (va_A [(h0, .inr (11, fs_h0)), (qC, .inr (2, fs_qC))] sz) := by
  refine vx_ofW (cc := cX11_needEquation) (maxL := 1) (ret := none) (by decide) rfl ?_
  intro p e s m args below meth c s₁ B hml hnt hv
  obtain ⟨rfl, hsz, hP, hK, hD0, hN, hT⟩ := hv
  have hx := B.exec
  have hb := B.bytes
  have hr := B.returns
  have hts := atoms_spec (ws := wv_f_needEquation) B.pre
  have hown : s.vm.findClass RX11 = some m.cls := findClass_of_methodNamed B.named
  have hlocks := B.notSynchronized
  subst hsz
  have hD := hD0.self (sz := s.heap.size)
  generalize hAe : va_A [(h0, .inr (11, fs_h0)), (qC, .inr (2, fs_qC))] s.heap.size = A at hD hT ⊢
  have hA : ∀ q : Nat, s.heap.size ≤ q → A q := fun q h => by rw [← hAe]; exact Or.inr h
  have hS : va_S A s.heap s.heap [] := va_S.rf
  have hP : va_P (dC, dI) vwCl [(h0, .inr (11, fs_h0)), (qC, .inr (2, fs_qC))] s.heap := hP
  have hl := lv_entry ([.ref h0]) (n := 1) (Nat.le_of_ble_eq_true rfl)
  rw [lg_entry_eq]
  generalize (lg_sl ([.ref h0]) ++ List.replicate (1 - (lg_sl ([.ref h0])).length) Slot.unset).toArray = ls at hl ⊢
  have hl : lv_has ls 1 [(0, .ref h0)] := hl
  refine lv_aload_n hx hb dX11_needEquation_0 rfl (lv_at hl 0 rfl) ?_
  refine va_get (D := (dC, dI)) (ci := 11) (v := .ref qC) (C := RX11) (T := TX11) (N := 19) hx hb hts (in_f_needEquation_X11) hown hK hP 0 rfl rfl 7 (by decide) (hts (.fieldLink RX11 50 "MotionSigns" "change" "LMotionSigns$Change;") (List.mem_of_getElem? (i := 1) rfl)) (fun _ h9 => h9) (mF.get hF_h0 0 rfl) dX11_needEquation_1 ?_
  refine va_getN (D := (dC, dI)) (ci := 2) (v := .int 0) (C := RX2) (T := TX2) (N := 13) hx hb hts (in_f_needEquation_X2) hown hK hP 1 rfl rfl 8 (by decide) (va_Nw.use rfl (hN.2.1 (RX11, 162, RX2, "sort", "I", RX11) (List.mem_of_getElem? (i := 28) rfl))) (fun _ h9 => h9) (mF.get hF_qC 0 rfl) dX11_needEquation_4 ?_
  refine lv_if_ne (tgt := 21) hx hb dX11_needEquation_7 (by decide) (fun hc => absurd hc (by decide)) (fun _ => ?_)
  obtain ⟨sa9, hsa9⟩ := hT.2.2.1 (322, "no equation") (List.mem_of_getElem? (i := 0) rfl)
  exact vx_throwSW hx hb hlt (own := RX11) (cls := "java/lang/IllegalStateException") (text := "no equation") (names := exn) (ik := 320) (is := 322) (ic := 324) (sa := sa9) hown (by decide +kernel) exn_fit (hts (.classLink RX11 320 "java/lang/IllegalStateException") (List.mem_of_getElem? (i := 2) rfl)) (hts (.initialized "java/lang/IllegalStateException") (List.mem_of_getElem? (i := 3) rfl)) hsa9 (vx_hat (fun w h => hts w (List.mem_cons_of_mem _ (List.mem_append_right _ (List.mem_append_right _ (List.mem_append_right _ (List.mem_append_left _ h)))))) tb_ISE (tc_ISE hT)) tg_ISE hT.1 hT.2.1 hS (by rw [hml]; exact hl.1) dX11_needEquation_10 dX11_needEquation_13 dX11_needEquation_14 dX11_needEquation_17 dX11_needEquation_20 (fun x hx9 => (hnt x hx9).elim) (Nat.le_of_ble_eq_true rfl) (Nat.le_of_ble_eq_true rfl) (Nat.le_of_ble_eq_true rfl) (Nat.le_of_ble_eq_true rfl) hlocks (fun t9 hW9 hz9 hk9 => ⟨(), trivial, rfl, Nat.le_trans hS.1 hz9, fun q9 hq9 hA9 => (hk9 q9 (Nat.lt_of_lt_of_le hq9 hS.1)).trans (hS.2.1 q9 hq9 hA9)⟩) hS.2.2 (Nat.le_of_ble_eq_true rfl) (Nat.le_of_ble_eq_true rfl)
def wv_f_baseOf : List Cond := .code yX11_baseOf cX11_baseOf 4 (some (.object "MotionSigns$Fields")) :: ([.methodLink RX11 159 yX11_needEquation, .instanceMethod yX11_needEquation, .selects RX11 yX11_needEquation yX11_needEquation, .initialized RX11] ++ (wv_f_needEquation ++ ([])))
theorem gw_f_baseOf : wv_f_baseOf.all goodWord = true := by decide +kernel
theorem g_f_baseOf_f_needEquation_159 : GoodIn wv_f_baseOf (wsV RX11 159 RX11 yX11_needEquation wv_f_needEquation) := goodIn_app (goodIn_of _ (by decide +kernel)) (goodIn_sub (fun _ h => List.mem_cons_of_mem _ (List.mem_append_right _ (List.mem_append_left _ h))) gw_f_needEquation)
set_option maxHeartbeats 4000000 in
set_option maxRecDepth 100000 in
/-- baseOf on a fresh object: it throws -/
theorem c_f_baseOf (l : Launch) (hlt : l.stackTraces = false) (dC : Nat → ClassId) (dI : Nat → Nat → Nat) (h0 : Nat) (qC : Nat) (x0 : Int32) (fs_h0 : List Value) (fs_qC : List Value) (hF_h0 : mF 19 [(7, .ref qC)] fs_h0) (hF_qC : mF 13 [(8, .int 0)] fs_qC) (sz : Nat) : vx_Met l yX11_baseOf wv_f_baseOf ({ frames := 7, cells := 1, slots := 6, locals := 110 }) (va_Pc [.ref h0, .int x0] (fun U => U.heap.size = sz ∧ va_P (dC, dI) vwCl [(h0, .inr (11, fs_h0)), (qC, .inr (2, fs_qC))] U.heap ∧ va_K (dC, dI) vwCl [] U ∧ va_D (fun _ => True) [(h0, .inr (11, fs_h0)), (qC, .inr (2, fs_qC))] ∧ w_N U ∧ w_T (va_A [(h0, .inr (11, fs_h0)), (qC, .inr (2, fs_qC))] sz) U U.heap)) (va_Qr (fun (_ : Unit) => False) (fun _ r t => va_P (dC, dI) vwCl [] t.heap ∧ va_K (dC, dI) vwCl [] t ∧ va_D (va_A [(h0, .inr (11, fs_h0)), (qC, .inr (2, fs_qC))] sz) []) (va_A [(h0, .inr (11, fs_h0)), (qC, .inr (2, fs_qC))] sz)) (vx_X (fun _ : Unit => True) (fun E _ _ => E = "java/lang/IllegalStateException") (va_A [(h0, .inr (11, fs_h0)), (qC, .inr (2, fs_qC))] sz)) 1 6 (va_A [(h0, .inr (11, fs_h0)), (qC, .inr (2, fs_qC))] sz) := by
  refine vx_ofW (cc := cX11_baseOf) (maxL := 4) (ret := (some (.object "MotionSigns$Fields"))) (by decide) rfl ?_
  intro p e s m args below meth c s₁ B hml hnt hv
  obtain ⟨rfl, hsz, hP, hK, hD0, hN, hT⟩ := hv
  have hx := B.exec
  have hb := B.bytes
  have hr := B.returns
  have hts := atoms_spec (ws := wv_f_baseOf) B.pre
  have hown : s.vm.findClass RX11 = some m.cls := findClass_of_methodNamed B.named
  have hlocks := B.notSynchronized
  subst hsz
  have hD := hD0.self (sz := s.heap.size)
  generalize hAe : va_A [(h0, .inr (11, fs_h0)), (qC, .inr (2, fs_qC))] s.heap.size = A at hD hT ⊢
  have hA : ∀ q : Nat, s.heap.size ≤ q → A q := fun q h => by rw [← hAe]; exact Or.inr h
  have hS : va_S A s.heap s.heap [] := va_S.rf
  have hP : va_P (dC, dI) vwCl [(h0, .inr (11, fs_h0)), (qC, .inr (2, fs_qC))] s.heap := hP
  have hl := lv_entry ([.ref h0, .int x0]) (n := 4) (Nat.le_of_ble_eq_true rfl)
  rw [lg_entry_eq]
  generalize (lg_sl ([.ref h0, .int x0]) ++ List.replicate (4 - (lg_sl ([.ref h0, .int x0])).length) Slot.unset).toArray = ls at hl ⊢
  have hl : lv_has ls 4 [(0, .ref h0), (1, .int x0)] := hl
  refine lv_aload_n hx hb dX11_baseOf_0 rfl (lv_at hl 0 rfl) ?_
  have hPc := hP.sub (ws' := [(h0, .inr (11, fs_h0)), (qC, .inr (2, fs_qC))]) [0, 1] rfl
  have hDc := hD.sub (ws' := [(h0, .inr (11, fs_h0)), (qC, .inr (2, fs_qC))]) [0, 1] (by decide) rfl
  have hKc := hK.sub (tys' := []) [] rfl
  have hFc := va_free (wc := [(h0, .inr (11, fs_h0)), (qC, .inr (2, fs_qC))]) hD hS hA [0, 1] rfl
  refine vx_callv (vx_runV (As := []) (rest := []) ⟨hx, hb, hml, hown, hts⟩ (c_f_needEquation l hlt dC dI h0 qC fs_h0 fs_qC (mF.sub hF_h0 [0] rfl) (mF.sub hF_qC [0] rfl) H.size) (cwV 0 hts g_f_baseOf_f_needEquation_159 rfl rfl rfl hd_X11_needEquation ⟨Nat.le_of_ble_eq_true rfl, Nat.le_of_ble_eq_true rfl⟩) ⟨fun a U g mk q => by obtain ⟨q0, q1, qP, qK, qD, qE0, qE1⟩ := q; exact ⟨q0, q1, qP, va_K.moved (u := U) (U := U.calling g mk a) (Vm.Alike.refl U.vm) qK, qD, w_N.same rfl qE0, w_T.same rfl rfl qE1⟩, va_recv hKc hPc (ci := 11) (q0 := 0) rfl rfl, fun U hU hW => ⟨rfl, by rw [hU], by rw [hU]; exact hPc, va_K.moved hW.alike hKc, hDc.weaken (fun _ _ _ _ => trivial), w_N.warm hW hN, w_T.go hT hW hS.2.1 hFc hU⟩⟩ rfl rfl hl.1 rfl (lv_room (Nat.le_of_ble_eq_true rfl)) dX11_baseOf_1 ⟨(Nat.le_of_ble_eq_true rfl), (Nat.le_of_ble_eq_true rfl)⟩) hS (fun q _ h => hFc q h) hFc (fun q _ h => hFc q h) (fun E9 ce9 q9 u t H1 locs1 ht hvm hpx hBX hz1 hk1 hS1 hcell9 hv9 hcl9 => ?_) (fun u t H1 locs1 ht hvm hw hB hz1 hk1 hS1 => ?_)
  · skip
    obtain rfl : E9 = "java/lang/IllegalStateException" := hBX
    exact vx_out (fun x hx9 => (hnt x hx9).elim) hlocks hcell9 hv9 hcl9 (fun t9 ht9 _ => ⟨(), trivial, rfl, hS1.F ht9⟩) hS1.2.2 (Nat.le_of_ble_eq_true rfl) (Nat.le_of_ble_eq_true rfl)
  · skip
    exact hw.elim
def wv_f_needDensities : List Cond := .code yX11_needDensities cX11_needDensities 2 none :: ([.methodLink RX11 159 yX11_needEquation, .instanceMethod yX11_needEquation, .selects RX11 yX11_needEquation yX11_needEquation, .initialized RX11] ++ (wv_f_needEquation ++ ([])))
theorem gw_f_needDensities : wv_f_needDensities.all goodWord = true := by decide +kernel
theorem g_f_needDensities_f_needEquation_159 : GoodIn wv_f_needDensities (wsV RX11 159 RX11 yX11_needEquation wv_f_needEquation) := goodIn_app (goodIn_of _ (by decide +kernel)) (goodIn_sub (fun _ h => List.mem_cons_of_mem _ (List.mem_append_right _ (List.mem_append_left _ h))) gw_f_needEquation)
set_option maxHeartbeats 4000000 in
set_option maxRecDepth 100000 in
/-- needDensities on a fresh object: it throws -/
theorem c_f_needDensities (l : Launch) (hlt : l.stackTraces = false) (dC : Nat → ClassId) (dI : Nat → Nat → Nat) (h0 : Nat) (qC : Nat) (x0 : Int32) (fs_h0 : List Value) (fs_qC : List Value) (hF_h0 : mF 19 [(7, .ref qC)] fs_h0) (hF_qC : mF 13 [(8, .int 0)] fs_qC) (sz : Nat) : vx_Met l yX11_needDensities wv_f_needDensities ({ frames := 7, cells := 1, slots := 6, locals := 110 }) (va_Pc [.ref h0, .int x0] (fun U => U.heap.size = sz ∧ va_P (dC, dI) vwCl [(h0, .inr (11, fs_h0)), (qC, .inr (2, fs_qC))] U.heap ∧ va_K (dC, dI) vwCl [] U ∧ va_D (fun _ => True) [(h0, .inr (11, fs_h0)), (qC, .inr (2, fs_qC))] ∧ w_N U ∧ w_T (va_A [(h0, .inr (11, fs_h0)), (qC, .inr (2, fs_qC))] sz) U U.heap)) (va_Qv (fun (_ : Unit) => False) (fun _ t => va_P (dC, dI) vwCl [] t.heap ∧ va_K (dC, dI) vwCl [] t ∧ va_D (va_A [(h0, .inr (11, fs_h0)), (qC, .inr (2, fs_qC))] sz) []) (va_A [(h0, .inr (11, fs_h0)), (qC, .inr (2, fs_qC))] sz)) (vx_X (fun _ : Unit => True) (fun E _ _ => E = "java/lang/IllegalStateException") (va_A [(h0, .inr (11, fs_h0)), (qC, .inr (2, fs_qC))] sz)) 1 6 (va_A [(h0, .inr (11, fs_h0)), (qC, .inr (2, fs_qC))] sz) := by
  refine vx_ofW (cc := cX11_needDensities) (maxL := 2) (ret := none) (by decide) rfl ?_
  intro p e s m args below meth c s₁ B hml hnt hv
  obtain ⟨rfl, hsz, hP, hK, hD0, hN, hT⟩ := hv
  have hx := B.exec
  have hb := B.bytes
  have hr := B.returns
  have hts := atoms_spec (ws := wv_f_needDensities) B.pre
  have hown : s.vm.findClass RX11 = some m.cls := findClass_of_methodNamed B.named
  have hlocks := B.notSynchronized
  subst hsz
  have hD := hD0.self (sz := s.heap.size)
  generalize hAe : va_A [(h0, .inr (11, fs_h0)), (qC, .inr (2, fs_qC))] s.heap.size = A at hD hT ⊢
  have hA : ∀ q : Nat, s.heap.size ≤ q → A q := fun q h => by rw [← hAe]; exact Or.inr h
  have hS : va_S A s.heap s.heap [] := va_S.rf
  have hP : va_P (dC, dI) vwCl [(h0, .inr (11, fs_h0)), (qC, .inr (2, fs_qC))] s.heap := hP
  have hl := lv_entry ([.ref h0, .int x0]) (n := 2) (Nat.le_of_ble_eq_true rfl)
  rw [lg_entry_eq]
  generalize (lg_sl ([.ref h0, .int x0]) ++ List.replicate (2 - (lg_sl ([.ref h0, .int x0])).length) Slot.unset).toArray = ls at hl ⊢
  have hl : lv_has ls 2 [(0, .ref h0), (1, .int x0)] := hl
  refine lv_aload_n hx hb dX11_needDensities_0 rfl (lv_at hl 0 rfl) ?_
  have hPc := hP.sub (ws' := [(h0, .inr (11, fs_h0)), (qC, .inr (2, fs_qC))]) [0, 1] rfl
  have hDc := hD.sub (ws' := [(h0, .inr (11, fs_h0)), (qC, .inr (2, fs_qC))]) [0, 1] (by decide) rfl
  have hKc := hK.sub (tys' := []) [] rfl
  have hFc := va_free (wc := [(h0, .inr (11, fs_h0)), (qC, .inr (2, fs_qC))]) hD hS hA [0, 1] rfl
  refine vx_callv (vx_runV (As := []) (rest := []) ⟨hx, hb, hml, hown, hts⟩ (c_f_needEquation l hlt dC dI h0 qC fs_h0 fs_qC (mF.sub hF_h0 [0] rfl) (mF.sub hF_qC [0] rfl) H.size) (cwV 0 hts g_f_needDensities_f_needEquation_159 rfl rfl rfl hd_X11_needEquation ⟨Nat.le_of_ble_eq_true rfl, Nat.le_of_ble_eq_true rfl⟩) ⟨fun a U g mk q => by obtain ⟨q0, q1, qP, qK, qD, qE0, qE1⟩ := q; exact ⟨q0, q1, qP, va_K.moved (u := U) (U := U.calling g mk a) (Vm.Alike.refl U.vm) qK, qD, w_N.same rfl qE0, w_T.same rfl rfl qE1⟩, va_recv hKc hPc (ci := 11) (q0 := 0) rfl rfl, fun U hU hW => ⟨rfl, by rw [hU], by rw [hU]; exact hPc, va_K.moved hW.alike hKc, hDc.weaken (fun _ _ _ _ => trivial), w_N.warm hW hN, w_T.go hT hW hS.2.1 hFc hU⟩⟩ rfl rfl hl.1 rfl (lv_room (Nat.le_of_ble_eq_true rfl)) dX11_needDensities_1 ⟨(Nat.le_of_ble_eq_true rfl), (Nat.le_of_ble_eq_true rfl)⟩) hS (fun q _ h => hFc q h) hFc (fun q _ h => hFc q h) (fun E9 ce9 q9 u t H1 locs1 ht hvm hpx hBX hz1 hk1 hS1 hcell9 hv9 hcl9 => ?_) (fun u t H1 locs1 ht hvm hw hB hz1 hk1 hS1 => ?_)
  · skip
    obtain rfl : E9 = "java/lang/IllegalStateException" := hBX
    exact vx_out (fun x hx9 => (hnt x hx9).elim) hlocks hcell9 hv9 hcl9 (fun t9 ht9 _ => ⟨(), trivial, rfl, hS1.F ht9⟩) hS1.2.2 (Nat.le_of_ble_eq_true rfl) (Nat.le_of_ble_eq_true rfl)
  · skip
    exact hw.elim
def wv_f_field : List Cond := .code yX11_field cX11_field 2 (some .int) :: ([.methodLink RX11 159 yX11_needEquation, .instanceMethod yX11_needEquation, .selects RX11 yX11_needEquation yX11_needEquation, .initialized RX11] ++ (wv_f_needEquation ++ ([])))
theorem gw_f_field : wv_f_field.all goodWord = true := by decide +kernel
theorem g_f_field_f_needEquation_159 : GoodIn wv_f_field (wsV RX11 159 RX11 yX11_needEquation wv_f_needEquation) := goodIn_app (goodIn_of _ (by decide +kernel)) (goodIn_sub (fun _ h => List.mem_cons_of_mem _ (List.mem_append_right _ (List.mem_append_left _ h))) gw_f_needEquation)
set_option maxHeartbeats 4000000 in
set_option maxRecDepth 100000 in
/-- field on a fresh object: it throws -/
theorem c_f_field (l : Launch) (hlt : l.stackTraces = false) (dC : Nat → ClassId) (dI : Nat → Nat → Nat) (h0 : Nat) (qC : Nat) (x0 : Int32) (fs_h0 : List Value) (fs_qC : List Value) (hF_h0 : mF 19 [(7, .ref qC)] fs_h0) (hF_qC : mF 13 [(8, .int 0)] fs_qC) (sz : Nat) : vx_Met l yX11_field wv_f_field ({ frames := 7, cells := 1, slots := 6, locals := 110 }) (va_Pc [.ref h0, .int x0] (fun U => U.heap.size = sz ∧ va_P (dC, dI) vwCl [(h0, .inr (11, fs_h0)), (qC, .inr (2, fs_qC))] U.heap ∧ va_K (dC, dI) vwCl [] U ∧ va_D (fun _ => True) [(h0, .inr (11, fs_h0)), (qC, .inr (2, fs_qC))] ∧ w_N U ∧ w_T (va_A [(h0, .inr (11, fs_h0)), (qC, .inr (2, fs_qC))] sz) U U.heap)) (va_Qi (fun (r : Int32) (_ : Unit) => False) (fun _ t => va_P (dC, dI) vwCl [] t.heap ∧ va_K (dC, dI) vwCl [] t ∧ va_D (va_A [(h0, .inr (11, fs_h0)), (qC, .inr (2, fs_qC))] sz) []) (va_A [(h0, .inr (11, fs_h0)), (qC, .inr (2, fs_qC))] sz)) (vx_X (fun _ : Unit => True) (fun E _ _ => E = "java/lang/IllegalStateException") (va_A [(h0, .inr (11, fs_h0)), (qC, .inr (2, fs_qC))] sz)) 1 6 (va_A [(h0, .inr (11, fs_h0)), (qC, .inr (2, fs_qC))] sz) := by
  refine vx_ofW (cc := cX11_field) (maxL := 2) (ret := (some .int)) (by decide) rfl ?_
  intro p e s m args below meth c s₁ B hml hnt hv
  obtain ⟨rfl, hsz, hP, hK, hD0, hN, hT⟩ := hv
  have hx := B.exec
  have hb := B.bytes
  have hr := B.returns
  have hts := atoms_spec (ws := wv_f_field) B.pre
  have hown : s.vm.findClass RX11 = some m.cls := findClass_of_methodNamed B.named
  have hlocks := B.notSynchronized
  subst hsz
  have hD := hD0.self (sz := s.heap.size)
  generalize hAe : va_A [(h0, .inr (11, fs_h0)), (qC, .inr (2, fs_qC))] s.heap.size = A at hD hT ⊢
  have hA : ∀ q : Nat, s.heap.size ≤ q → A q := fun q h => by rw [← hAe]; exact Or.inr h
  have hS : va_S A s.heap s.heap [] := va_S.rf
  have hP : va_P (dC, dI) vwCl [(h0, .inr (11, fs_h0)), (qC, .inr (2, fs_qC))] s.heap := hP
  have hl := lv_entry ([.ref h0, .int x0]) (n := 2) (Nat.le_of_ble_eq_true rfl)
  rw [lg_entry_eq]
  generalize (lg_sl ([.ref h0, .int x0]) ++ List.replicate (2 - (lg_sl ([.ref h0, .int x0])).length) Slot.unset).toArray = ls at hl ⊢
  have hl : lv_has ls 2 [(0, .ref h0), (1, .int x0)] := hl
  refine lv_aload_n hx hb dX11_field_0 rfl (lv_at hl 0 rfl) ?_
  have hPc := hP.sub (ws' := [(h0, .inr (11, fs_h0)), (qC, .inr (2, fs_qC))]) [0, 1] rfl
  have hDc := hD.sub (ws' := [(h0, .inr (11, fs_h0)), (qC, .inr (2, fs_qC))]) [0, 1] (by decide) rfl
  have hKc := hK.sub (tys' := []) [] rfl
  have hFc := va_free (wc := [(h0, .inr (11, fs_h0)), (qC, .inr (2, fs_qC))]) hD hS hA [0, 1] rfl
  refine vx_callv (vx_runV (As := []) (rest := []) ⟨hx, hb, hml, hown, hts⟩ (c_f_needEquation l hlt dC dI h0 qC fs_h0 fs_qC (mF.sub hF_h0 [0] rfl) (mF.sub hF_qC [0] rfl) H.size) (cwV 0 hts g_f_field_f_needEquation_159 rfl rfl rfl hd_X11_needEquation ⟨Nat.le_of_ble_eq_true rfl, Nat.le_of_ble_eq_true rfl⟩) ⟨fun a U g mk q => by obtain ⟨q0, q1, qP, qK, qD, qE0, qE1⟩ := q; exact ⟨q0, q1, qP, va_K.moved (u := U) (U := U.calling g mk a) (Vm.Alike.refl U.vm) qK, qD, w_N.same rfl qE0, w_T.same rfl rfl qE1⟩, va_recv hKc hPc (ci := 11) (q0 := 0) rfl rfl, fun U hU hW => ⟨rfl, by rw [hU], by rw [hU]; exact hPc, va_K.moved hW.alike hKc, hDc.weaken (fun _ _ _ _ => trivial), w_N.warm hW hN, w_T.go hT hW hS.2.1 hFc hU⟩⟩ rfl rfl hl.1 rfl (lv_room (Nat.le_of_ble_eq_true rfl)) dX11_field_1 ⟨(Nat.le_of_ble_eq_true rfl), (Nat.le_of_ble_eq_true rfl)⟩) hS (fun q _ h => hFc q h) hFc (fun q _ h => hFc q h) (fun E9 ce9 q9 u t H1 locs1 ht hvm hpx hBX hz1 hk1 hS1 hcell9 hv9 hcl9 => ?_) (fun u t H1 locs1 ht hvm hw hB hz1 hk1 hS1 => ?_)
  · skip
    obtain rfl : E9 = "java/lang/IllegalStateException" := hBX
    exact vx_out (fun x hx9 => (hnt x hx9).elim) hlocks hcell9 hv9 hcl9 (fun t9 ht9 _ => ⟨(), trivial, rfl, hS1.F ht9⟩) hS1.2.2 (Nat.le_of_ble_eq_true rfl) (Nat.le_of_ble_eq_true rfl)
  · skip
    exact hw.elim
def wv_f_solution : List Cond := .code yX11_solution cX11_solution 2 (some .int) :: ([.methodLink RX11 159 yX11_needEquation, .instanceMethod yX11_needEquation, .selects RX11 yX11_needEquation yX11_needEquation, .initialized RX11] ++ (wv_f_needEquation ++ ([])))
theorem gw_f_solution : wv_f_solution.all goodWord = true := by decide +kernel
theorem g_f_solution_f_needEquation_159 : GoodIn wv_f_solution (wsV RX11 159 RX11 yX11_needEquation wv_f_needEquation) := goodIn_app (goodIn_of _ (by decide +kernel)) (goodIn_sub (fun _ h => List.mem_cons_of_mem _ (List.mem_append_right _ (List.mem_append_left _ h))) gw_f_needEquation)
set_option maxHeartbeats 4000000 in
set_option maxRecDepth 100000 in
/-- solution on a fresh object: it throws -/
theorem c_f_solution (l : Launch) (hlt : l.stackTraces = false) (dC : Nat → ClassId) (dI : Nat → Nat → Nat) (h0 : Nat) (qC : Nat) (x0 : Int32) (fs_h0 : List Value) (fs_qC : List Value) (hF_h0 : mF 19 [(7, .ref qC)] fs_h0) (hF_qC : mF 13 [(8, .int 0)] fs_qC) (sz : Nat) : vx_Met l yX11_solution wv_f_solution ({ frames := 7, cells := 1, slots := 6, locals := 110 }) (va_Pc [.ref h0, .int x0] (fun U => U.heap.size = sz ∧ va_P (dC, dI) vwCl [(h0, .inr (11, fs_h0)), (qC, .inr (2, fs_qC))] U.heap ∧ va_K (dC, dI) vwCl [] U ∧ va_D (fun _ => True) [(h0, .inr (11, fs_h0)), (qC, .inr (2, fs_qC))] ∧ w_N U ∧ w_T (va_A [(h0, .inr (11, fs_h0)), (qC, .inr (2, fs_qC))] sz) U U.heap)) (va_Qi (fun (r : Int32) (_ : Unit) => False) (fun _ t => va_P (dC, dI) vwCl [] t.heap ∧ va_K (dC, dI) vwCl [] t ∧ va_D (va_A [(h0, .inr (11, fs_h0)), (qC, .inr (2, fs_qC))] sz) []) (va_A [(h0, .inr (11, fs_h0)), (qC, .inr (2, fs_qC))] sz)) (vx_X (fun _ : Unit => True) (fun E _ _ => E = "java/lang/IllegalStateException") (va_A [(h0, .inr (11, fs_h0)), (qC, .inr (2, fs_qC))] sz)) 1 6 (va_A [(h0, .inr (11, fs_h0)), (qC, .inr (2, fs_qC))] sz) := by
  refine vx_ofW (cc := cX11_solution) (maxL := 2) (ret := (some .int)) (by decide) rfl ?_
  intro p e s m args below meth c s₁ B hml hnt hv
  obtain ⟨rfl, hsz, hP, hK, hD0, hN, hT⟩ := hv
  have hx := B.exec
  have hb := B.bytes
  have hr := B.returns
  have hts := atoms_spec (ws := wv_f_solution) B.pre
  have hown : s.vm.findClass RX11 = some m.cls := findClass_of_methodNamed B.named
  have hlocks := B.notSynchronized
  subst hsz
  have hD := hD0.self (sz := s.heap.size)
  generalize hAe : va_A [(h0, .inr (11, fs_h0)), (qC, .inr (2, fs_qC))] s.heap.size = A at hD hT ⊢
  have hA : ∀ q : Nat, s.heap.size ≤ q → A q := fun q h => by rw [← hAe]; exact Or.inr h
  have hS : va_S A s.heap s.heap [] := va_S.rf
  have hP : va_P (dC, dI) vwCl [(h0, .inr (11, fs_h0)), (qC, .inr (2, fs_qC))] s.heap := hP
  have hl := lv_entry ([.ref h0, .int x0]) (n := 2) (Nat.le_of_ble_eq_true rfl)
  rw [lg_entry_eq]
  generalize (lg_sl ([.ref h0, .int x0]) ++ List.replicate (2 - (lg_sl ([.ref h0, .int x0])).length) Slot.unset).toArray = ls at hl ⊢
  have hl : lv_has ls 2 [(0, .ref h0), (1, .int x0)] := hl
  refine lv_aload_n hx hb dX11_solution_0 rfl (lv_at hl 0 rfl) ?_
  have hPc := hP.sub (ws' := [(h0, .inr (11, fs_h0)), (qC, .inr (2, fs_qC))]) [0, 1] rfl
  have hDc := hD.sub (ws' := [(h0, .inr (11, fs_h0)), (qC, .inr (2, fs_qC))]) [0, 1] (by decide) rfl
  have hKc := hK.sub (tys' := []) [] rfl
  have hFc := va_free (wc := [(h0, .inr (11, fs_h0)), (qC, .inr (2, fs_qC))]) hD hS hA [0, 1] rfl
  refine vx_callv (vx_runV (As := []) (rest := []) ⟨hx, hb, hml, hown, hts⟩ (c_f_needEquation l hlt dC dI h0 qC fs_h0 fs_qC (mF.sub hF_h0 [0] rfl) (mF.sub hF_qC [0] rfl) H.size) (cwV 0 hts g_f_solution_f_needEquation_159 rfl rfl rfl hd_X11_needEquation ⟨Nat.le_of_ble_eq_true rfl, Nat.le_of_ble_eq_true rfl⟩) ⟨fun a U g mk q => by obtain ⟨q0, q1, qP, qK, qD, qE0, qE1⟩ := q; exact ⟨q0, q1, qP, va_K.moved (u := U) (U := U.calling g mk a) (Vm.Alike.refl U.vm) qK, qD, w_N.same rfl qE0, w_T.same rfl rfl qE1⟩, va_recv hKc hPc (ci := 11) (q0 := 0) rfl rfl, fun U hU hW => ⟨rfl, by rw [hU], by rw [hU]; exact hPc, va_K.moved hW.alike hKc, hDc.weaken (fun _ _ _ _ => trivial), w_N.warm hW hN, w_T.go hT hW hS.2.1 hFc hU⟩⟩ rfl rfl hl.1 rfl (lv_room (Nat.le_of_ble_eq_true rfl)) dX11_solution_1 ⟨(Nat.le_of_ble_eq_true rfl), (Nat.le_of_ble_eq_true rfl)⟩) hS (fun q _ h => hFc q h) hFc (fun q _ h => hFc q h) (fun E9 ce9 q9 u t H1 locs1 ht hvm hpx hBX hz1 hk1 hS1 hcell9 hv9 hcl9 => ?_) (fun u t H1 locs1 ht hvm hw hB hz1 hk1 hS1 => ?_)
  · skip
    obtain rfl : E9 = "java/lang/IllegalStateException" := hBX
    exact vx_out (fun x hx9 => (hnt x hx9).elim) hlocks hcell9 hv9 hcl9 (fun t9 ht9 _ => ⟨(), trivial, rfl, hS1.F ht9⟩) hS1.2.2 (Nat.le_of_ble_eq_true rfl) (Nat.le_of_ble_eq_true rfl)
  · skip
    exact hw.elim
def wv_f_rest : List Cond := .code yX11_rest cX11_rest 2 (some .int) :: ([.methodLink RX11 159 yX11_needEquation, .instanceMethod yX11_needEquation, .selects RX11 yX11_needEquation yX11_needEquation, .initialized RX11] ++ (wv_f_needEquation ++ ([])))
theorem gw_f_rest : wv_f_rest.all goodWord = true := by decide +kernel
theorem g_f_rest_f_needEquation_159 : GoodIn wv_f_rest (wsV RX11 159 RX11 yX11_needEquation wv_f_needEquation) := goodIn_app (goodIn_of _ (by decide +kernel)) (goodIn_sub (fun _ h => List.mem_cons_of_mem _ (List.mem_append_right _ (List.mem_append_left _ h))) gw_f_needEquation)
set_option maxHeartbeats 4000000 in
set_option maxRecDepth 100000 in
/-- rest on a fresh object: it throws -/
theorem c_f_rest (l : Launch) (hlt : l.stackTraces = false) (dC : Nat → ClassId) (dI : Nat → Nat → Nat) (h0 : Nat) (qC : Nat) (x0 : Int32) (fs_h0 : List Value) (fs_qC : List Value) (hF_h0 : mF 19 [(7, .ref qC)] fs_h0) (hF_qC : mF 13 [(8, .int 0)] fs_qC) (sz : Nat) : vx_Met l yX11_rest wv_f_rest ({ frames := 7, cells := 1, slots := 6, locals := 110 }) (va_Pc [.ref h0, .int x0] (fun U => U.heap.size = sz ∧ va_P (dC, dI) vwCl [(h0, .inr (11, fs_h0)), (qC, .inr (2, fs_qC))] U.heap ∧ va_K (dC, dI) vwCl [] U ∧ va_D (fun _ => True) [(h0, .inr (11, fs_h0)), (qC, .inr (2, fs_qC))] ∧ w_N U ∧ w_T (va_A [(h0, .inr (11, fs_h0)), (qC, .inr (2, fs_qC))] sz) U U.heap)) (va_Qi (fun (r : Int32) (_ : Unit) => False) (fun _ t => va_P (dC, dI) vwCl [] t.heap ∧ va_K (dC, dI) vwCl [] t ∧ va_D (va_A [(h0, .inr (11, fs_h0)), (qC, .inr (2, fs_qC))] sz) []) (va_A [(h0, .inr (11, fs_h0)), (qC, .inr (2, fs_qC))] sz)) (vx_X (fun _ : Unit => True) (fun E _ _ => E = "java/lang/IllegalStateException") (va_A [(h0, .inr (11, fs_h0)), (qC, .inr (2, fs_qC))] sz)) 1 6 (va_A [(h0, .inr (11, fs_h0)), (qC, .inr (2, fs_qC))] sz) := by
  refine vx_ofW (cc := cX11_rest) (maxL := 2) (ret := (some .int)) (by decide) rfl ?_
  intro p e s m args below meth c s₁ B hml hnt hv
  obtain ⟨rfl, hsz, hP, hK, hD0, hN, hT⟩ := hv
  have hx := B.exec
  have hb := B.bytes
  have hr := B.returns
  have hts := atoms_spec (ws := wv_f_rest) B.pre
  have hown : s.vm.findClass RX11 = some m.cls := findClass_of_methodNamed B.named
  have hlocks := B.notSynchronized
  subst hsz
  have hD := hD0.self (sz := s.heap.size)
  generalize hAe : va_A [(h0, .inr (11, fs_h0)), (qC, .inr (2, fs_qC))] s.heap.size = A at hD hT ⊢
  have hA : ∀ q : Nat, s.heap.size ≤ q → A q := fun q h => by rw [← hAe]; exact Or.inr h
  have hS : va_S A s.heap s.heap [] := va_S.rf
  have hP : va_P (dC, dI) vwCl [(h0, .inr (11, fs_h0)), (qC, .inr (2, fs_qC))] s.heap := hP
  have hl := lv_entry ([.ref h0, .int x0]) (n := 2) (Nat.le_of_ble_eq_true rfl)
  rw [lg_entry_eq]
  generalize (lg_sl ([.ref h0, .int x0]) ++ List.replicate (2 - (lg_sl ([.ref h0, .int x0])).length) Slot.unset).toArray = ls at hl ⊢
  have hl : lv_has ls 2 [(0, .ref h0), (1, .int x0)] := hl
  refine lv_aload_n hx hb dX11_rest_0 rfl (lv_at hl 0 rfl) ?_
  have hPc := hP.sub (ws' := [(h0, .inr (11, fs_h0)), (qC, .inr (2, fs_qC))]) [0, 1] rfl
  have hDc := hD.sub (ws' := [(h0, .inr (11, fs_h0)), (qC, .inr (2, fs_qC))]) [0, 1] (by decide) rfl
  have hKc := hK.sub (tys' := []) [] rfl
  have hFc := va_free (wc := [(h0, .inr (11, fs_h0)), (qC, .inr (2, fs_qC))]) hD hS hA [0, 1] rfl
  refine vx_callv (vx_runV (As := []) (rest := []) ⟨hx, hb, hml, hown, hts⟩ (c_f_needEquation l hlt dC dI h0 qC fs_h0 fs_qC (mF.sub hF_h0 [0] rfl) (mF.sub hF_qC [0] rfl) H.size) (cwV 0 hts g_f_rest_f_needEquation_159 rfl rfl rfl hd_X11_needEquation ⟨Nat.le_of_ble_eq_true rfl, Nat.le_of_ble_eq_true rfl⟩) ⟨fun a U g mk q => by obtain ⟨q0, q1, qP, qK, qD, qE0, qE1⟩ := q; exact ⟨q0, q1, qP, va_K.moved (u := U) (U := U.calling g mk a) (Vm.Alike.refl U.vm) qK, qD, w_N.same rfl qE0, w_T.same rfl rfl qE1⟩, va_recv hKc hPc (ci := 11) (q0 := 0) rfl rfl, fun U hU hW => ⟨rfl, by rw [hU], by rw [hU]; exact hPc, va_K.moved hW.alike hKc, hDc.weaken (fun _ _ _ _ => trivial), w_N.warm hW hN, w_T.go hT hW hS.2.1 hFc hU⟩⟩ rfl rfl hl.1 rfl (lv_room (Nat.le_of_ble_eq_true rfl)) dX11_rest_1 ⟨(Nat.le_of_ble_eq_true rfl), (Nat.le_of_ble_eq_true rfl)⟩) hS (fun q _ h => hFc q h) hFc (fun q _ h => hFc q h) (fun E9 ce9 q9 u t H1 locs1 ht hvm hpx hBX hz1 hk1 hS1 hcell9 hv9 hcl9 => ?_) (fun u t H1 locs1 ht hvm hw hB hz1 hk1 hS1 => ?_)
  · skip
    obtain rfl : E9 = "java/lang/IllegalStateException" := hBX
    exact vx_out (fun x hx9 => (hnt x hx9).elim) hlocks hcell9 hv9 hcl9 (fun t9 ht9 _ => ⟨(), trivial, rfl, hS1.F ht9⟩) hS1.2.2 (Nat.le_of_ble_eq_true rfl) (Nat.le_of_ble_eq_true rfl)
  · skip
    exact hw.elim
def wv_f_leaves : List Cond := .code yX11_leaves cX11_leaves 1 (some .boolean) :: ([.methodLink RX11 159 yX11_needEquation, .instanceMethod yX11_needEquation, .selects RX11 yX11_needEquation yX11_needEquation, .initialized RX11] ++ (wv_f_needEquation ++ ([])))
theorem gw_f_leaves : wv_f_leaves.all goodWord = true := by decide +kernel
theorem g_f_leaves_f_needEquation_159 : GoodIn wv_f_leaves (wsV RX11 159 RX11 yX11_needEquation wv_f_needEquation) := goodIn_app (goodIn_of _ (by decide +kernel)) (goodIn_sub (fun _ h => List.mem_cons_of_mem _ (List.mem_append_right _ (List.mem_append_left _ h))) gw_f_needEquation)
set_option maxHeartbeats 4000000 in
set_option maxRecDepth 100000 in
/-- leaves on a fresh object: it throws -/
theorem c_f_leaves (l : Launch) (hlt : l.stackTraces = false) (dC : Nat → ClassId) (dI : Nat → Nat → Nat) (h0 : Nat) (qC : Nat) (fs_h0 : List Value) (fs_qC : List Value) (hF_h0 : mF 19 [(7, .ref qC)] fs_h0) (hF_qC : mF 13 [(8, .int 0)] fs_qC) (sz : Nat) : vx_Met l yX11_leaves wv_f_leaves ({ frames := 7, cells := 1, slots := 6, locals := 110 }) (va_Pc [.ref h0] (fun U => U.heap.size = sz ∧ va_P (dC, dI) vwCl [(h0, .inr (11, fs_h0)), (qC, .inr (2, fs_qC))] U.heap ∧ va_K (dC, dI) vwCl [] U ∧ va_D (fun _ => True) [(h0, .inr (11, fs_h0)), (qC, .inr (2, fs_qC))] ∧ w_N U ∧ w_T (va_A [(h0, .inr (11, fs_h0)), (qC, .inr (2, fs_qC))] sz) U U.heap)) (va_Qi (fun (r : Int32) (_ : Unit) => False) (fun _ t => va_P (dC, dI) vwCl [] t.heap ∧ va_K (dC, dI) vwCl [] t ∧ va_D (va_A [(h0, .inr (11, fs_h0)), (qC, .inr (2, fs_qC))] sz) []) (va_A [(h0, .inr (11, fs_h0)), (qC, .inr (2, fs_qC))] sz)) (vx_X (fun _ : Unit => True) (fun E _ _ => E = "java/lang/IllegalStateException") (va_A [(h0, .inr (11, fs_h0)), (qC, .inr (2, fs_qC))] sz)) 1 6 (va_A [(h0, .inr (11, fs_h0)), (qC, .inr (2, fs_qC))] sz) := by
  refine vx_ofW (cc := cX11_leaves) (maxL := 1) (ret := (some .boolean)) (by decide) rfl ?_
  intro p e s m args below meth c s₁ B hml hnt hv
  obtain ⟨rfl, hsz, hP, hK, hD0, hN, hT⟩ := hv
  have hx := B.exec
  have hb := B.bytes
  have hr := B.returns
  have hts := atoms_spec (ws := wv_f_leaves) B.pre
  have hown : s.vm.findClass RX11 = some m.cls := findClass_of_methodNamed B.named
  have hlocks := B.notSynchronized
  subst hsz
  have hD := hD0.self (sz := s.heap.size)
  generalize hAe : va_A [(h0, .inr (11, fs_h0)), (qC, .inr (2, fs_qC))] s.heap.size = A at hD hT ⊢
  have hA : ∀ q : Nat, s.heap.size ≤ q → A q := fun q h => by rw [← hAe]; exact Or.inr h
  have hS : va_S A s.heap s.heap [] := va_S.rf
  have hP : va_P (dC, dI) vwCl [(h0, .inr (11, fs_h0)), (qC, .inr (2, fs_qC))] s.heap := hP
  have hl := lv_entry ([.ref h0]) (n := 1) (Nat.le_of_ble_eq_true rfl)
  rw [lg_entry_eq]
  generalize (lg_sl ([.ref h0]) ++ List.replicate (1 - (lg_sl ([.ref h0])).length) Slot.unset).toArray = ls at hl ⊢
  have hl : lv_has ls 1 [(0, .ref h0)] := hl
  refine lv_aload_n hx hb dX11_leaves_0 rfl (lv_at hl 0 rfl) ?_
  have hPc := hP.sub (ws' := [(h0, .inr (11, fs_h0)), (qC, .inr (2, fs_qC))]) [0, 1] rfl
  have hDc := hD.sub (ws' := [(h0, .inr (11, fs_h0)), (qC, .inr (2, fs_qC))]) [0, 1] (by decide) rfl
  have hKc := hK.sub (tys' := []) [] rfl
  have hFc := va_free (wc := [(h0, .inr (11, fs_h0)), (qC, .inr (2, fs_qC))]) hD hS hA [0, 1] rfl
  refine vx_callv (vx_runV (As := []) (rest := []) ⟨hx, hb, hml, hown, hts⟩ (c_f_needEquation l hlt dC dI h0 qC fs_h0 fs_qC (mF.sub hF_h0 [0] rfl) (mF.sub hF_qC [0] rfl) H.size) (cwV 0 hts g_f_leaves_f_needEquation_159 rfl rfl rfl hd_X11_needEquation ⟨Nat.le_of_ble_eq_true rfl, Nat.le_of_ble_eq_true rfl⟩) ⟨fun a U g mk q => by obtain ⟨q0, q1, qP, qK, qD, qE0, qE1⟩ := q; exact ⟨q0, q1, qP, va_K.moved (u := U) (U := U.calling g mk a) (Vm.Alike.refl U.vm) qK, qD, w_N.same rfl qE0, w_T.same rfl rfl qE1⟩, va_recv hKc hPc (ci := 11) (q0 := 0) rfl rfl, fun U hU hW => ⟨rfl, by rw [hU], by rw [hU]; exact hPc, va_K.moved hW.alike hKc, hDc.weaken (fun _ _ _ _ => trivial), w_N.warm hW hN, w_T.go hT hW hS.2.1 hFc hU⟩⟩ rfl rfl hl.1 rfl (lv_room (Nat.le_of_ble_eq_true rfl)) dX11_leaves_1 ⟨(Nat.le_of_ble_eq_true rfl), (Nat.le_of_ble_eq_true rfl)⟩) hS (fun q _ h => hFc q h) hFc (fun q _ h => hFc q h) (fun E9 ce9 q9 u t H1 locs1 ht hvm hpx hBX hz1 hk1 hS1 hcell9 hv9 hcl9 => ?_) (fun u t H1 locs1 ht hvm hw hB hz1 hk1 hS1 => ?_)
  · skip
    obtain rfl : E9 = "java/lang/IllegalStateException" := hBX
    exact vx_out (fun x hx9 => (hnt x hx9).elim) hlocks hcell9 hv9 hcl9 (fun t9 ht9 _ => ⟨(), trivial, rfl, hS1.F ht9⟩) hS1.2.2 (Nat.le_of_ble_eq_true rfl) (Nat.le_of_ble_eq_true rfl)
  · skip
    exact hw.elim
def wv_f_fields : List Cond := .code yX11_fields cX11_fields 2 (some .int) :: ([.methodLink RX11 201 yX11_baseOf, .instanceMethod yX11_baseOf, .selects RX11 yX11_baseOf yX11_baseOf, .initialized RX11] ++ (wv_f_baseOf ++ ([])))
theorem gw_f_fields : wv_f_fields.all goodWord = true := by decide +kernel
theorem g_f_fields_f_baseOf_201 : GoodIn wv_f_fields (wsV RX11 201 RX11 yX11_baseOf wv_f_baseOf) := goodIn_app (goodIn_of _ (by decide +kernel)) (goodIn_sub (fun _ h => List.mem_cons_of_mem _ (List.mem_append_right _ (List.mem_append_left _ h))) gw_f_baseOf)
set_option maxHeartbeats 4000000 in
set_option maxRecDepth 100000 in
/-- fields on a fresh object: it throws -/
theorem c_f_fields (l : Launch) (hlt : l.stackTraces = false) (dC : Nat → ClassId) (dI : Nat → Nat → Nat) (h0 : Nat) (qC : Nat) (x0 : Int32) (fs_h0 : List Value) (fs_qC : List Value) (hF_h0 : mF 19 [(7, .ref qC)] fs_h0) (hF_qC : mF 13 [(8, .int 0)] fs_qC) (sz : Nat) : vx_Met l yX11_fields wv_f_fields ({ frames := 8, cells := 1, slots := 6, locals := 133 }) (va_Pc [.ref h0, .int x0] (fun U => U.heap.size = sz ∧ va_P (dC, dI) vwCl [(h0, .inr (11, fs_h0)), (qC, .inr (2, fs_qC))] U.heap ∧ va_K (dC, dI) vwCl [] U ∧ va_D (fun _ => True) [(h0, .inr (11, fs_h0)), (qC, .inr (2, fs_qC))] ∧ w_N U ∧ w_T (va_A [(h0, .inr (11, fs_h0)), (qC, .inr (2, fs_qC))] sz) U U.heap)) (va_Qi (fun (r : Int32) (_ : Unit) => False) (fun _ t => va_P (dC, dI) vwCl [] t.heap ∧ va_K (dC, dI) vwCl [] t ∧ va_D (va_A [(h0, .inr (11, fs_h0)), (qC, .inr (2, fs_qC))] sz) []) (va_A [(h0, .inr (11, fs_h0)), (qC, .inr (2, fs_qC))] sz)) (vx_X (fun _ : Unit => True) (fun E _ _ => E = "java/lang/IllegalStateException") (va_A [(h0, .inr (11, fs_h0)), (qC, .inr (2, fs_qC))] sz)) 1 6 (va_A [(h0, .inr (11, fs_h0)), (qC, .inr (2, fs_qC))] sz) := by
  refine vx_ofW (cc := cX11_fields) (maxL := 2) (ret := (some .int)) (by decide) rfl ?_
  intro p e s m args below meth c s₁ B hml hnt hv
  obtain ⟨rfl, hsz, hP, hK, hD0, hN, hT⟩ := hv
  have hx := B.exec
  have hb := B.bytes
  have hr := B.returns
  have hts := atoms_spec (ws := wv_f_fields) B.pre
  have hown : s.vm.findClass RX11 = some m.cls := findClass_of_methodNamed B.named
  have hlocks := B.notSynchronized
  subst hsz
  have hD := hD0.self (sz := s.heap.size)
  generalize hAe : va_A [(h0, .inr (11, fs_h0)), (qC, .inr (2, fs_qC))] s.heap.size = A at hD hT ⊢
  have hA : ∀ q : Nat, s.heap.size ≤ q → A q := fun q h => by rw [← hAe]; exact Or.inr h
  have hS : va_S A s.heap s.heap [] := va_S.rf
  have hP : va_P (dC, dI) vwCl [(h0, .inr (11, fs_h0)), (qC, .inr (2, fs_qC))] s.heap := hP
  have hl := lv_entry ([.ref h0, .int x0]) (n := 2) (Nat.le_of_ble_eq_true rfl)
  rw [lg_entry_eq]
  generalize (lg_sl ([.ref h0, .int x0]) ++ List.replicate (2 - (lg_sl ([.ref h0, .int x0])).length) Slot.unset).toArray = ls at hl ⊢
  have hl : lv_has ls 2 [(0, .ref h0), (1, .int x0)] := hl
  refine lv_aload_n hx hb dX11_fields_0 rfl (lv_at hl 0 rfl) ?_
  refine lv_iload_n hx hb dX11_fields_1 rfl (lv_at hl 1 rfl) ?_
  have hPc := hP.sub (ws' := [(h0, .inr (11, fs_h0)), (qC, .inr (2, fs_qC))]) [0, 1] rfl
  have hDc := hD.sub (ws' := [(h0, .inr (11, fs_h0)), (qC, .inr (2, fs_qC))]) [0, 1] (by decide) rfl
  have hKc := hK.sub (tys' := []) [] rfl
  have hFc := va_free (wc := [(h0, .inr (11, fs_h0)), (qC, .inr (2, fs_qC))]) hD hS hA [0, 1] rfl
  refine vx_callr (vx_runV (As := [.int x0]) (rest := []) ⟨hx, hb, hml, hown, hts⟩ (c_f_baseOf l hlt dC dI h0 qC x0 fs_h0 fs_qC (mF.sub hF_h0 [0] rfl) (mF.sub hF_qC [0] rfl) H.size) (cwV 1 hts g_f_fields_f_baseOf_201 rfl rfl rfl hd_X11_baseOf ⟨Nat.le_of_ble_eq_true rfl, Nat.le_of_ble_eq_true rfl⟩) ⟨fun a U g mk q => by obtain ⟨q0, q1, qP, qK, qD, qE0, qE1⟩ := q; exact ⟨q0, q1, qP, va_K.moved (u := U) (U := U.calling g mk a) (Vm.Alike.refl U.vm) qK, qD, w_N.same rfl qE0, w_T.same rfl rfl qE1⟩, va_recv hKc hPc (ci := 11) (q0 := 0) rfl rfl, fun U hU hW => ⟨rfl, by rw [hU], by rw [hU]; exact hPc, va_K.moved hW.alike hKc, hDc.weaken (fun _ _ _ _ => trivial), w_N.warm hW hN, w_T.go hT hW hS.2.1 hFc hU⟩⟩ rfl rfl hl.1 rfl (lv_room (Nat.le_of_ble_eq_true rfl)) dX11_fields_2 ⟨(Nat.le_of_ble_eq_true rfl), (Nat.le_of_ble_eq_true rfl)⟩) hS (fun q _ h => hFc q h) hFc (fun q _ h => hFc q h) (fun E9 ce9 q9 u t H1 locs1 ht hvm hpx hBX hz1 hk1 hS1 hcell9 hv9 hcl9 => ?_) (fun u t H1 locs1 ht hvm hw hB hz1 hk1 hS1 => ?_)
  · skip
    obtain rfl : E9 = "java/lang/IllegalStateException" := hBX
    exact vx_out (fun x hx9 => (hnt x hx9).elim) hlocks hcell9 hv9 hcl9 (fun t9 ht9 _ => ⟨(), trivial, rfl, hS1.F ht9⟩) hS1.2.2 (Nat.le_of_ble_eq_true rfl) (Nat.le_of_ble_eq_true rfl)
  · skip
    exact hw.elim
def wv_f_number : List Cond := .code yX11_number cX11_number 7 (some .long) :: ([.methodLink RX11 201 yX11_baseOf, .instanceMethod yX11_baseOf, .selects RX11 yX11_baseOf yX11_baseOf, .initialized RX11] ++ (wv_f_baseOf ++ ([])))
theorem gw_f_number : wv_f_number.all goodWord = true := by decide +kernel
theorem g_f_number_f_baseOf_201 : GoodIn wv_f_number (wsV RX11 201 RX11 yX11_baseOf wv_f_baseOf) := goodIn_app (goodIn_of _ (by decide +kernel)) (goodIn_sub (fun _ h => List.mem_cons_of_mem _ (List.mem_append_right _ (List.mem_append_left _ h))) gw_f_baseOf)
set_option maxHeartbeats 4000000 in
set_option maxRecDepth 100000 in
/-- number on a fresh object: it throws -/
theorem c_f_number (l : Launch) (hlt : l.stackTraces = false) (dC : Nat → ClassId) (dI : Nat → Nat → Nat) (h0 : Nat) (qC : Nat) (x0 : Int32) (x1 : Int32) (x2 : Int32) (x3 : Int32) (fs_h0 : List Value) (fs_qC : List Value) (hF_h0 : mF 19 [(7, .ref qC)] fs_h0) (hF_qC : mF 13 [(8, .int 0)] fs_qC) (sz : Nat) : vx_Met l yX11_number wv_f_number ({ frames := 8, cells := 1, slots := 6, locals := 133 }) (va_Pc [.ref h0, .int x0, .int x1, .int x2, .int x3] (fun U => U.heap.size = sz ∧ va_P (dC, dI) vwCl [(h0, .inr (11, fs_h0)), (qC, .inr (2, fs_qC))] U.heap ∧ va_K (dC, dI) vwCl [] U ∧ va_D (fun _ => True) [(h0, .inr (11, fs_h0)), (qC, .inr (2, fs_qC))] ∧ w_N U ∧ w_T (va_A [(h0, .inr (11, fs_h0)), (qC, .inr (2, fs_qC))] sz) U U.heap)) (va_Ql (fun (r : Int64) (_ : Unit) => False) (fun _ t => va_P (dC, dI) vwCl [] t.heap ∧ va_K (dC, dI) vwCl [] t ∧ va_D (va_A [(h0, .inr (11, fs_h0)), (qC, .inr (2, fs_qC))] sz) []) (va_A [(h0, .inr (11, fs_h0)), (qC, .inr (2, fs_qC))] sz)) (vx_X (fun _ : Unit => True) (fun E _ _ => E = "java/lang/IllegalStateException") (va_A [(h0, .inr (11, fs_h0)), (qC, .inr (2, fs_qC))] sz)) 1 6 (va_A [(h0, .inr (11, fs_h0)), (qC, .inr (2, fs_qC))] sz) := by
  refine vx_ofW (cc := cX11_number) (maxL := 7) (ret := (some .long)) (by decide) rfl ?_
  intro p e s m args below meth c s₁ B hml hnt hv
  obtain ⟨rfl, hsz, hP, hK, hD0, hN, hT⟩ := hv
  have hx := B.exec
  have hb := B.bytes
  have hr := B.returns
  have hts := atoms_spec (ws := wv_f_number) B.pre
  have hown : s.vm.findClass RX11 = some m.cls := findClass_of_methodNamed B.named
  have hlocks := B.notSynchronized
  subst hsz
  have hD := hD0.self (sz := s.heap.size)
  generalize hAe : va_A [(h0, .inr (11, fs_h0)), (qC, .inr (2, fs_qC))] s.heap.size = A at hD hT ⊢
  have hA : ∀ q : Nat, s.heap.size ≤ q → A q := fun q h => by rw [← hAe]; exact Or.inr h
  have hS : va_S A s.heap s.heap [] := va_S.rf
  have hP : va_P (dC, dI) vwCl [(h0, .inr (11, fs_h0)), (qC, .inr (2, fs_qC))] s.heap := hP
  have hl := lv_entry ([.ref h0, .int x0, .int x1, .int x2, .int x3]) (n := 7) (Nat.le_of_ble_eq_true rfl)
  rw [lg_entry_eq]
  generalize (lg_sl ([.ref h0, .int x0, .int x1, .int x2, .int x3]) ++ List.replicate (7 - (lg_sl ([.ref h0, .int x0, .int x1, .int x2, .int x3])).length) Slot.unset).toArray = ls at hl ⊢
  have hl : lv_has ls 7 [(0, .ref h0), (1, .int x0), (2, .int x1), (3, .int x2), (4, .int x3)] := hl
  refine lv_aload_n hx hb dX11_number_0 rfl (lv_at hl 0 rfl) ?_
  refine lv_iload_n hx hb dX11_number_1 rfl (lv_at hl 1 rfl) ?_
  have hPc := hP.sub (ws' := [(h0, .inr (11, fs_h0)), (qC, .inr (2, fs_qC))]) [0, 1] rfl
  have hDc := hD.sub (ws' := [(h0, .inr (11, fs_h0)), (qC, .inr (2, fs_qC))]) [0, 1] (by decide) rfl
  have hKc := hK.sub (tys' := []) [] rfl
  have hFc := va_free (wc := [(h0, .inr (11, fs_h0)), (qC, .inr (2, fs_qC))]) hD hS hA [0, 1] rfl
  refine vx_callr (vx_runV (As := [.int x0]) (rest := []) ⟨hx, hb, hml, hown, hts⟩ (c_f_baseOf l hlt dC dI h0 qC x0 fs_h0 fs_qC (mF.sub hF_h0 [0] rfl) (mF.sub hF_qC [0] rfl) H.size) (cwV 1 hts g_f_number_f_baseOf_201 rfl rfl rfl hd_X11_baseOf ⟨Nat.le_of_ble_eq_true rfl, Nat.le_of_ble_eq_true rfl⟩) ⟨fun a U g mk q => by obtain ⟨q0, q1, qP, qK, qD, qE0, qE1⟩ := q; exact ⟨q0, q1, qP, va_K.moved (u := U) (U := U.calling g mk a) (Vm.Alike.refl U.vm) qK, qD, w_N.same rfl qE0, w_T.same rfl rfl qE1⟩, va_recv hKc hPc (ci := 11) (q0 := 0) rfl rfl, fun U hU hW => ⟨rfl, by rw [hU], by rw [hU]; exact hPc, va_K.moved hW.alike hKc, hDc.weaken (fun _ _ _ _ => trivial), w_N.warm hW hN, w_T.go hT hW hS.2.1 hFc hU⟩⟩ rfl rfl hl.1 rfl (lv_room (Nat.le_of_ble_eq_true rfl)) dX11_number_2 ⟨(Nat.le_of_ble_eq_true rfl), (Nat.le_of_ble_eq_true rfl)⟩) hS (fun q _ h => hFc q h) hFc (fun q _ h => hFc q h) (fun E9 ce9 q9 u t H1 locs1 ht hvm hpx hBX hz1 hk1 hS1 hcell9 hv9 hcl9 => ?_) (fun u t H1 locs1 ht hvm hw hB hz1 hk1 hS1 => ?_)
  · skip
    obtain rfl : E9 = "java/lang/IllegalStateException" := hBX
    exact vx_out (fun x hx9 => (hnt x hx9).elim) hlocks hcell9 hv9 hcl9 (fun t9 ht9 _ => ⟨(), trivial, rfl, hS1.F ht9⟩) hS1.2.2 (Nat.le_of_ble_eq_true rfl) (Nat.le_of_ble_eq_true rfl)
  · skip
    exact hw.elim
def wv_f_within : List Cond := .code yX11_within cX11_within 2 (some .boolean) :: ([.fieldLink RX11 59 "MotionSigns" "algebra" "LMotionSigns$Algebra;", .methodLink RX11 201 yX11_baseOf, .instanceMethod yX11_baseOf, .selects RX11 yX11_baseOf yX11_baseOf, .initialized RX11] ++ (wsX110 ++ (wv_f_baseOf ++ ([]))))
theorem gw_f_within : wv_f_within.all goodWord = true := by decide +kernel
theorem in_f_within_X11 : ∀ w ∈ wsX110, w ∈ wv_f_within := fun _ h => List.mem_cons_of_mem _ (List.mem_append_right _ (List.mem_append_left _ h))
theorem g_f_within_f_baseOf_201 : GoodIn wv_f_within (wsV RX11 201 RX11 yX11_baseOf wv_f_baseOf) := goodIn_app (goodIn_of _ (by decide +kernel)) (goodIn_sub (fun _ h => List.mem_cons_of_mem _ (List.mem_append_right _ (List.mem_append_right _ (List.mem_append_left _ h)))) gw_f_baseOf)
set_option maxHeartbeats 4000000 in
set_option maxRecDepth 100000 in
/-- within on a fresh object: it throws -/
theorem c_f_within (l : Launch) (hlt : l.stackTraces = false) (dC : Nat → ClassId) (dI : Nat → Nat → Nat) (h0 : Nat) (qC : Nat) (r_h0_algebra : Nat) (x0 : Int32) (fs_h0 : List Value) (fs_qC : List Value) (hF_h0 : mF 19 [(7, .ref qC), (8, .ref r_h0_algebra)] fs_h0) (hF_qC : mF 13 [(8, .int 0)] fs_qC) (sz : Nat) : vx_Met l yX11_within wv_f_within ({ frames := 8, cells := 1, slots := 6, locals := 133 }) (va_Pc [.ref h0, .int x0] (fun U => U.heap.size = sz ∧ va_P (dC, dI) vwCl [(h0, .inr (11, fs_h0)), (qC, .inr (2, fs_qC))] U.heap ∧ va_K (dC, dI) vwCl [] U ∧ va_D (fun _ => True) [(h0, .inr (11, fs_h0)), (qC, .inr (2, fs_qC))] ∧ w_N U ∧ w_T (va_A [(h0, .inr (11, fs_h0)), (qC, .inr (2, fs_qC))] sz) U U.heap)) (va_Qi (fun (r : Int32) (_ : Unit) => False) (fun _ t => va_P (dC, dI) vwCl [] t.heap ∧ va_K (dC, dI) vwCl [] t ∧ va_D (va_A [(h0, .inr (11, fs_h0)), (qC, .inr (2, fs_qC))] sz) []) (va_A [(h0, .inr (11, fs_h0)), (qC, .inr (2, fs_qC))] sz)) (vx_X (fun _ : Unit => True) (fun E _ _ => E = "java/lang/IllegalStateException") (va_A [(h0, .inr (11, fs_h0)), (qC, .inr (2, fs_qC))] sz)) 1 6 (va_A [(h0, .inr (11, fs_h0)), (qC, .inr (2, fs_qC))] sz) := by
  refine vx_ofW (cc := cX11_within) (maxL := 2) (ret := (some .boolean)) (by decide) rfl ?_
  intro p e s m args below meth c s₁ B hml hnt hv
  obtain ⟨rfl, hsz, hP, hK, hD0, hN, hT⟩ := hv
  have hx := B.exec
  have hb := B.bytes
  have hr := B.returns
  have hts := atoms_spec (ws := wv_f_within) B.pre
  have hown : s.vm.findClass RX11 = some m.cls := findClass_of_methodNamed B.named
  have hlocks := B.notSynchronized
  subst hsz
  have hD := hD0.self (sz := s.heap.size)
  generalize hAe : va_A [(h0, .inr (11, fs_h0)), (qC, .inr (2, fs_qC))] s.heap.size = A at hD hT ⊢
  have hA : ∀ q : Nat, s.heap.size ≤ q → A q := fun q h => by rw [← hAe]; exact Or.inr h
  have hS : va_S A s.heap s.heap [] := va_S.rf
  have hP : va_P (dC, dI) vwCl [(h0, .inr (11, fs_h0)), (qC, .inr (2, fs_qC))] s.heap := hP
  have hl := lv_entry ([.ref h0, .int x0]) (n := 2) (Nat.le_of_ble_eq_true rfl)
  rw [lg_entry_eq]
  generalize (lg_sl ([.ref h0, .int x0]) ++ List.replicate (2 - (lg_sl ([.ref h0, .int x0])).length) Slot.unset).toArray = ls at hl ⊢
  have hl : lv_has ls 2 [(0, .ref h0), (1, .int x0)] := hl
  refine lv_aload_n hx hb dX11_within_0 rfl (lv_at hl 0 rfl) ?_
  refine va_get (D := (dC, dI)) (ci := 11) (v := .ref r_h0_algebra) (C := RX11) (T := TX11) (N := 19) hx hb hts (in_f_within_X11) hown hK hP 0 rfl rfl 8 (by decide) (hts (.fieldLink RX11 59 "MotionSigns" "algebra" "LMotionSigns$Algebra;") (List.mem_of_getElem? (i := 1) rfl)) (fun _ h9 => h9) (mF.get hF_h0 1 rfl) dX11_within_1 ?_
  refine lv_aload_n hx hb dX11_within_4 rfl (lv_at hl 0 rfl) ?_
  refine lv_iload_n hx hb dX11_within_5 rfl (lv_at hl 1 rfl) ?_
  have hPc := hP.sub (ws' := [(h0, .inr (11, fs_h0)), (qC, .inr (2, fs_qC))]) [0, 1] rfl
  have hDc := hD.sub (ws' := [(h0, .inr (11, fs_h0)), (qC, .inr (2, fs_qC))]) [0, 1] (by decide) rfl
  have hKc := hK.sub (tys' := []) [] rfl
  have hFc := va_free (wc := [(h0, .inr (11, fs_h0)), (qC, .inr (2, fs_qC))]) hD hS hA [0, 1] rfl
  refine vx_callr (vx_runV (As := [.int x0]) (rest := [.ref r_h0_algebra]) ⟨hx, hb, hml, hown, hts⟩ (c_f_baseOf l hlt dC dI h0 qC x0 fs_h0 fs_qC (mF.sub hF_h0 [0] rfl) (mF.sub hF_qC [0] rfl) H.size) (cwV 1 hts g_f_within_f_baseOf_201 rfl rfl rfl hd_X11_baseOf ⟨Nat.le_of_ble_eq_true rfl, Nat.le_of_ble_eq_true rfl⟩) ⟨fun a U g mk q => by obtain ⟨q0, q1, qP, qK, qD, qE0, qE1⟩ := q; exact ⟨q0, q1, qP, va_K.moved (u := U) (U := U.calling g mk a) (Vm.Alike.refl U.vm) qK, qD, w_N.same rfl qE0, w_T.same rfl rfl qE1⟩, va_recv hKc hPc (ci := 11) (q0 := 0) rfl rfl, fun U hU hW => ⟨rfl, by rw [hU], by rw [hU]; exact hPc, va_K.moved hW.alike hKc, hDc.weaken (fun _ _ _ _ => trivial), w_N.warm hW hN, w_T.go hT hW hS.2.1 hFc hU⟩⟩ rfl rfl hl.1 rfl (lv_room (Nat.le_of_ble_eq_true rfl)) dX11_within_6 ⟨(Nat.le_of_ble_eq_true rfl), (Nat.le_of_ble_eq_true rfl)⟩) hS (fun q _ h => hFc q h) hFc (fun q _ h => hFc q h) (fun E9 ce9 q9 u t H1 locs1 ht hvm hpx hBX hz1 hk1 hS1 hcell9 hv9 hcl9 => ?_) (fun u t H1 locs1 ht hvm hw hB hz1 hk1 hS1 => ?_)
  · skip
    obtain rfl : E9 = "java/lang/IllegalStateException" := hBX
    exact vx_out (fun x hx9 => (hnt x hx9).elim) hlocks hcell9 hv9 hcl9 (fun t9 ht9 _ => ⟨(), trivial, rfl, hS1.F ht9⟩) hS1.2.2 (Nat.le_of_ble_eq_true rfl) (Nat.le_of_ble_eq_true rfl)
  · skip
    exact hw.elim
def wv_f_closed : List Cond := .code yX11_closed cX11_closed 2 (some .boolean) :: ([.fieldLink RX11 59 "MotionSigns" "algebra" "LMotionSigns$Algebra;", .methodLink RX11 201 yX11_baseOf, .instanceMethod yX11_baseOf, .selects RX11 yX11_baseOf yX11_baseOf, .initialized RX11] ++ (wsX110 ++ (wv_f_baseOf ++ ([]))))
theorem gw_f_closed : wv_f_closed.all goodWord = true := by decide +kernel
theorem in_f_closed_X11 : ∀ w ∈ wsX110, w ∈ wv_f_closed := fun _ h => List.mem_cons_of_mem _ (List.mem_append_right _ (List.mem_append_left _ h))
theorem g_f_closed_f_baseOf_201 : GoodIn wv_f_closed (wsV RX11 201 RX11 yX11_baseOf wv_f_baseOf) := goodIn_app (goodIn_of _ (by decide +kernel)) (goodIn_sub (fun _ h => List.mem_cons_of_mem _ (List.mem_append_right _ (List.mem_append_right _ (List.mem_append_left _ h)))) gw_f_baseOf)
set_option maxHeartbeats 4000000 in
set_option maxRecDepth 100000 in
/-- closed on a fresh object: it throws -/
theorem c_f_closed (l : Launch) (hlt : l.stackTraces = false) (dC : Nat → ClassId) (dI : Nat → Nat → Nat) (h0 : Nat) (qC : Nat) (r_h0_algebra : Nat) (x0 : Int32) (fs_h0 : List Value) (fs_qC : List Value) (hF_h0 : mF 19 [(7, .ref qC), (8, .ref r_h0_algebra)] fs_h0) (hF_qC : mF 13 [(8, .int 0)] fs_qC) (sz : Nat) : vx_Met l yX11_closed wv_f_closed ({ frames := 8, cells := 1, slots := 6, locals := 133 }) (va_Pc [.ref h0, .int x0] (fun U => U.heap.size = sz ∧ va_P (dC, dI) vwCl [(h0, .inr (11, fs_h0)), (qC, .inr (2, fs_qC))] U.heap ∧ va_K (dC, dI) vwCl [] U ∧ va_D (fun _ => True) [(h0, .inr (11, fs_h0)), (qC, .inr (2, fs_qC))] ∧ w_N U ∧ w_T (va_A [(h0, .inr (11, fs_h0)), (qC, .inr (2, fs_qC))] sz) U U.heap)) (va_Qi (fun (r : Int32) (_ : Unit) => False) (fun _ t => va_P (dC, dI) vwCl [] t.heap ∧ va_K (dC, dI) vwCl [] t ∧ va_D (va_A [(h0, .inr (11, fs_h0)), (qC, .inr (2, fs_qC))] sz) []) (va_A [(h0, .inr (11, fs_h0)), (qC, .inr (2, fs_qC))] sz)) (vx_X (fun _ : Unit => True) (fun E _ _ => E = "java/lang/IllegalStateException") (va_A [(h0, .inr (11, fs_h0)), (qC, .inr (2, fs_qC))] sz)) 1 6 (va_A [(h0, .inr (11, fs_h0)), (qC, .inr (2, fs_qC))] sz) := by
  refine vx_ofW (cc := cX11_closed) (maxL := 2) (ret := (some .boolean)) (by decide) rfl ?_
  intro p e s m args below meth c s₁ B hml hnt hv
  obtain ⟨rfl, hsz, hP, hK, hD0, hN, hT⟩ := hv
  have hx := B.exec
  have hb := B.bytes
  have hr := B.returns
  have hts := atoms_spec (ws := wv_f_closed) B.pre
  have hown : s.vm.findClass RX11 = some m.cls := findClass_of_methodNamed B.named
  have hlocks := B.notSynchronized
  subst hsz
  have hD := hD0.self (sz := s.heap.size)
  generalize hAe : va_A [(h0, .inr (11, fs_h0)), (qC, .inr (2, fs_qC))] s.heap.size = A at hD hT ⊢
  have hA : ∀ q : Nat, s.heap.size ≤ q → A q := fun q h => by rw [← hAe]; exact Or.inr h
  have hS : va_S A s.heap s.heap [] := va_S.rf
  have hP : va_P (dC, dI) vwCl [(h0, .inr (11, fs_h0)), (qC, .inr (2, fs_qC))] s.heap := hP
  have hl := lv_entry ([.ref h0, .int x0]) (n := 2) (Nat.le_of_ble_eq_true rfl)
  rw [lg_entry_eq]
  generalize (lg_sl ([.ref h0, .int x0]) ++ List.replicate (2 - (lg_sl ([.ref h0, .int x0])).length) Slot.unset).toArray = ls at hl ⊢
  have hl : lv_has ls 2 [(0, .ref h0), (1, .int x0)] := hl
  refine lv_aload_n hx hb dX11_closed_0 rfl (lv_at hl 0 rfl) ?_
  refine va_get (D := (dC, dI)) (ci := 11) (v := .ref r_h0_algebra) (C := RX11) (T := TX11) (N := 19) hx hb hts (in_f_closed_X11) hown hK hP 0 rfl rfl 8 (by decide) (hts (.fieldLink RX11 59 "MotionSigns" "algebra" "LMotionSigns$Algebra;") (List.mem_of_getElem? (i := 1) rfl)) (fun _ h9 => h9) (mF.get hF_h0 1 rfl) dX11_closed_1 ?_
  refine lv_aload_n hx hb dX11_closed_4 rfl (lv_at hl 0 rfl) ?_
  refine lv_iload_n hx hb dX11_closed_5 rfl (lv_at hl 1 rfl) ?_
  have hPc := hP.sub (ws' := [(h0, .inr (11, fs_h0)), (qC, .inr (2, fs_qC))]) [0, 1] rfl
  have hDc := hD.sub (ws' := [(h0, .inr (11, fs_h0)), (qC, .inr (2, fs_qC))]) [0, 1] (by decide) rfl
  have hKc := hK.sub (tys' := []) [] rfl
  have hFc := va_free (wc := [(h0, .inr (11, fs_h0)), (qC, .inr (2, fs_qC))]) hD hS hA [0, 1] rfl
  refine vx_callr (vx_runV (As := [.int x0]) (rest := [.ref r_h0_algebra]) ⟨hx, hb, hml, hown, hts⟩ (c_f_baseOf l hlt dC dI h0 qC x0 fs_h0 fs_qC (mF.sub hF_h0 [0] rfl) (mF.sub hF_qC [0] rfl) H.size) (cwV 1 hts g_f_closed_f_baseOf_201 rfl rfl rfl hd_X11_baseOf ⟨Nat.le_of_ble_eq_true rfl, Nat.le_of_ble_eq_true rfl⟩) ⟨fun a U g mk q => by obtain ⟨q0, q1, qP, qK, qD, qE0, qE1⟩ := q; exact ⟨q0, q1, qP, va_K.moved (u := U) (U := U.calling g mk a) (Vm.Alike.refl U.vm) qK, qD, w_N.same rfl qE0, w_T.same rfl rfl qE1⟩, va_recv hKc hPc (ci := 11) (q0 := 0) rfl rfl, fun U hU hW => ⟨rfl, by rw [hU], by rw [hU]; exact hPc, va_K.moved hW.alike hKc, hDc.weaken (fun _ _ _ _ => trivial), w_N.warm hW hN, w_T.go hT hW hS.2.1 hFc hU⟩⟩ rfl rfl hl.1 rfl (lv_room (Nat.le_of_ble_eq_true rfl)) dX11_closed_6 ⟨(Nat.le_of_ble_eq_true rfl), (Nat.le_of_ble_eq_true rfl)⟩) hS (fun q _ h => hFc q h) hFc (fun q _ h => hFc q h) (fun E9 ce9 q9 u t H1 locs1 ht hvm hpx hBX hz1 hk1 hS1 hcell9 hv9 hcl9 => ?_) (fun u t H1 locs1 ht hvm hw hB hz1 hk1 hS1 => ?_)
  · skip
    obtain rfl : E9 = "java/lang/IllegalStateException" := hBX
    exact vx_out (fun x hx9 => (hnt x hx9).elim) hlocks hcell9 hv9 hcl9 (fun t9 ht9 _ => ⟨(), trivial, rfl, hS1.F ht9⟩) hS1.2.2 (Nat.le_of_ble_eq_true rfl) (Nat.le_of_ble_eq_true rfl)
  · skip
    exact hw.elim
def wv_f_constant : List Cond := .code yX11_constant cX11_constant 7 (some .long) :: ([.methodLink RX11 201 yX11_baseOf, .instanceMethod yX11_baseOf, .selects RX11 yX11_baseOf yX11_baseOf, .initialized RX11] ++ (wv_f_baseOf ++ ([])))
theorem gw_f_constant : wv_f_constant.all goodWord = true := by decide +kernel
theorem g_f_constant_f_baseOf_201 : GoodIn wv_f_constant (wsV RX11 201 RX11 yX11_baseOf wv_f_baseOf) := goodIn_app (goodIn_of _ (by decide +kernel)) (goodIn_sub (fun _ h => List.mem_cons_of_mem _ (List.mem_append_right _ (List.mem_append_left _ h))) gw_f_baseOf)
set_option maxHeartbeats 4000000 in
set_option maxRecDepth 100000 in
/-- constant on a fresh object: it throws -/
theorem c_f_constant (l : Launch) (hlt : l.stackTraces = false) (dC : Nat → ClassId) (dI : Nat → Nat → Nat) (h0 : Nat) (qC : Nat) (x0 : Int32) (x1 : Int32) (x2 : Int32) (x3 : Int32) (x4 : Int32) (fs_h0 : List Value) (fs_qC : List Value) (hF_h0 : mF 19 [(7, .ref qC)] fs_h0) (hF_qC : mF 13 [(8, .int 0)] fs_qC) (sz : Nat) : vx_Met l yX11_constant wv_f_constant ({ frames := 8, cells := 1, slots := 6, locals := 133 }) (va_Pc [.ref h0, .int x0, .int x1, .int x2, .int x3, .int x4] (fun U => U.heap.size = sz ∧ va_P (dC, dI) vwCl [(h0, .inr (11, fs_h0)), (qC, .inr (2, fs_qC))] U.heap ∧ va_K (dC, dI) vwCl [] U ∧ va_D (fun _ => True) [(h0, .inr (11, fs_h0)), (qC, .inr (2, fs_qC))] ∧ w_N U ∧ w_T (va_A [(h0, .inr (11, fs_h0)), (qC, .inr (2, fs_qC))] sz) U U.heap)) (va_Ql (fun (r : Int64) (_ : Unit) => False) (fun _ t => va_P (dC, dI) vwCl [] t.heap ∧ va_K (dC, dI) vwCl [] t ∧ va_D (va_A [(h0, .inr (11, fs_h0)), (qC, .inr (2, fs_qC))] sz) []) (va_A [(h0, .inr (11, fs_h0)), (qC, .inr (2, fs_qC))] sz)) (vx_X (fun _ : Unit => True) (fun E _ _ => E = "java/lang/IllegalStateException") (va_A [(h0, .inr (11, fs_h0)), (qC, .inr (2, fs_qC))] sz)) 1 6 (va_A [(h0, .inr (11, fs_h0)), (qC, .inr (2, fs_qC))] sz) := by
  refine vx_ofW (cc := cX11_constant) (maxL := 7) (ret := (some .long)) (by decide) rfl ?_
  intro p e s m args below meth c s₁ B hml hnt hv
  obtain ⟨rfl, hsz, hP, hK, hD0, hN, hT⟩ := hv
  have hx := B.exec
  have hb := B.bytes
  have hr := B.returns
  have hts := atoms_spec (ws := wv_f_constant) B.pre
  have hown : s.vm.findClass RX11 = some m.cls := findClass_of_methodNamed B.named
  have hlocks := B.notSynchronized
  subst hsz
  have hD := hD0.self (sz := s.heap.size)
  generalize hAe : va_A [(h0, .inr (11, fs_h0)), (qC, .inr (2, fs_qC))] s.heap.size = A at hD hT ⊢
  have hA : ∀ q : Nat, s.heap.size ≤ q → A q := fun q h => by rw [← hAe]; exact Or.inr h
  have hS : va_S A s.heap s.heap [] := va_S.rf
  have hP : va_P (dC, dI) vwCl [(h0, .inr (11, fs_h0)), (qC, .inr (2, fs_qC))] s.heap := hP
  have hl := lv_entry ([.ref h0, .int x0, .int x1, .int x2, .int x3, .int x4]) (n := 7) (Nat.le_of_ble_eq_true rfl)
  rw [lg_entry_eq]
  generalize (lg_sl ([.ref h0, .int x0, .int x1, .int x2, .int x3, .int x4]) ++ List.replicate (7 - (lg_sl ([.ref h0, .int x0, .int x1, .int x2, .int x3, .int x4])).length) Slot.unset).toArray = ls at hl ⊢
  have hl : lv_has ls 7 [(0, .ref h0), (1, .int x0), (2, .int x1), (3, .int x2), (4, .int x3), (5, .int x4)] := hl
  refine lv_aload_n hx hb dX11_constant_0 rfl (lv_at hl 0 rfl) ?_
  refine lv_iload_n hx hb dX11_constant_1 rfl (lv_at hl 1 rfl) ?_
  have hPc := hP.sub (ws' := [(h0, .inr (11, fs_h0)), (qC, .inr (2, fs_qC))]) [0, 1] rfl
  have hDc := hD.sub (ws' := [(h0, .inr (11, fs_h0)), (qC, .inr (2, fs_qC))]) [0, 1] (by decide) rfl
  have hKc := hK.sub (tys' := []) [] rfl
  have hFc := va_free (wc := [(h0, .inr (11, fs_h0)), (qC, .inr (2, fs_qC))]) hD hS hA [0, 1] rfl
  refine vx_callr (vx_runV (As := [.int x0]) (rest := []) ⟨hx, hb, hml, hown, hts⟩ (c_f_baseOf l hlt dC dI h0 qC x0 fs_h0 fs_qC (mF.sub hF_h0 [0] rfl) (mF.sub hF_qC [0] rfl) H.size) (cwV 1 hts g_f_constant_f_baseOf_201 rfl rfl rfl hd_X11_baseOf ⟨Nat.le_of_ble_eq_true rfl, Nat.le_of_ble_eq_true rfl⟩) ⟨fun a U g mk q => by obtain ⟨q0, q1, qP, qK, qD, qE0, qE1⟩ := q; exact ⟨q0, q1, qP, va_K.moved (u := U) (U := U.calling g mk a) (Vm.Alike.refl U.vm) qK, qD, w_N.same rfl qE0, w_T.same rfl rfl qE1⟩, va_recv hKc hPc (ci := 11) (q0 := 0) rfl rfl, fun U hU hW => ⟨rfl, by rw [hU], by rw [hU]; exact hPc, va_K.moved hW.alike hKc, hDc.weaken (fun _ _ _ _ => trivial), w_N.warm hW hN, w_T.go hT hW hS.2.1 hFc hU⟩⟩ rfl rfl hl.1 rfl (lv_room (Nat.le_of_ble_eq_true rfl)) dX11_constant_2 ⟨(Nat.le_of_ble_eq_true rfl), (Nat.le_of_ble_eq_true rfl)⟩) hS (fun q _ h => hFc q h) hFc (fun q _ h => hFc q h) (fun E9 ce9 q9 u t H1 locs1 ht hvm hpx hBX hz1 hk1 hS1 hcell9 hv9 hcl9 => ?_) (fun u t H1 locs1 ht hvm hw hB hz1 hk1 hS1 => ?_)
  · skip
    obtain rfl : E9 = "java/lang/IllegalStateException" := hBX
    exact vx_out (fun x hx9 => (hnt x hx9).elim) hlocks hcell9 hv9 hcl9 (fun t9 ht9 _ => ⟨(), trivial, rfl, hS1.F ht9⟩) hS1.2.2 (Nat.le_of_ble_eq_true rfl) (Nat.le_of_ble_eq_true rfl)
  · skip
    exact hw.elim
def wv_f_kind : List Cond := .code yX11_kind cX11_kind 4 (some .int) :: ([.methodLink RX11 201 yX11_baseOf, .instanceMethod yX11_baseOf, .selects RX11 yX11_baseOf yX11_baseOf, .initialized RX11] ++ (wv_f_baseOf ++ ([])))
theorem gw_f_kind : wv_f_kind.all goodWord = true := by decide +kernel
theorem g_f_kind_f_baseOf_201 : GoodIn wv_f_kind (wsV RX11 201 RX11 yX11_baseOf wv_f_baseOf) := goodIn_app (goodIn_of _ (by decide +kernel)) (goodIn_sub (fun _ h => List.mem_cons_of_mem _ (List.mem_append_right _ (List.mem_append_left _ h))) gw_f_baseOf)
set_option maxHeartbeats 4000000 in
set_option maxRecDepth 100000 in
/-- kind on a fresh object: it throws -/
theorem c_f_kind (l : Launch) (hlt : l.stackTraces = false) (dC : Nat → ClassId) (dI : Nat → Nat → Nat) (h0 : Nat) (qC : Nat) (x0 : Int32) (x1 : Int32) (fs_h0 : List Value) (fs_qC : List Value) (hF_h0 : mF 19 [(7, .ref qC)] fs_h0) (hF_qC : mF 13 [(8, .int 0)] fs_qC) (sz : Nat) : vx_Met l yX11_kind wv_f_kind ({ frames := 8, cells := 1, slots := 6, locals := 133 }) (va_Pc [.ref h0, .int x0, .int x1] (fun U => U.heap.size = sz ∧ va_P (dC, dI) vwCl [(h0, .inr (11, fs_h0)), (qC, .inr (2, fs_qC))] U.heap ∧ va_K (dC, dI) vwCl [] U ∧ va_D (fun _ => True) [(h0, .inr (11, fs_h0)), (qC, .inr (2, fs_qC))] ∧ w_N U ∧ w_T (va_A [(h0, .inr (11, fs_h0)), (qC, .inr (2, fs_qC))] sz) U U.heap)) (va_Qi (fun (r : Int32) (_ : Unit) => False) (fun _ t => va_P (dC, dI) vwCl [] t.heap ∧ va_K (dC, dI) vwCl [] t ∧ va_D (va_A [(h0, .inr (11, fs_h0)), (qC, .inr (2, fs_qC))] sz) []) (va_A [(h0, .inr (11, fs_h0)), (qC, .inr (2, fs_qC))] sz)) (vx_X (fun _ : Unit => True) (fun E _ _ => E = "java/lang/IllegalStateException") (va_A [(h0, .inr (11, fs_h0)), (qC, .inr (2, fs_qC))] sz)) 1 6 (va_A [(h0, .inr (11, fs_h0)), (qC, .inr (2, fs_qC))] sz) := by
  refine vx_ofW (cc := cX11_kind) (maxL := 4) (ret := (some .int)) (by decide) rfl ?_
  intro p e s m args below meth c s₁ B hml hnt hv
  obtain ⟨rfl, hsz, hP, hK, hD0, hN, hT⟩ := hv
  have hx := B.exec
  have hb := B.bytes
  have hr := B.returns
  have hts := atoms_spec (ws := wv_f_kind) B.pre
  have hown : s.vm.findClass RX11 = some m.cls := findClass_of_methodNamed B.named
  have hlocks := B.notSynchronized
  subst hsz
  have hD := hD0.self (sz := s.heap.size)
  generalize hAe : va_A [(h0, .inr (11, fs_h0)), (qC, .inr (2, fs_qC))] s.heap.size = A at hD hT ⊢
  have hA : ∀ q : Nat, s.heap.size ≤ q → A q := fun q h => by rw [← hAe]; exact Or.inr h
  have hS : va_S A s.heap s.heap [] := va_S.rf
  have hP : va_P (dC, dI) vwCl [(h0, .inr (11, fs_h0)), (qC, .inr (2, fs_qC))] s.heap := hP
  have hl := lv_entry ([.ref h0, .int x0, .int x1]) (n := 4) (Nat.le_of_ble_eq_true rfl)
  rw [lg_entry_eq]
  generalize (lg_sl ([.ref h0, .int x0, .int x1]) ++ List.replicate (4 - (lg_sl ([.ref h0, .int x0, .int x1])).length) Slot.unset).toArray = ls at hl ⊢
  have hl : lv_has ls 4 [(0, .ref h0), (1, .int x0), (2, .int x1)] := hl
  refine lv_aload_n hx hb dX11_kind_0 rfl (lv_at hl 0 rfl) ?_
  refine lv_iload_n hx hb dX11_kind_1 rfl (lv_at hl 1 rfl) ?_
  have hPc := hP.sub (ws' := [(h0, .inr (11, fs_h0)), (qC, .inr (2, fs_qC))]) [0, 1] rfl
  have hDc := hD.sub (ws' := [(h0, .inr (11, fs_h0)), (qC, .inr (2, fs_qC))]) [0, 1] (by decide) rfl
  have hKc := hK.sub (tys' := []) [] rfl
  have hFc := va_free (wc := [(h0, .inr (11, fs_h0)), (qC, .inr (2, fs_qC))]) hD hS hA [0, 1] rfl
  refine vx_callr (vx_runV (As := [.int x0]) (rest := []) ⟨hx, hb, hml, hown, hts⟩ (c_f_baseOf l hlt dC dI h0 qC x0 fs_h0 fs_qC (mF.sub hF_h0 [0] rfl) (mF.sub hF_qC [0] rfl) H.size) (cwV 1 hts g_f_kind_f_baseOf_201 rfl rfl rfl hd_X11_baseOf ⟨Nat.le_of_ble_eq_true rfl, Nat.le_of_ble_eq_true rfl⟩) ⟨fun a U g mk q => by obtain ⟨q0, q1, qP, qK, qD, qE0, qE1⟩ := q; exact ⟨q0, q1, qP, va_K.moved (u := U) (U := U.calling g mk a) (Vm.Alike.refl U.vm) qK, qD, w_N.same rfl qE0, w_T.same rfl rfl qE1⟩, va_recv hKc hPc (ci := 11) (q0 := 0) rfl rfl, fun U hU hW => ⟨rfl, by rw [hU], by rw [hU]; exact hPc, va_K.moved hW.alike hKc, hDc.weaken (fun _ _ _ _ => trivial), w_N.warm hW hN, w_T.go hT hW hS.2.1 hFc hU⟩⟩ rfl rfl hl.1 rfl (lv_room (Nat.le_of_ble_eq_true rfl)) dX11_kind_2 ⟨(Nat.le_of_ble_eq_true rfl), (Nat.le_of_ble_eq_true rfl)⟩) hS (fun q _ h => hFc q h) hFc (fun q _ h => hFc q h) (fun E9 ce9 q9 u t H1 locs1 ht hvm hpx hBX hz1 hk1 hS1 hcell9 hv9 hcl9 => ?_) (fun u t H1 locs1 ht hvm hw hB hz1 hk1 hS1 => ?_)
  · skip
    obtain rfl : E9 = "java/lang/IllegalStateException" := hBX
    exact vx_out (fun x hx9 => (hnt x hx9).elim) hlocks hcell9 hv9 hcl9 (fun t9 ht9 _ => ⟨(), trivial, rfl, hS1.F ht9⟩) hS1.2.2 (Nat.le_of_ble_eq_true rfl) (Nat.le_of_ble_eq_true rfl)
  · skip
    exact hw.elim
def wv_f_steps : List Cond := .code yX11_steps cX11_steps 5 (some .int) :: ([.methodLink RX11 201 yX11_baseOf, .instanceMethod yX11_baseOf, .selects RX11 yX11_baseOf yX11_baseOf, .initialized RX11] ++ (wv_f_baseOf ++ ([])))
theorem gw_f_steps : wv_f_steps.all goodWord = true := by decide +kernel
theorem g_f_steps_f_baseOf_201 : GoodIn wv_f_steps (wsV RX11 201 RX11 yX11_baseOf wv_f_baseOf) := goodIn_app (goodIn_of _ (by decide +kernel)) (goodIn_sub (fun _ h => List.mem_cons_of_mem _ (List.mem_append_right _ (List.mem_append_left _ h))) gw_f_baseOf)
set_option maxHeartbeats 4000000 in
set_option maxRecDepth 100000 in
/-- steps on a fresh object: it throws -/
theorem c_f_steps (l : Launch) (hlt : l.stackTraces = false) (dC : Nat → ClassId) (dI : Nat → Nat → Nat) (h0 : Nat) (qC : Nat) (x0 : Int32) (x1 : Int32) (x2 : Int32) (fs_h0 : List Value) (fs_qC : List Value) (hF_h0 : mF 19 [(7, .ref qC)] fs_h0) (hF_qC : mF 13 [(8, .int 0)] fs_qC) (sz : Nat) : vx_Met l yX11_steps wv_f_steps ({ frames := 8, cells := 1, slots := 6, locals := 133 }) (va_Pc [.ref h0, .int x0, .int x1, .int x2] (fun U => U.heap.size = sz ∧ va_P (dC, dI) vwCl [(h0, .inr (11, fs_h0)), (qC, .inr (2, fs_qC))] U.heap ∧ va_K (dC, dI) vwCl [] U ∧ va_D (fun _ => True) [(h0, .inr (11, fs_h0)), (qC, .inr (2, fs_qC))] ∧ w_N U ∧ w_T (va_A [(h0, .inr (11, fs_h0)), (qC, .inr (2, fs_qC))] sz) U U.heap)) (va_Qi (fun (r : Int32) (_ : Unit) => False) (fun _ t => va_P (dC, dI) vwCl [] t.heap ∧ va_K (dC, dI) vwCl [] t ∧ va_D (va_A [(h0, .inr (11, fs_h0)), (qC, .inr (2, fs_qC))] sz) []) (va_A [(h0, .inr (11, fs_h0)), (qC, .inr (2, fs_qC))] sz)) (vx_X (fun _ : Unit => True) (fun E _ _ => E = "java/lang/IllegalStateException") (va_A [(h0, .inr (11, fs_h0)), (qC, .inr (2, fs_qC))] sz)) 1 6 (va_A [(h0, .inr (11, fs_h0)), (qC, .inr (2, fs_qC))] sz) := by
  refine vx_ofW (cc := cX11_steps) (maxL := 5) (ret := (some .int)) (by decide) rfl ?_
  intro p e s m args below meth c s₁ B hml hnt hv
  obtain ⟨rfl, hsz, hP, hK, hD0, hN, hT⟩ := hv
  have hx := B.exec
  have hb := B.bytes
  have hr := B.returns
  have hts := atoms_spec (ws := wv_f_steps) B.pre
  have hown : s.vm.findClass RX11 = some m.cls := findClass_of_methodNamed B.named
  have hlocks := B.notSynchronized
  subst hsz
  have hD := hD0.self (sz := s.heap.size)
  generalize hAe : va_A [(h0, .inr (11, fs_h0)), (qC, .inr (2, fs_qC))] s.heap.size = A at hD hT ⊢
  have hA : ∀ q : Nat, s.heap.size ≤ q → A q := fun q h => by rw [← hAe]; exact Or.inr h
  have hS : va_S A s.heap s.heap [] := va_S.rf
  have hP : va_P (dC, dI) vwCl [(h0, .inr (11, fs_h0)), (qC, .inr (2, fs_qC))] s.heap := hP
  have hl := lv_entry ([.ref h0, .int x0, .int x1, .int x2]) (n := 5) (Nat.le_of_ble_eq_true rfl)
  rw [lg_entry_eq]
  generalize (lg_sl ([.ref h0, .int x0, .int x1, .int x2]) ++ List.replicate (5 - (lg_sl ([.ref h0, .int x0, .int x1, .int x2])).length) Slot.unset).toArray = ls at hl ⊢
  have hl : lv_has ls 5 [(0, .ref h0), (1, .int x0), (2, .int x1), (3, .int x2)] := hl
  refine lv_aload_n hx hb dX11_steps_0 rfl (lv_at hl 0 rfl) ?_
  refine lv_iload_n hx hb dX11_steps_1 rfl (lv_at hl 1 rfl) ?_
  have hPc := hP.sub (ws' := [(h0, .inr (11, fs_h0)), (qC, .inr (2, fs_qC))]) [0, 1] rfl
  have hDc := hD.sub (ws' := [(h0, .inr (11, fs_h0)), (qC, .inr (2, fs_qC))]) [0, 1] (by decide) rfl
  have hKc := hK.sub (tys' := []) [] rfl
  have hFc := va_free (wc := [(h0, .inr (11, fs_h0)), (qC, .inr (2, fs_qC))]) hD hS hA [0, 1] rfl
  refine vx_callr (vx_runV (As := [.int x0]) (rest := []) ⟨hx, hb, hml, hown, hts⟩ (c_f_baseOf l hlt dC dI h0 qC x0 fs_h0 fs_qC (mF.sub hF_h0 [0] rfl) (mF.sub hF_qC [0] rfl) H.size) (cwV 1 hts g_f_steps_f_baseOf_201 rfl rfl rfl hd_X11_baseOf ⟨Nat.le_of_ble_eq_true rfl, Nat.le_of_ble_eq_true rfl⟩) ⟨fun a U g mk q => by obtain ⟨q0, q1, qP, qK, qD, qE0, qE1⟩ := q; exact ⟨q0, q1, qP, va_K.moved (u := U) (U := U.calling g mk a) (Vm.Alike.refl U.vm) qK, qD, w_N.same rfl qE0, w_T.same rfl rfl qE1⟩, va_recv hKc hPc (ci := 11) (q0 := 0) rfl rfl, fun U hU hW => ⟨rfl, by rw [hU], by rw [hU]; exact hPc, va_K.moved hW.alike hKc, hDc.weaken (fun _ _ _ _ => trivial), w_N.warm hW hN, w_T.go hT hW hS.2.1 hFc hU⟩⟩ rfl rfl hl.1 rfl (lv_room (Nat.le_of_ble_eq_true rfl)) dX11_steps_2 ⟨(Nat.le_of_ble_eq_true rfl), (Nat.le_of_ble_eq_true rfl)⟩) hS (fun q _ h => hFc q h) hFc (fun q _ h => hFc q h) (fun E9 ce9 q9 u t H1 locs1 ht hvm hpx hBX hz1 hk1 hS1 hcell9 hv9 hcl9 => ?_) (fun u t H1 locs1 ht hvm hw hB hz1 hk1 hS1 => ?_)
  · skip
    obtain rfl : E9 = "java/lang/IllegalStateException" := hBX
    exact vx_out (fun x hx9 => (hnt x hx9).elim) hlocks hcell9 hv9 hcl9 (fun t9 ht9 _ => ⟨(), trivial, rfl, hS1.F ht9⟩) hS1.2.2 (Nat.le_of_ble_eq_true rfl) (Nat.le_of_ble_eq_true rfl)
  · skip
    exact hw.elim
def wv_f_bracket : List Cond := .code yX11_bracket cX11_bracket 5 (some .int) :: ([.methodLink RX11 201 yX11_baseOf, .instanceMethod yX11_baseOf, .selects RX11 yX11_baseOf yX11_baseOf, .initialized RX11] ++ (wv_f_baseOf ++ ([])))
theorem gw_f_bracket : wv_f_bracket.all goodWord = true := by decide +kernel
theorem g_f_bracket_f_baseOf_201 : GoodIn wv_f_bracket (wsV RX11 201 RX11 yX11_baseOf wv_f_baseOf) := goodIn_app (goodIn_of _ (by decide +kernel)) (goodIn_sub (fun _ h => List.mem_cons_of_mem _ (List.mem_append_right _ (List.mem_append_left _ h))) gw_f_baseOf)
set_option maxHeartbeats 4000000 in
set_option maxRecDepth 100000 in
/-- bracket on a fresh object: it throws -/
theorem c_f_bracket (l : Launch) (hlt : l.stackTraces = false) (dC : Nat → ClassId) (dI : Nat → Nat → Nat) (h0 : Nat) (qC : Nat) (x0 : Int32) (x1 : Int32) (x2 : Int32) (fs_h0 : List Value) (fs_qC : List Value) (hF_h0 : mF 19 [(7, .ref qC)] fs_h0) (hF_qC : mF 13 [(8, .int 0)] fs_qC) (sz : Nat) : vx_Met l yX11_bracket wv_f_bracket ({ frames := 8, cells := 1, slots := 6, locals := 133 }) (va_Pc [.ref h0, .int x0, .int x1, .int x2] (fun U => U.heap.size = sz ∧ va_P (dC, dI) vwCl [(h0, .inr (11, fs_h0)), (qC, .inr (2, fs_qC))] U.heap ∧ va_K (dC, dI) vwCl [] U ∧ va_D (fun _ => True) [(h0, .inr (11, fs_h0)), (qC, .inr (2, fs_qC))] ∧ w_N U ∧ w_T (va_A [(h0, .inr (11, fs_h0)), (qC, .inr (2, fs_qC))] sz) U U.heap)) (va_Qi (fun (r : Int32) (_ : Unit) => False) (fun _ t => va_P (dC, dI) vwCl [] t.heap ∧ va_K (dC, dI) vwCl [] t ∧ va_D (va_A [(h0, .inr (11, fs_h0)), (qC, .inr (2, fs_qC))] sz) []) (va_A [(h0, .inr (11, fs_h0)), (qC, .inr (2, fs_qC))] sz)) (vx_X (fun _ : Unit => True) (fun E _ _ => E = "java/lang/IllegalStateException") (va_A [(h0, .inr (11, fs_h0)), (qC, .inr (2, fs_qC))] sz)) 1 6 (va_A [(h0, .inr (11, fs_h0)), (qC, .inr (2, fs_qC))] sz) := by
  refine vx_ofW (cc := cX11_bracket) (maxL := 5) (ret := (some .int)) (by decide) rfl ?_
  intro p e s m args below meth c s₁ B hml hnt hv
  obtain ⟨rfl, hsz, hP, hK, hD0, hN, hT⟩ := hv
  have hx := B.exec
  have hb := B.bytes
  have hr := B.returns
  have hts := atoms_spec (ws := wv_f_bracket) B.pre
  have hown : s.vm.findClass RX11 = some m.cls := findClass_of_methodNamed B.named
  have hlocks := B.notSynchronized
  subst hsz
  have hD := hD0.self (sz := s.heap.size)
  generalize hAe : va_A [(h0, .inr (11, fs_h0)), (qC, .inr (2, fs_qC))] s.heap.size = A at hD hT ⊢
  have hA : ∀ q : Nat, s.heap.size ≤ q → A q := fun q h => by rw [← hAe]; exact Or.inr h
  have hS : va_S A s.heap s.heap [] := va_S.rf
  have hP : va_P (dC, dI) vwCl [(h0, .inr (11, fs_h0)), (qC, .inr (2, fs_qC))] s.heap := hP
  have hl := lv_entry ([.ref h0, .int x0, .int x1, .int x2]) (n := 5) (Nat.le_of_ble_eq_true rfl)
  rw [lg_entry_eq]
  generalize (lg_sl ([.ref h0, .int x0, .int x1, .int x2]) ++ List.replicate (5 - (lg_sl ([.ref h0, .int x0, .int x1, .int x2])).length) Slot.unset).toArray = ls at hl ⊢
  have hl : lv_has ls 5 [(0, .ref h0), (1, .int x0), (2, .int x1), (3, .int x2)] := hl
  refine lv_aload_n hx hb dX11_bracket_0 rfl (lv_at hl 0 rfl) ?_
  refine lv_iload_n hx hb dX11_bracket_1 rfl (lv_at hl 1 rfl) ?_
  have hPc := hP.sub (ws' := [(h0, .inr (11, fs_h0)), (qC, .inr (2, fs_qC))]) [0, 1] rfl
  have hDc := hD.sub (ws' := [(h0, .inr (11, fs_h0)), (qC, .inr (2, fs_qC))]) [0, 1] (by decide) rfl
  have hKc := hK.sub (tys' := []) [] rfl
  have hFc := va_free (wc := [(h0, .inr (11, fs_h0)), (qC, .inr (2, fs_qC))]) hD hS hA [0, 1] rfl
  refine vx_callr (vx_runV (As := [.int x0]) (rest := []) ⟨hx, hb, hml, hown, hts⟩ (c_f_baseOf l hlt dC dI h0 qC x0 fs_h0 fs_qC (mF.sub hF_h0 [0] rfl) (mF.sub hF_qC [0] rfl) H.size) (cwV 1 hts g_f_bracket_f_baseOf_201 rfl rfl rfl hd_X11_baseOf ⟨Nat.le_of_ble_eq_true rfl, Nat.le_of_ble_eq_true rfl⟩) ⟨fun a U g mk q => by obtain ⟨q0, q1, qP, qK, qD, qE0, qE1⟩ := q; exact ⟨q0, q1, qP, va_K.moved (u := U) (U := U.calling g mk a) (Vm.Alike.refl U.vm) qK, qD, w_N.same rfl qE0, w_T.same rfl rfl qE1⟩, va_recv hKc hPc (ci := 11) (q0 := 0) rfl rfl, fun U hU hW => ⟨rfl, by rw [hU], by rw [hU]; exact hPc, va_K.moved hW.alike hKc, hDc.weaken (fun _ _ _ _ => trivial), w_N.warm hW hN, w_T.go hT hW hS.2.1 hFc hU⟩⟩ rfl rfl hl.1 rfl (lv_room (Nat.le_of_ble_eq_true rfl)) dX11_bracket_2 ⟨(Nat.le_of_ble_eq_true rfl), (Nat.le_of_ble_eq_true rfl)⟩) hS (fun q _ h => hFc q h) hFc (fun q _ h => hFc q h) (fun E9 ce9 q9 u t H1 locs1 ht hvm hpx hBX hz1 hk1 hS1 hcell9 hv9 hcl9 => ?_) (fun u t H1 locs1 ht hvm hw hB hz1 hk1 hS1 => ?_)
  · skip
    obtain rfl : E9 = "java/lang/IllegalStateException" := hBX
    exact vx_out (fun x hx9 => (hnt x hx9).elim) hlocks hcell9 hv9 hcl9 (fun t9 ht9 _ => ⟨(), trivial, rfl, hS1.F ht9⟩) hS1.2.2 (Nat.le_of_ble_eq_true rfl) (Nat.le_of_ble_eq_true rfl)
  · skip
    exact hw.elim
def wv_f_stretches : List Cond := .code yX11_stretches cX11_stretches 1 (some .int) :: ([.methodLink RX11 159 yX11_needEquation, .instanceMethod yX11_needEquation, .selects RX11 yX11_needEquation yX11_needEquation, .initialized RX11] ++ (wv_f_needEquation ++ ([])))
theorem gw_f_stretches : wv_f_stretches.all goodWord = true := by decide +kernel
theorem g_f_stretches_f_needEquation_159 : GoodIn wv_f_stretches (wsV RX11 159 RX11 yX11_needEquation wv_f_needEquation) := goodIn_app (goodIn_of _ (by decide +kernel)) (goodIn_sub (fun _ h => List.mem_cons_of_mem _ (List.mem_append_right _ (List.mem_append_left _ h))) gw_f_needEquation)
set_option maxHeartbeats 4000000 in
set_option maxRecDepth 100000 in
/-- stretches on a fresh object: it throws -/
theorem c_f_stretches (l : Launch) (hlt : l.stackTraces = false) (dC : Nat → ClassId) (dI : Nat → Nat → Nat) (h0 : Nat) (qC : Nat) (fs_h0 : List Value) (fs_qC : List Value) (hF_h0 : mF 19 [(7, .ref qC)] fs_h0) (hF_qC : mF 13 [(8, .int 0)] fs_qC) (sz : Nat) : vx_Met l yX11_stretches wv_f_stretches ({ frames := 7, cells := 1, slots := 6, locals := 110 }) (va_Pc [.ref h0] (fun U => U.heap.size = sz ∧ va_P (dC, dI) vwCl [(h0, .inr (11, fs_h0)), (qC, .inr (2, fs_qC))] U.heap ∧ va_K (dC, dI) vwCl [] U ∧ va_D (fun _ => True) [(h0, .inr (11, fs_h0)), (qC, .inr (2, fs_qC))] ∧ w_N U ∧ w_T (va_A [(h0, .inr (11, fs_h0)), (qC, .inr (2, fs_qC))] sz) U U.heap)) (va_Qi (fun (r : Int32) (_ : Unit) => False) (fun _ t => va_P (dC, dI) vwCl [] t.heap ∧ va_K (dC, dI) vwCl [] t ∧ va_D (va_A [(h0, .inr (11, fs_h0)), (qC, .inr (2, fs_qC))] sz) []) (va_A [(h0, .inr (11, fs_h0)), (qC, .inr (2, fs_qC))] sz)) (vx_X (fun _ : Unit => True) (fun E _ _ => E = "java/lang/IllegalStateException") (va_A [(h0, .inr (11, fs_h0)), (qC, .inr (2, fs_qC))] sz)) 1 6 (va_A [(h0, .inr (11, fs_h0)), (qC, .inr (2, fs_qC))] sz) := by
  refine vx_ofW (cc := cX11_stretches) (maxL := 1) (ret := (some .int)) (by decide) rfl ?_
  intro p e s m args below meth c s₁ B hml hnt hv
  obtain ⟨rfl, hsz, hP, hK, hD0, hN, hT⟩ := hv
  have hx := B.exec
  have hb := B.bytes
  have hr := B.returns
  have hts := atoms_spec (ws := wv_f_stretches) B.pre
  have hown : s.vm.findClass RX11 = some m.cls := findClass_of_methodNamed B.named
  have hlocks := B.notSynchronized
  subst hsz
  have hD := hD0.self (sz := s.heap.size)
  generalize hAe : va_A [(h0, .inr (11, fs_h0)), (qC, .inr (2, fs_qC))] s.heap.size = A at hD hT ⊢
  have hA : ∀ q : Nat, s.heap.size ≤ q → A q := fun q h => by rw [← hAe]; exact Or.inr h
  have hS : va_S A s.heap s.heap [] := va_S.rf
  have hP : va_P (dC, dI) vwCl [(h0, .inr (11, fs_h0)), (qC, .inr (2, fs_qC))] s.heap := hP
  have hl := lv_entry ([.ref h0]) (n := 1) (Nat.le_of_ble_eq_true rfl)
  rw [lg_entry_eq]
  generalize (lg_sl ([.ref h0]) ++ List.replicate (1 - (lg_sl ([.ref h0])).length) Slot.unset).toArray = ls at hl ⊢
  have hl : lv_has ls 1 [(0, .ref h0)] := hl
  refine lv_aload_n hx hb dX11_stretches_0 rfl (lv_at hl 0 rfl) ?_
  have hPc := hP.sub (ws' := [(h0, .inr (11, fs_h0)), (qC, .inr (2, fs_qC))]) [0, 1] rfl
  have hDc := hD.sub (ws' := [(h0, .inr (11, fs_h0)), (qC, .inr (2, fs_qC))]) [0, 1] (by decide) rfl
  have hKc := hK.sub (tys' := []) [] rfl
  have hFc := va_free (wc := [(h0, .inr (11, fs_h0)), (qC, .inr (2, fs_qC))]) hD hS hA [0, 1] rfl
  refine vx_callv (vx_runV (As := []) (rest := []) ⟨hx, hb, hml, hown, hts⟩ (c_f_needEquation l hlt dC dI h0 qC fs_h0 fs_qC (mF.sub hF_h0 [0] rfl) (mF.sub hF_qC [0] rfl) H.size) (cwV 0 hts g_f_stretches_f_needEquation_159 rfl rfl rfl hd_X11_needEquation ⟨Nat.le_of_ble_eq_true rfl, Nat.le_of_ble_eq_true rfl⟩) ⟨fun a U g mk q => by obtain ⟨q0, q1, qP, qK, qD, qE0, qE1⟩ := q; exact ⟨q0, q1, qP, va_K.moved (u := U) (U := U.calling g mk a) (Vm.Alike.refl U.vm) qK, qD, w_N.same rfl qE0, w_T.same rfl rfl qE1⟩, va_recv hKc hPc (ci := 11) (q0 := 0) rfl rfl, fun U hU hW => ⟨rfl, by rw [hU], by rw [hU]; exact hPc, va_K.moved hW.alike hKc, hDc.weaken (fun _ _ _ _ => trivial), w_N.warm hW hN, w_T.go hT hW hS.2.1 hFc hU⟩⟩ rfl rfl hl.1 rfl (lv_room (Nat.le_of_ble_eq_true rfl)) dX11_stretches_1 ⟨(Nat.le_of_ble_eq_true rfl), (Nat.le_of_ble_eq_true rfl)⟩) hS (fun q _ h => hFc q h) hFc (fun q _ h => hFc q h) (fun E9 ce9 q9 u t H1 locs1 ht hvm hpx hBX hz1 hk1 hS1 hcell9 hv9 hcl9 => ?_) (fun u t H1 locs1 ht hvm hw hB hz1 hk1 hS1 => ?_)
  · skip
    obtain rfl : E9 = "java/lang/IllegalStateException" := hBX
    exact vx_out (fun x hx9 => (hnt x hx9).elim) hlocks hcell9 hv9 hcl9 (fun t9 ht9 _ => ⟨(), trivial, rfl, hS1.F ht9⟩) hS1.2.2 (Nat.le_of_ble_eq_true rfl) (Nat.le_of_ble_eq_true rfl)
  · skip
    exact hw.elim
def wv_f_stretch : List Cond := .code yX11_stretch cX11_stretch 4 (some .int) :: ([.methodLink RX11 159 yX11_needEquation, .instanceMethod yX11_needEquation, .selects RX11 yX11_needEquation yX11_needEquation, .initialized RX11] ++ (wv_f_needEquation ++ ([])))
theorem gw_f_stretch : wv_f_stretch.all goodWord = true := by decide +kernel
theorem g_f_stretch_f_needEquation_159 : GoodIn wv_f_stretch (wsV RX11 159 RX11 yX11_needEquation wv_f_needEquation) := goodIn_app (goodIn_of _ (by decide +kernel)) (goodIn_sub (fun _ h => List.mem_cons_of_mem _ (List.mem_append_right _ (List.mem_append_left _ h))) gw_f_needEquation)
set_option maxHeartbeats 4000000 in
set_option maxRecDepth 100000 in
/-- stretch on a fresh object: it throws -/
theorem c_f_stretch (l : Launch) (hlt : l.stackTraces = false) (dC : Nat → ClassId) (dI : Nat → Nat → Nat) (h0 : Nat) (qC : Nat) (x0 : Int32) (x1 : Int32) (fs_h0 : List Value) (fs_qC : List Value) (hF_h0 : mF 19 [(7, .ref qC)] fs_h0) (hF_qC : mF 13 [(8, .int 0)] fs_qC) (sz : Nat) : vx_Met l yX11_stretch wv_f_stretch ({ frames := 7, cells := 1, slots := 6, locals := 110 }) (va_Pc [.ref h0, .int x0, .int x1] (fun U => U.heap.size = sz ∧ va_P (dC, dI) vwCl [(h0, .inr (11, fs_h0)), (qC, .inr (2, fs_qC))] U.heap ∧ va_K (dC, dI) vwCl [] U ∧ va_D (fun _ => True) [(h0, .inr (11, fs_h0)), (qC, .inr (2, fs_qC))] ∧ w_N U ∧ w_T (va_A [(h0, .inr (11, fs_h0)), (qC, .inr (2, fs_qC))] sz) U U.heap)) (va_Qi (fun (r : Int32) (_ : Unit) => False) (fun _ t => va_P (dC, dI) vwCl [] t.heap ∧ va_K (dC, dI) vwCl [] t ∧ va_D (va_A [(h0, .inr (11, fs_h0)), (qC, .inr (2, fs_qC))] sz) []) (va_A [(h0, .inr (11, fs_h0)), (qC, .inr (2, fs_qC))] sz)) (vx_X (fun _ : Unit => True) (fun E _ _ => E = "java/lang/IllegalStateException") (va_A [(h0, .inr (11, fs_h0)), (qC, .inr (2, fs_qC))] sz)) 1 6 (va_A [(h0, .inr (11, fs_h0)), (qC, .inr (2, fs_qC))] sz) := by
  refine vx_ofW (cc := cX11_stretch) (maxL := 4) (ret := (some .int)) (by decide) rfl ?_
  intro p e s m args below meth c s₁ B hml hnt hv
  obtain ⟨rfl, hsz, hP, hK, hD0, hN, hT⟩ := hv
  have hx := B.exec
  have hb := B.bytes
  have hr := B.returns
  have hts := atoms_spec (ws := wv_f_stretch) B.pre
  have hown : s.vm.findClass RX11 = some m.cls := findClass_of_methodNamed B.named
  have hlocks := B.notSynchronized
  subst hsz
  have hD := hD0.self (sz := s.heap.size)
  generalize hAe : va_A [(h0, .inr (11, fs_h0)), (qC, .inr (2, fs_qC))] s.heap.size = A at hD hT ⊢
  have hA : ∀ q : Nat, s.heap.size ≤ q → A q := fun q h => by rw [← hAe]; exact Or.inr h
  have hS : va_S A s.heap s.heap [] := va_S.rf
  have hP : va_P (dC, dI) vwCl [(h0, .inr (11, fs_h0)), (qC, .inr (2, fs_qC))] s.heap := hP
  have hl := lv_entry ([.ref h0, .int x0, .int x1]) (n := 4) (Nat.le_of_ble_eq_true rfl)
  rw [lg_entry_eq]
  generalize (lg_sl ([.ref h0, .int x0, .int x1]) ++ List.replicate (4 - (lg_sl ([.ref h0, .int x0, .int x1])).length) Slot.unset).toArray = ls at hl ⊢
  have hl : lv_has ls 4 [(0, .ref h0), (1, .int x0), (2, .int x1)] := hl
  refine lv_aload_n hx hb dX11_stretch_0 rfl (lv_at hl 0 rfl) ?_
  have hPc := hP.sub (ws' := [(h0, .inr (11, fs_h0)), (qC, .inr (2, fs_qC))]) [0, 1] rfl
  have hDc := hD.sub (ws' := [(h0, .inr (11, fs_h0)), (qC, .inr (2, fs_qC))]) [0, 1] (by decide) rfl
  have hKc := hK.sub (tys' := []) [] rfl
  have hFc := va_free (wc := [(h0, .inr (11, fs_h0)), (qC, .inr (2, fs_qC))]) hD hS hA [0, 1] rfl
  refine vx_callv (vx_runV (As := []) (rest := []) ⟨hx, hb, hml, hown, hts⟩ (c_f_needEquation l hlt dC dI h0 qC fs_h0 fs_qC (mF.sub hF_h0 [0] rfl) (mF.sub hF_qC [0] rfl) H.size) (cwV 0 hts g_f_stretch_f_needEquation_159 rfl rfl rfl hd_X11_needEquation ⟨Nat.le_of_ble_eq_true rfl, Nat.le_of_ble_eq_true rfl⟩) ⟨fun a U g mk q => by obtain ⟨q0, q1, qP, qK, qD, qE0, qE1⟩ := q; exact ⟨q0, q1, qP, va_K.moved (u := U) (U := U.calling g mk a) (Vm.Alike.refl U.vm) qK, qD, w_N.same rfl qE0, w_T.same rfl rfl qE1⟩, va_recv hKc hPc (ci := 11) (q0 := 0) rfl rfl, fun U hU hW => ⟨rfl, by rw [hU], by rw [hU]; exact hPc, va_K.moved hW.alike hKc, hDc.weaken (fun _ _ _ _ => trivial), w_N.warm hW hN, w_T.go hT hW hS.2.1 hFc hU⟩⟩ rfl rfl hl.1 rfl (lv_room (Nat.le_of_ble_eq_true rfl)) dX11_stretch_1 ⟨(Nat.le_of_ble_eq_true rfl), (Nat.le_of_ble_eq_true rfl)⟩) hS (fun q _ h => hFc q h) hFc (fun q _ h => hFc q h) (fun E9 ce9 q9 u t H1 locs1 ht hvm hpx hBX hz1 hk1 hS1 hcell9 hv9 hcl9 => ?_) (fun u t H1 locs1 ht hvm hw hB hz1 hk1 hS1 => ?_)
  · skip
    obtain rfl : E9 = "java/lang/IllegalStateException" := hBX
    exact vx_out (fun x hx9 => (hnt x hx9).elim) hlocks hcell9 hv9 hcl9 (fun t9 ht9 _ => ⟨(), trivial, rfl, hS1.F ht9⟩) hS1.2.2 (Nat.le_of_ble_eq_true rfl) (Nat.le_of_ble_eq_true rfl)
  · skip
    exact hw.elim
def wv_f_keeps : List Cond := .code yX11_keeps cX11_keeps 5 (some .int) :: ([.methodLink RX11 159 yX11_needEquation, .instanceMethod yX11_needEquation, .selects RX11 yX11_needEquation yX11_needEquation, .initialized RX11] ++ (wv_f_needEquation ++ ([])))
theorem gw_f_keeps : wv_f_keeps.all goodWord = true := by decide +kernel
theorem g_f_keeps_f_needEquation_159 : GoodIn wv_f_keeps (wsV RX11 159 RX11 yX11_needEquation wv_f_needEquation) := goodIn_app (goodIn_of _ (by decide +kernel)) (goodIn_sub (fun _ h => List.mem_cons_of_mem _ (List.mem_append_right _ (List.mem_append_left _ h))) gw_f_needEquation)
set_option maxHeartbeats 4000000 in
set_option maxRecDepth 100000 in
/-- keeps on a fresh object: it throws -/
theorem c_f_keeps (l : Launch) (hlt : l.stackTraces = false) (dC : Nat → ClassId) (dI : Nat → Nat → Nat) (h0 : Nat) (qC : Nat) (x0 : Int32) (x1 : Int32) (x2 : Int32) (fs_h0 : List Value) (fs_qC : List Value) (hF_h0 : mF 19 [(7, .ref qC)] fs_h0) (hF_qC : mF 13 [(8, .int 0)] fs_qC) (sz : Nat) : vx_Met l yX11_keeps wv_f_keeps ({ frames := 7, cells := 1, slots := 6, locals := 110 }) (va_Pc [.ref h0, .int x0, .int x1, .int x2] (fun U => U.heap.size = sz ∧ va_P (dC, dI) vwCl [(h0, .inr (11, fs_h0)), (qC, .inr (2, fs_qC))] U.heap ∧ va_K (dC, dI) vwCl [] U ∧ va_D (fun _ => True) [(h0, .inr (11, fs_h0)), (qC, .inr (2, fs_qC))] ∧ w_N U ∧ w_T (va_A [(h0, .inr (11, fs_h0)), (qC, .inr (2, fs_qC))] sz) U U.heap)) (va_Qi (fun (r : Int32) (_ : Unit) => False) (fun _ t => va_P (dC, dI) vwCl [] t.heap ∧ va_K (dC, dI) vwCl [] t ∧ va_D (va_A [(h0, .inr (11, fs_h0)), (qC, .inr (2, fs_qC))] sz) []) (va_A [(h0, .inr (11, fs_h0)), (qC, .inr (2, fs_qC))] sz)) (vx_X (fun _ : Unit => True) (fun E _ _ => E = "java/lang/IllegalStateException") (va_A [(h0, .inr (11, fs_h0)), (qC, .inr (2, fs_qC))] sz)) 1 6 (va_A [(h0, .inr (11, fs_h0)), (qC, .inr (2, fs_qC))] sz) := by
  refine vx_ofW (cc := cX11_keeps) (maxL := 5) (ret := (some .int)) (by decide) rfl ?_
  intro p e s m args below meth c s₁ B hml hnt hv
  obtain ⟨rfl, hsz, hP, hK, hD0, hN, hT⟩ := hv
  have hx := B.exec
  have hb := B.bytes
  have hr := B.returns
  have hts := atoms_spec (ws := wv_f_keeps) B.pre
  have hown : s.vm.findClass RX11 = some m.cls := findClass_of_methodNamed B.named
  have hlocks := B.notSynchronized
  subst hsz
  have hD := hD0.self (sz := s.heap.size)
  generalize hAe : va_A [(h0, .inr (11, fs_h0)), (qC, .inr (2, fs_qC))] s.heap.size = A at hD hT ⊢
  have hA : ∀ q : Nat, s.heap.size ≤ q → A q := fun q h => by rw [← hAe]; exact Or.inr h
  have hS : va_S A s.heap s.heap [] := va_S.rf
  have hP : va_P (dC, dI) vwCl [(h0, .inr (11, fs_h0)), (qC, .inr (2, fs_qC))] s.heap := hP
  have hl := lv_entry ([.ref h0, .int x0, .int x1, .int x2]) (n := 5) (Nat.le_of_ble_eq_true rfl)
  rw [lg_entry_eq]
  generalize (lg_sl ([.ref h0, .int x0, .int x1, .int x2]) ++ List.replicate (5 - (lg_sl ([.ref h0, .int x0, .int x1, .int x2])).length) Slot.unset).toArray = ls at hl ⊢
  have hl : lv_has ls 5 [(0, .ref h0), (1, .int x0), (2, .int x1), (3, .int x2)] := hl
  refine lv_aload_n hx hb dX11_keeps_0 rfl (lv_at hl 0 rfl) ?_
  have hPc := hP.sub (ws' := [(h0, .inr (11, fs_h0)), (qC, .inr (2, fs_qC))]) [0, 1] rfl
  have hDc := hD.sub (ws' := [(h0, .inr (11, fs_h0)), (qC, .inr (2, fs_qC))]) [0, 1] (by decide) rfl
  have hKc := hK.sub (tys' := []) [] rfl
  have hFc := va_free (wc := [(h0, .inr (11, fs_h0)), (qC, .inr (2, fs_qC))]) hD hS hA [0, 1] rfl
  refine vx_callv (vx_runV (As := []) (rest := []) ⟨hx, hb, hml, hown, hts⟩ (c_f_needEquation l hlt dC dI h0 qC fs_h0 fs_qC (mF.sub hF_h0 [0] rfl) (mF.sub hF_qC [0] rfl) H.size) (cwV 0 hts g_f_keeps_f_needEquation_159 rfl rfl rfl hd_X11_needEquation ⟨Nat.le_of_ble_eq_true rfl, Nat.le_of_ble_eq_true rfl⟩) ⟨fun a U g mk q => by obtain ⟨q0, q1, qP, qK, qD, qE0, qE1⟩ := q; exact ⟨q0, q1, qP, va_K.moved (u := U) (U := U.calling g mk a) (Vm.Alike.refl U.vm) qK, qD, w_N.same rfl qE0, w_T.same rfl rfl qE1⟩, va_recv hKc hPc (ci := 11) (q0 := 0) rfl rfl, fun U hU hW => ⟨rfl, by rw [hU], by rw [hU]; exact hPc, va_K.moved hW.alike hKc, hDc.weaken (fun _ _ _ _ => trivial), w_N.warm hW hN, w_T.go hT hW hS.2.1 hFc hU⟩⟩ rfl rfl hl.1 rfl (lv_room (Nat.le_of_ble_eq_true rfl)) dX11_keeps_1 ⟨(Nat.le_of_ble_eq_true rfl), (Nat.le_of_ble_eq_true rfl)⟩) hS (fun q _ h => hFc q h) hFc (fun q _ h => hFc q h) (fun E9 ce9 q9 u t H1 locs1 ht hvm hpx hBX hz1 hk1 hS1 hcell9 hv9 hcl9 => ?_) (fun u t H1 locs1 ht hvm hw hB hz1 hk1 hS1 => ?_)
  · skip
    obtain rfl : E9 = "java/lang/IllegalStateException" := hBX
    exact vx_out (fun x hx9 => (hnt x hx9).elim) hlocks hcell9 hv9 hcl9 (fun t9 ht9 _ => ⟨(), trivial, rfl, hS1.F ht9⟩) hS1.2.2 (Nat.le_of_ble_eq_true rfl) (Nat.le_of_ble_eq_true rfl)
  · skip
    exact hw.elim
def wv_f_sums : List Cond := .code yX11_sums cX11_sums 2 (some .int) :: ([.methodLink RX11 276 yX11_needDensities, .instanceMethod yX11_needDensities, .selects RX11 yX11_needDensities yX11_needDensities, .initialized RX11] ++ (wv_f_needDensities ++ ([])))
theorem gw_f_sums : wv_f_sums.all goodWord = true := by decide +kernel
theorem g_f_sums_f_needDensities_276 : GoodIn wv_f_sums (wsV RX11 276 RX11 yX11_needDensities wv_f_needDensities) := goodIn_app (goodIn_of _ (by decide +kernel)) (goodIn_sub (fun _ h => List.mem_cons_of_mem _ (List.mem_append_right _ (List.mem_append_left _ h))) gw_f_needDensities)
set_option maxHeartbeats 4000000 in
set_option maxRecDepth 100000 in
/-- sums on a fresh object: it throws -/
theorem c_f_sums (l : Launch) (hlt : l.stackTraces = false) (dC : Nat → ClassId) (dI : Nat → Nat → Nat) (h0 : Nat) (qC : Nat) (x0 : Int32) (fs_h0 : List Value) (fs_qC : List Value) (hF_h0 : mF 19 [(7, .ref qC)] fs_h0) (hF_qC : mF 13 [(8, .int 0)] fs_qC) (sz : Nat) : vx_Met l yX11_sums wv_f_sums ({ frames := 8, cells := 1, slots := 6, locals := 131 }) (va_Pc [.ref h0, .int x0] (fun U => U.heap.size = sz ∧ va_P (dC, dI) vwCl [(h0, .inr (11, fs_h0)), (qC, .inr (2, fs_qC))] U.heap ∧ va_K (dC, dI) vwCl [] U ∧ va_D (fun _ => True) [(h0, .inr (11, fs_h0)), (qC, .inr (2, fs_qC))] ∧ w_N U ∧ w_T (va_A [(h0, .inr (11, fs_h0)), (qC, .inr (2, fs_qC))] sz) U U.heap)) (va_Qi (fun (r : Int32) (_ : Unit) => False) (fun _ t => va_P (dC, dI) vwCl [] t.heap ∧ va_K (dC, dI) vwCl [] t ∧ va_D (va_A [(h0, .inr (11, fs_h0)), (qC, .inr (2, fs_qC))] sz) []) (va_A [(h0, .inr (11, fs_h0)), (qC, .inr (2, fs_qC))] sz)) (vx_X (fun _ : Unit => True) (fun E _ _ => E = "java/lang/IllegalStateException") (va_A [(h0, .inr (11, fs_h0)), (qC, .inr (2, fs_qC))] sz)) 1 6 (va_A [(h0, .inr (11, fs_h0)), (qC, .inr (2, fs_qC))] sz) := by
  refine vx_ofW (cc := cX11_sums) (maxL := 2) (ret := (some .int)) (by decide) rfl ?_
  intro p e s m args below meth c s₁ B hml hnt hv
  obtain ⟨rfl, hsz, hP, hK, hD0, hN, hT⟩ := hv
  have hx := B.exec
  have hb := B.bytes
  have hr := B.returns
  have hts := atoms_spec (ws := wv_f_sums) B.pre
  have hown : s.vm.findClass RX11 = some m.cls := findClass_of_methodNamed B.named
  have hlocks := B.notSynchronized
  subst hsz
  have hD := hD0.self (sz := s.heap.size)
  generalize hAe : va_A [(h0, .inr (11, fs_h0)), (qC, .inr (2, fs_qC))] s.heap.size = A at hD hT ⊢
  have hA : ∀ q : Nat, s.heap.size ≤ q → A q := fun q h => by rw [← hAe]; exact Or.inr h
  have hS : va_S A s.heap s.heap [] := va_S.rf
  have hP : va_P (dC, dI) vwCl [(h0, .inr (11, fs_h0)), (qC, .inr (2, fs_qC))] s.heap := hP
  have hl := lv_entry ([.ref h0, .int x0]) (n := 2) (Nat.le_of_ble_eq_true rfl)
  rw [lg_entry_eq]
  generalize (lg_sl ([.ref h0, .int x0]) ++ List.replicate (2 - (lg_sl ([.ref h0, .int x0])).length) Slot.unset).toArray = ls at hl ⊢
  have hl : lv_has ls 2 [(0, .ref h0), (1, .int x0)] := hl
  refine lv_aload_n hx hb dX11_sums_0 rfl (lv_at hl 0 rfl) ?_
  refine lv_iload_n hx hb dX11_sums_1 rfl (lv_at hl 1 rfl) ?_
  have hPc := hP.sub (ws' := [(h0, .inr (11, fs_h0)), (qC, .inr (2, fs_qC))]) [0, 1] rfl
  have hDc := hD.sub (ws' := [(h0, .inr (11, fs_h0)), (qC, .inr (2, fs_qC))]) [0, 1] (by decide) rfl
  have hKc := hK.sub (tys' := []) [] rfl
  have hFc := va_free (wc := [(h0, .inr (11, fs_h0)), (qC, .inr (2, fs_qC))]) hD hS hA [0, 1] rfl
  refine vx_callv (vx_runV (As := [.int x0]) (rest := []) ⟨hx, hb, hml, hown, hts⟩ (c_f_needDensities l hlt dC dI h0 qC x0 fs_h0 fs_qC (mF.sub hF_h0 [0] rfl) (mF.sub hF_qC [0] rfl) H.size) (cwV 1 hts g_f_sums_f_needDensities_276 rfl rfl rfl hd_X11_needDensities ⟨Nat.le_of_ble_eq_true rfl, Nat.le_of_ble_eq_true rfl⟩) ⟨fun a U g mk q => by obtain ⟨q0, q1, qP, qK, qD, qE0, qE1⟩ := q; exact ⟨q0, q1, qP, va_K.moved (u := U) (U := U.calling g mk a) (Vm.Alike.refl U.vm) qK, qD, w_N.same rfl qE0, w_T.same rfl rfl qE1⟩, va_recv hKc hPc (ci := 11) (q0 := 0) rfl rfl, fun U hU hW => ⟨rfl, by rw [hU], by rw [hU]; exact hPc, va_K.moved hW.alike hKc, hDc.weaken (fun _ _ _ _ => trivial), w_N.warm hW hN, w_T.go hT hW hS.2.1 hFc hU⟩⟩ rfl rfl hl.1 rfl (lv_room (Nat.le_of_ble_eq_true rfl)) dX11_sums_2 ⟨(Nat.le_of_ble_eq_true rfl), (Nat.le_of_ble_eq_true rfl)⟩) hS (fun q _ h => hFc q h) hFc (fun q _ h => hFc q h) (fun E9 ce9 q9 u t H1 locs1 ht hvm hpx hBX hz1 hk1 hS1 hcell9 hv9 hcl9 => ?_) (fun u t H1 locs1 ht hvm hw hB hz1 hk1 hS1 => ?_)
  · skip
    obtain rfl : E9 = "java/lang/IllegalStateException" := hBX
    exact vx_out (fun x hx9 => (hnt x hx9).elim) hlocks hcell9 hv9 hcl9 (fun t9 ht9 _ => ⟨(), trivial, rfl, hS1.F ht9⟩) hS1.2.2 (Nat.le_of_ble_eq_true rfl) (Nat.le_of_ble_eq_true rfl)
  · skip
    exact hw.elim
def wv_f_sum : List Cond := .code yX11_sum cX11_sum 7 (some .long) :: ([.methodLink RX11 276 yX11_needDensities, .instanceMethod yX11_needDensities, .selects RX11 yX11_needDensities yX11_needDensities, .initialized RX11] ++ (wv_f_needDensities ++ ([])))
theorem gw_f_sum : wv_f_sum.all goodWord = true := by decide +kernel
theorem g_f_sum_f_needDensities_276 : GoodIn wv_f_sum (wsV RX11 276 RX11 yX11_needDensities wv_f_needDensities) := goodIn_app (goodIn_of _ (by decide +kernel)) (goodIn_sub (fun _ h => List.mem_cons_of_mem _ (List.mem_append_right _ (List.mem_append_left _ h))) gw_f_needDensities)
set_option maxHeartbeats 4000000 in
set_option maxRecDepth 100000 in
/-- sum on a fresh object: it throws -/
theorem c_f_sum (l : Launch) (hlt : l.stackTraces = false) (dC : Nat → ClassId) (dI : Nat → Nat → Nat) (h0 : Nat) (qC : Nat) (x0 : Int32) (x1 : Int32) (x2 : Int32) (x3 : Int32) (fs_h0 : List Value) (fs_qC : List Value) (hF_h0 : mF 19 [(7, .ref qC)] fs_h0) (hF_qC : mF 13 [(8, .int 0)] fs_qC) (sz : Nat) : vx_Met l yX11_sum wv_f_sum ({ frames := 8, cells := 1, slots := 6, locals := 131 }) (va_Pc [.ref h0, .int x0, .int x1, .int x2, .int x3] (fun U => U.heap.size = sz ∧ va_P (dC, dI) vwCl [(h0, .inr (11, fs_h0)), (qC, .inr (2, fs_qC))] U.heap ∧ va_K (dC, dI) vwCl [] U ∧ va_D (fun _ => True) [(h0, .inr (11, fs_h0)), (qC, .inr (2, fs_qC))] ∧ w_N U ∧ w_T (va_A [(h0, .inr (11, fs_h0)), (qC, .inr (2, fs_qC))] sz) U U.heap)) (va_Ql (fun (r : Int64) (_ : Unit) => False) (fun _ t => va_P (dC, dI) vwCl [] t.heap ∧ va_K (dC, dI) vwCl [] t ∧ va_D (va_A [(h0, .inr (11, fs_h0)), (qC, .inr (2, fs_qC))] sz) []) (va_A [(h0, .inr (11, fs_h0)), (qC, .inr (2, fs_qC))] sz)) (vx_X (fun _ : Unit => True) (fun E _ _ => E = "java/lang/IllegalStateException") (va_A [(h0, .inr (11, fs_h0)), (qC, .inr (2, fs_qC))] sz)) 1 6 (va_A [(h0, .inr (11, fs_h0)), (qC, .inr (2, fs_qC))] sz) := by
  refine vx_ofW (cc := cX11_sum) (maxL := 7) (ret := (some .long)) (by decide) rfl ?_
  intro p e s m args below meth c s₁ B hml hnt hv
  obtain ⟨rfl, hsz, hP, hK, hD0, hN, hT⟩ := hv
  have hx := B.exec
  have hb := B.bytes
  have hr := B.returns
  have hts := atoms_spec (ws := wv_f_sum) B.pre
  have hown : s.vm.findClass RX11 = some m.cls := findClass_of_methodNamed B.named
  have hlocks := B.notSynchronized
  subst hsz
  have hD := hD0.self (sz := s.heap.size)
  generalize hAe : va_A [(h0, .inr (11, fs_h0)), (qC, .inr (2, fs_qC))] s.heap.size = A at hD hT ⊢
  have hA : ∀ q : Nat, s.heap.size ≤ q → A q := fun q h => by rw [← hAe]; exact Or.inr h
  have hS : va_S A s.heap s.heap [] := va_S.rf
  have hP : va_P (dC, dI) vwCl [(h0, .inr (11, fs_h0)), (qC, .inr (2, fs_qC))] s.heap := hP
  have hl := lv_entry ([.ref h0, .int x0, .int x1, .int x2, .int x3]) (n := 7) (Nat.le_of_ble_eq_true rfl)
  rw [lg_entry_eq]
  generalize (lg_sl ([.ref h0, .int x0, .int x1, .int x2, .int x3]) ++ List.replicate (7 - (lg_sl ([.ref h0, .int x0, .int x1, .int x2, .int x3])).length) Slot.unset).toArray = ls at hl ⊢
  have hl : lv_has ls 7 [(0, .ref h0), (1, .int x0), (2, .int x1), (3, .int x2), (4, .int x3)] := hl
  refine lv_aload_n hx hb dX11_sum_0 rfl (lv_at hl 0 rfl) ?_
  refine lv_iload_n hx hb dX11_sum_1 rfl (lv_at hl 1 rfl) ?_
  have hPc := hP.sub (ws' := [(h0, .inr (11, fs_h0)), (qC, .inr (2, fs_qC))]) [0, 1] rfl
  have hDc := hD.sub (ws' := [(h0, .inr (11, fs_h0)), (qC, .inr (2, fs_qC))]) [0, 1] (by decide) rfl
  have hKc := hK.sub (tys' := []) [] rfl
  have hFc := va_free (wc := [(h0, .inr (11, fs_h0)), (qC, .inr (2, fs_qC))]) hD hS hA [0, 1] rfl
  refine vx_callv (vx_runV (As := [.int x0]) (rest := []) ⟨hx, hb, hml, hown, hts⟩ (c_f_needDensities l hlt dC dI h0 qC x0 fs_h0 fs_qC (mF.sub hF_h0 [0] rfl) (mF.sub hF_qC [0] rfl) H.size) (cwV 1 hts g_f_sum_f_needDensities_276 rfl rfl rfl hd_X11_needDensities ⟨Nat.le_of_ble_eq_true rfl, Nat.le_of_ble_eq_true rfl⟩) ⟨fun a U g mk q => by obtain ⟨q0, q1, qP, qK, qD, qE0, qE1⟩ := q; exact ⟨q0, q1, qP, va_K.moved (u := U) (U := U.calling g mk a) (Vm.Alike.refl U.vm) qK, qD, w_N.same rfl qE0, w_T.same rfl rfl qE1⟩, va_recv hKc hPc (ci := 11) (q0 := 0) rfl rfl, fun U hU hW => ⟨rfl, by rw [hU], by rw [hU]; exact hPc, va_K.moved hW.alike hKc, hDc.weaken (fun _ _ _ _ => trivial), w_N.warm hW hN, w_T.go hT hW hS.2.1 hFc hU⟩⟩ rfl rfl hl.1 rfl (lv_room (Nat.le_of_ble_eq_true rfl)) dX11_sum_2 ⟨(Nat.le_of_ble_eq_true rfl), (Nat.le_of_ble_eq_true rfl)⟩) hS (fun q _ h => hFc q h) hFc (fun q _ h => hFc q h) (fun E9 ce9 q9 u t H1 locs1 ht hvm hpx hBX hz1 hk1 hS1 hcell9 hv9 hcl9 => ?_) (fun u t H1 locs1 ht hvm hw hB hz1 hk1 hS1 => ?_)
  · skip
    obtain rfl : E9 = "java/lang/IllegalStateException" := hBX
    exact vx_out (fun x hx9 => (hnt x hx9).elim) hlocks hcell9 hv9 hcl9 (fun t9 ht9 _ => ⟨(), trivial, rfl, hS1.F ht9⟩) hS1.2.2 (Nat.le_of_ble_eq_true rfl) (Nat.le_of_ble_eq_true rfl)
  · skip
    exact hw.elim
def wv_f_solves : List Cond := .code yX11_solves cX11_solves 1 (some .int) :: ([.methodLink RX11 159 yX11_needEquation, .instanceMethod yX11_needEquation, .selects RX11 yX11_needEquation yX11_needEquation, .initialized RX11] ++ (wv_f_needEquation ++ ([])))
theorem gw_f_solves : wv_f_solves.all goodWord = true := by decide +kernel
theorem g_f_solves_f_needEquation_159 : GoodIn wv_f_solves (wsV RX11 159 RX11 yX11_needEquation wv_f_needEquation) := goodIn_app (goodIn_of _ (by decide +kernel)) (goodIn_sub (fun _ h => List.mem_cons_of_mem _ (List.mem_append_right _ (List.mem_append_left _ h))) gw_f_needEquation)
set_option maxHeartbeats 4000000 in
set_option maxRecDepth 100000 in
/-- solves on a fresh object: it throws -/
theorem c_f_solves (l : Launch) (hlt : l.stackTraces = false) (dC : Nat → ClassId) (dI : Nat → Nat → Nat) (h0 : Nat) (qC : Nat) (fs_h0 : List Value) (fs_qC : List Value) (hF_h0 : mF 19 [(7, .ref qC)] fs_h0) (hF_qC : mF 13 [(8, .int 0)] fs_qC) (sz : Nat) : vx_Met l yX11_solves wv_f_solves ({ frames := 7, cells := 1, slots := 6, locals := 110 }) (va_Pc [.ref h0] (fun U => U.heap.size = sz ∧ va_P (dC, dI) vwCl [(h0, .inr (11, fs_h0)), (qC, .inr (2, fs_qC))] U.heap ∧ va_K (dC, dI) vwCl [] U ∧ va_D (fun _ => True) [(h0, .inr (11, fs_h0)), (qC, .inr (2, fs_qC))] ∧ w_N U ∧ w_T (va_A [(h0, .inr (11, fs_h0)), (qC, .inr (2, fs_qC))] sz) U U.heap)) (va_Qi (fun (r : Int32) (_ : Unit) => False) (fun _ t => va_P (dC, dI) vwCl [] t.heap ∧ va_K (dC, dI) vwCl [] t ∧ va_D (va_A [(h0, .inr (11, fs_h0)), (qC, .inr (2, fs_qC))] sz) []) (va_A [(h0, .inr (11, fs_h0)), (qC, .inr (2, fs_qC))] sz)) (vx_X (fun _ : Unit => True) (fun E _ _ => E = "java/lang/IllegalStateException") (va_A [(h0, .inr (11, fs_h0)), (qC, .inr (2, fs_qC))] sz)) 1 6 (va_A [(h0, .inr (11, fs_h0)), (qC, .inr (2, fs_qC))] sz) := by
  refine vx_ofW (cc := cX11_solves) (maxL := 1) (ret := (some .int)) (by decide) rfl ?_
  intro p e s m args below meth c s₁ B hml hnt hv
  obtain ⟨rfl, hsz, hP, hK, hD0, hN, hT⟩ := hv
  have hx := B.exec
  have hb := B.bytes
  have hr := B.returns
  have hts := atoms_spec (ws := wv_f_solves) B.pre
  have hown : s.vm.findClass RX11 = some m.cls := findClass_of_methodNamed B.named
  have hlocks := B.notSynchronized
  subst hsz
  have hD := hD0.self (sz := s.heap.size)
  generalize hAe : va_A [(h0, .inr (11, fs_h0)), (qC, .inr (2, fs_qC))] s.heap.size = A at hD hT ⊢
  have hA : ∀ q : Nat, s.heap.size ≤ q → A q := fun q h => by rw [← hAe]; exact Or.inr h
  have hS : va_S A s.heap s.heap [] := va_S.rf
  have hP : va_P (dC, dI) vwCl [(h0, .inr (11, fs_h0)), (qC, .inr (2, fs_qC))] s.heap := hP
  have hl := lv_entry ([.ref h0]) (n := 1) (Nat.le_of_ble_eq_true rfl)
  rw [lg_entry_eq]
  generalize (lg_sl ([.ref h0]) ++ List.replicate (1 - (lg_sl ([.ref h0])).length) Slot.unset).toArray = ls at hl ⊢
  have hl : lv_has ls 1 [(0, .ref h0)] := hl
  refine lv_aload_n hx hb dX11_solves_0 rfl (lv_at hl 0 rfl) ?_
  have hPc := hP.sub (ws' := [(h0, .inr (11, fs_h0)), (qC, .inr (2, fs_qC))]) [0, 1] rfl
  have hDc := hD.sub (ws' := [(h0, .inr (11, fs_h0)), (qC, .inr (2, fs_qC))]) [0, 1] (by decide) rfl
  have hKc := hK.sub (tys' := []) [] rfl
  have hFc := va_free (wc := [(h0, .inr (11, fs_h0)), (qC, .inr (2, fs_qC))]) hD hS hA [0, 1] rfl
  refine vx_callv (vx_runV (As := []) (rest := []) ⟨hx, hb, hml, hown, hts⟩ (c_f_needEquation l hlt dC dI h0 qC fs_h0 fs_qC (mF.sub hF_h0 [0] rfl) (mF.sub hF_qC [0] rfl) H.size) (cwV 0 hts g_f_solves_f_needEquation_159 rfl rfl rfl hd_X11_needEquation ⟨Nat.le_of_ble_eq_true rfl, Nat.le_of_ble_eq_true rfl⟩) ⟨fun a U g mk q => by obtain ⟨q0, q1, qP, qK, qD, qE0, qE1⟩ := q; exact ⟨q0, q1, qP, va_K.moved (u := U) (U := U.calling g mk a) (Vm.Alike.refl U.vm) qK, qD, w_N.same rfl qE0, w_T.same rfl rfl qE1⟩, va_recv hKc hPc (ci := 11) (q0 := 0) rfl rfl, fun U hU hW => ⟨rfl, by rw [hU], by rw [hU]; exact hPc, va_K.moved hW.alike hKc, hDc.weaken (fun _ _ _ _ => trivial), w_N.warm hW hN, w_T.go hT hW hS.2.1 hFc hU⟩⟩ rfl rfl hl.1 rfl (lv_room (Nat.le_of_ble_eq_true rfl)) dX11_solves_1 ⟨(Nat.le_of_ble_eq_true rfl), (Nat.le_of_ble_eq_true rfl)⟩) hS (fun q _ h => hFc q h) hFc (fun q _ h => hFc q h) (fun E9 ce9 q9 u t H1 locs1 ht hvm hpx hBX hz1 hk1 hS1 hcell9 hv9 hcl9 => ?_) (fun u t H1 locs1 ht hvm hw hB hz1 hk1 hS1 => ?_)
  · skip
    obtain rfl : E9 = "java/lang/IllegalStateException" := hBX
    exact vx_out (fun x hx9 => (hnt x hx9).elim) hlocks hcell9 hv9 hcl9 (fun t9 ht9 _ => ⟨(), trivial, rfl, hS1.F ht9⟩) hS1.2.2 (Nat.le_of_ble_eq_true rfl) (Nat.le_of_ble_eq_true rfl)
  · skip
    exact hw.elim
def wv_f_left : List Cond := .code yX11_left cX11_left 3 (some .long) :: ([.methodLink RX11 159 yX11_needEquation, .instanceMethod yX11_needEquation, .selects RX11 yX11_needEquation yX11_needEquation, .initialized RX11] ++ (wv_f_needEquation ++ ([])))
theorem gw_f_left : wv_f_left.all goodWord = true := by decide +kernel
theorem g_f_left_f_needEquation_159 : GoodIn wv_f_left (wsV RX11 159 RX11 yX11_needEquation wv_f_needEquation) := goodIn_app (goodIn_of _ (by decide +kernel)) (goodIn_sub (fun _ h => List.mem_cons_of_mem _ (List.mem_append_right _ (List.mem_append_left _ h))) gw_f_needEquation)
set_option maxHeartbeats 4000000 in
set_option maxRecDepth 100000 in
/-- left on a fresh object: it throws -/
theorem c_f_left (l : Launch) (hlt : l.stackTraces = false) (dC : Nat → ClassId) (dI : Nat → Nat → Nat) (h0 : Nat) (qC : Nat) (x0 : Int32) (x1 : Int32) (fs_h0 : List Value) (fs_qC : List Value) (hF_h0 : mF 19 [(7, .ref qC)] fs_h0) (hF_qC : mF 13 [(8, .int 0)] fs_qC) (sz : Nat) : vx_Met l yX11_left wv_f_left ({ frames := 7, cells := 1, slots := 6, locals := 110 }) (va_Pc [.ref h0, .int x0, .int x1] (fun U => U.heap.size = sz ∧ va_P (dC, dI) vwCl [(h0, .inr (11, fs_h0)), (qC, .inr (2, fs_qC))] U.heap ∧ va_K (dC, dI) vwCl [] U ∧ va_D (fun _ => True) [(h0, .inr (11, fs_h0)), (qC, .inr (2, fs_qC))] ∧ w_N U ∧ w_T (va_A [(h0, .inr (11, fs_h0)), (qC, .inr (2, fs_qC))] sz) U U.heap)) (va_Ql (fun (r : Int64) (_ : Unit) => False) (fun _ t => va_P (dC, dI) vwCl [] t.heap ∧ va_K (dC, dI) vwCl [] t ∧ va_D (va_A [(h0, .inr (11, fs_h0)), (qC, .inr (2, fs_qC))] sz) []) (va_A [(h0, .inr (11, fs_h0)), (qC, .inr (2, fs_qC))] sz)) (vx_X (fun _ : Unit => True) (fun E _ _ => E = "java/lang/IllegalStateException") (va_A [(h0, .inr (11, fs_h0)), (qC, .inr (2, fs_qC))] sz)) 1 6 (va_A [(h0, .inr (11, fs_h0)), (qC, .inr (2, fs_qC))] sz) := by
  refine vx_ofW (cc := cX11_left) (maxL := 3) (ret := (some .long)) (by decide) rfl ?_
  intro p e s m args below meth c s₁ B hml hnt hv
  obtain ⟨rfl, hsz, hP, hK, hD0, hN, hT⟩ := hv
  have hx := B.exec
  have hb := B.bytes
  have hr := B.returns
  have hts := atoms_spec (ws := wv_f_left) B.pre
  have hown : s.vm.findClass RX11 = some m.cls := findClass_of_methodNamed B.named
  have hlocks := B.notSynchronized
  subst hsz
  have hD := hD0.self (sz := s.heap.size)
  generalize hAe : va_A [(h0, .inr (11, fs_h0)), (qC, .inr (2, fs_qC))] s.heap.size = A at hD hT ⊢
  have hA : ∀ q : Nat, s.heap.size ≤ q → A q := fun q h => by rw [← hAe]; exact Or.inr h
  have hS : va_S A s.heap s.heap [] := va_S.rf
  have hP : va_P (dC, dI) vwCl [(h0, .inr (11, fs_h0)), (qC, .inr (2, fs_qC))] s.heap := hP
  have hl := lv_entry ([.ref h0, .int x0, .int x1]) (n := 3) (Nat.le_of_ble_eq_true rfl)
  rw [lg_entry_eq]
  generalize (lg_sl ([.ref h0, .int x0, .int x1]) ++ List.replicate (3 - (lg_sl ([.ref h0, .int x0, .int x1])).length) Slot.unset).toArray = ls at hl ⊢
  have hl : lv_has ls 3 [(0, .ref h0), (1, .int x0), (2, .int x1)] := hl
  refine lv_aload_n hx hb dX11_left_0 rfl (lv_at hl 0 rfl) ?_
  have hPc := hP.sub (ws' := [(h0, .inr (11, fs_h0)), (qC, .inr (2, fs_qC))]) [0, 1] rfl
  have hDc := hD.sub (ws' := [(h0, .inr (11, fs_h0)), (qC, .inr (2, fs_qC))]) [0, 1] (by decide) rfl
  have hKc := hK.sub (tys' := []) [] rfl
  have hFc := va_free (wc := [(h0, .inr (11, fs_h0)), (qC, .inr (2, fs_qC))]) hD hS hA [0, 1] rfl
  refine vx_callv (vx_runV (As := []) (rest := []) ⟨hx, hb, hml, hown, hts⟩ (c_f_needEquation l hlt dC dI h0 qC fs_h0 fs_qC (mF.sub hF_h0 [0] rfl) (mF.sub hF_qC [0] rfl) H.size) (cwV 0 hts g_f_left_f_needEquation_159 rfl rfl rfl hd_X11_needEquation ⟨Nat.le_of_ble_eq_true rfl, Nat.le_of_ble_eq_true rfl⟩) ⟨fun a U g mk q => by obtain ⟨q0, q1, qP, qK, qD, qE0, qE1⟩ := q; exact ⟨q0, q1, qP, va_K.moved (u := U) (U := U.calling g mk a) (Vm.Alike.refl U.vm) qK, qD, w_N.same rfl qE0, w_T.same rfl rfl qE1⟩, va_recv hKc hPc (ci := 11) (q0 := 0) rfl rfl, fun U hU hW => ⟨rfl, by rw [hU], by rw [hU]; exact hPc, va_K.moved hW.alike hKc, hDc.weaken (fun _ _ _ _ => trivial), w_N.warm hW hN, w_T.go hT hW hS.2.1 hFc hU⟩⟩ rfl rfl hl.1 rfl (lv_room (Nat.le_of_ble_eq_true rfl)) dX11_left_1 ⟨(Nat.le_of_ble_eq_true rfl), (Nat.le_of_ble_eq_true rfl)⟩) hS (fun q _ h => hFc q h) hFc (fun q _ h => hFc q h) (fun E9 ce9 q9 u t H1 locs1 ht hvm hpx hBX hz1 hk1 hS1 hcell9 hv9 hcl9 => ?_) (fun u t H1 locs1 ht hvm hw hB hz1 hk1 hS1 => ?_)
  · skip
    obtain rfl : E9 = "java/lang/IllegalStateException" := hBX
    exact vx_out (fun x hx9 => (hnt x hx9).elim) hlocks hcell9 hv9 hcl9 (fun t9 ht9 _ => ⟨(), trivial, rfl, hS1.F ht9⟩) hS1.2.2 (Nat.le_of_ble_eq_true rfl) (Nat.le_of_ble_eq_true rfl)
  · skip
    exact hw.elim
def wv_f_shifted : List Cond := .code yX11_shifted cX11_shifted 3 (some .int) :: ([.methodLink RX11 159 yX11_needEquation, .instanceMethod yX11_needEquation, .selects RX11 yX11_needEquation yX11_needEquation, .initialized RX11] ++ (wv_f_needEquation ++ ([])))
theorem gw_f_shifted : wv_f_shifted.all goodWord = true := by decide +kernel
theorem g_f_shifted_f_needEquation_159 : GoodIn wv_f_shifted (wsV RX11 159 RX11 yX11_needEquation wv_f_needEquation) := goodIn_app (goodIn_of _ (by decide +kernel)) (goodIn_sub (fun _ h => List.mem_cons_of_mem _ (List.mem_append_right _ (List.mem_append_left _ h))) gw_f_needEquation)
set_option maxHeartbeats 4000000 in
set_option maxRecDepth 100000 in
/-- shifted on a fresh object: it throws -/
theorem c_f_shifted (l : Launch) (hlt : l.stackTraces = false) (dC : Nat → ClassId) (dI : Nat → Nat → Nat) (h0 : Nat) (qC : Nat) (x0 : Int32) (x1 : Int32) (fs_h0 : List Value) (fs_qC : List Value) (hF_h0 : mF 19 [(7, .ref qC)] fs_h0) (hF_qC : mF 13 [(8, .int 0)] fs_qC) (sz : Nat) : vx_Met l yX11_shifted wv_f_shifted ({ frames := 7, cells := 1, slots := 6, locals := 110 }) (va_Pc [.ref h0, .int x0, .int x1] (fun U => U.heap.size = sz ∧ va_P (dC, dI) vwCl [(h0, .inr (11, fs_h0)), (qC, .inr (2, fs_qC))] U.heap ∧ va_K (dC, dI) vwCl [] U ∧ va_D (fun _ => True) [(h0, .inr (11, fs_h0)), (qC, .inr (2, fs_qC))] ∧ w_N U ∧ w_T (va_A [(h0, .inr (11, fs_h0)), (qC, .inr (2, fs_qC))] sz) U U.heap)) (va_Qi (fun (r : Int32) (_ : Unit) => False) (fun _ t => va_P (dC, dI) vwCl [] t.heap ∧ va_K (dC, dI) vwCl [] t ∧ va_D (va_A [(h0, .inr (11, fs_h0)), (qC, .inr (2, fs_qC))] sz) []) (va_A [(h0, .inr (11, fs_h0)), (qC, .inr (2, fs_qC))] sz)) (vx_X (fun _ : Unit => True) (fun E _ _ => E = "java/lang/IllegalStateException") (va_A [(h0, .inr (11, fs_h0)), (qC, .inr (2, fs_qC))] sz)) 1 6 (va_A [(h0, .inr (11, fs_h0)), (qC, .inr (2, fs_qC))] sz) := by
  refine vx_ofW (cc := cX11_shifted) (maxL := 3) (ret := (some .int)) (by decide) rfl ?_
  intro p e s m args below meth c s₁ B hml hnt hv
  obtain ⟨rfl, hsz, hP, hK, hD0, hN, hT⟩ := hv
  have hx := B.exec
  have hb := B.bytes
  have hr := B.returns
  have hts := atoms_spec (ws := wv_f_shifted) B.pre
  have hown : s.vm.findClass RX11 = some m.cls := findClass_of_methodNamed B.named
  have hlocks := B.notSynchronized
  subst hsz
  have hD := hD0.self (sz := s.heap.size)
  generalize hAe : va_A [(h0, .inr (11, fs_h0)), (qC, .inr (2, fs_qC))] s.heap.size = A at hD hT ⊢
  have hA : ∀ q : Nat, s.heap.size ≤ q → A q := fun q h => by rw [← hAe]; exact Or.inr h
  have hS : va_S A s.heap s.heap [] := va_S.rf
  have hP : va_P (dC, dI) vwCl [(h0, .inr (11, fs_h0)), (qC, .inr (2, fs_qC))] s.heap := hP
  have hl := lv_entry ([.ref h0, .int x0, .int x1]) (n := 3) (Nat.le_of_ble_eq_true rfl)
  rw [lg_entry_eq]
  generalize (lg_sl ([.ref h0, .int x0, .int x1]) ++ List.replicate (3 - (lg_sl ([.ref h0, .int x0, .int x1])).length) Slot.unset).toArray = ls at hl ⊢
  have hl : lv_has ls 3 [(0, .ref h0), (1, .int x0), (2, .int x1)] := hl
  refine lv_aload_n hx hb dX11_shifted_0 rfl (lv_at hl 0 rfl) ?_
  have hPc := hP.sub (ws' := [(h0, .inr (11, fs_h0)), (qC, .inr (2, fs_qC))]) [0, 1] rfl
  have hDc := hD.sub (ws' := [(h0, .inr (11, fs_h0)), (qC, .inr (2, fs_qC))]) [0, 1] (by decide) rfl
  have hKc := hK.sub (tys' := []) [] rfl
  have hFc := va_free (wc := [(h0, .inr (11, fs_h0)), (qC, .inr (2, fs_qC))]) hD hS hA [0, 1] rfl
  refine vx_callv (vx_runV (As := []) (rest := []) ⟨hx, hb, hml, hown, hts⟩ (c_f_needEquation l hlt dC dI h0 qC fs_h0 fs_qC (mF.sub hF_h0 [0] rfl) (mF.sub hF_qC [0] rfl) H.size) (cwV 0 hts g_f_shifted_f_needEquation_159 rfl rfl rfl hd_X11_needEquation ⟨Nat.le_of_ble_eq_true rfl, Nat.le_of_ble_eq_true rfl⟩) ⟨fun a U g mk q => by obtain ⟨q0, q1, qP, qK, qD, qE0, qE1⟩ := q; exact ⟨q0, q1, qP, va_K.moved (u := U) (U := U.calling g mk a) (Vm.Alike.refl U.vm) qK, qD, w_N.same rfl qE0, w_T.same rfl rfl qE1⟩, va_recv hKc hPc (ci := 11) (q0 := 0) rfl rfl, fun U hU hW => ⟨rfl, by rw [hU], by rw [hU]; exact hPc, va_K.moved hW.alike hKc, hDc.weaken (fun _ _ _ _ => trivial), w_N.warm hW hN, w_T.go hT hW hS.2.1 hFc hU⟩⟩ rfl rfl hl.1 rfl (lv_room (Nat.le_of_ble_eq_true rfl)) dX11_shifted_1 ⟨(Nat.le_of_ble_eq_true rfl), (Nat.le_of_ble_eq_true rfl)⟩) hS (fun q _ h => hFc q h) hFc (fun q _ h => hFc q h) (fun E9 ce9 q9 u t H1 locs1 ht hvm hpx hBX hz1 hk1 hS1 hcell9 hv9 hcl9 => ?_) (fun u t H1 locs1 ht hvm hw hB hz1 hk1 hS1 => ?_)
  · skip
    obtain rfl : E9 = "java/lang/IllegalStateException" := hBX
    exact vx_out (fun x hx9 => (hnt x hx9).elim) hlocks hcell9 hv9 hcl9 (fun t9 ht9 _ => ⟨(), trivial, rfl, hS1.F ht9⟩) hS1.2.2 (Nat.le_of_ble_eq_true rfl) (Nat.le_of_ble_eq_true rfl)
  · skip
    exact hw.elim
def wv_f_stretched : List Cond := .code yX11_stretched cX11_stretched 4 (some .int) :: ([.methodLink RX11 159 yX11_needEquation, .instanceMethod yX11_needEquation, .selects RX11 yX11_needEquation yX11_needEquation, .initialized RX11] ++ (wv_f_needEquation ++ ([])))
theorem gw_f_stretched : wv_f_stretched.all goodWord = true := by decide +kernel
theorem g_f_stretched_f_needEquation_159 : GoodIn wv_f_stretched (wsV RX11 159 RX11 yX11_needEquation wv_f_needEquation) := goodIn_app (goodIn_of _ (by decide +kernel)) (goodIn_sub (fun _ h => List.mem_cons_of_mem _ (List.mem_append_right _ (List.mem_append_left _ h))) gw_f_needEquation)
set_option maxHeartbeats 4000000 in
set_option maxRecDepth 100000 in
/-- stretched on a fresh object: it throws -/
theorem c_f_stretched (l : Launch) (hlt : l.stackTraces = false) (dC : Nat → ClassId) (dI : Nat → Nat → Nat) (h0 : Nat) (qC : Nat) (x0 : Int32) (x1 : Int32) (fs_h0 : List Value) (fs_qC : List Value) (hF_h0 : mF 19 [(7, .ref qC)] fs_h0) (hF_qC : mF 13 [(8, .int 0)] fs_qC) (sz : Nat) : vx_Met l yX11_stretched wv_f_stretched ({ frames := 7, cells := 1, slots := 6, locals := 110 }) (va_Pc [.ref h0, .int x0, .int x1] (fun U => U.heap.size = sz ∧ va_P (dC, dI) vwCl [(h0, .inr (11, fs_h0)), (qC, .inr (2, fs_qC))] U.heap ∧ va_K (dC, dI) vwCl [] U ∧ va_D (fun _ => True) [(h0, .inr (11, fs_h0)), (qC, .inr (2, fs_qC))] ∧ w_N U ∧ w_T (va_A [(h0, .inr (11, fs_h0)), (qC, .inr (2, fs_qC))] sz) U U.heap)) (va_Qi (fun (r : Int32) (_ : Unit) => False) (fun _ t => va_P (dC, dI) vwCl [] t.heap ∧ va_K (dC, dI) vwCl [] t ∧ va_D (va_A [(h0, .inr (11, fs_h0)), (qC, .inr (2, fs_qC))] sz) []) (va_A [(h0, .inr (11, fs_h0)), (qC, .inr (2, fs_qC))] sz)) (vx_X (fun _ : Unit => True) (fun E _ _ => E = "java/lang/IllegalStateException") (va_A [(h0, .inr (11, fs_h0)), (qC, .inr (2, fs_qC))] sz)) 1 6 (va_A [(h0, .inr (11, fs_h0)), (qC, .inr (2, fs_qC))] sz) := by
  refine vx_ofW (cc := cX11_stretched) (maxL := 4) (ret := (some .int)) (by decide) rfl ?_
  intro p e s m args below meth c s₁ B hml hnt hv
  obtain ⟨rfl, hsz, hP, hK, hD0, hN, hT⟩ := hv
  have hx := B.exec
  have hb := B.bytes
  have hr := B.returns
  have hts := atoms_spec (ws := wv_f_stretched) B.pre
  have hown : s.vm.findClass RX11 = some m.cls := findClass_of_methodNamed B.named
  have hlocks := B.notSynchronized
  subst hsz
  have hD := hD0.self (sz := s.heap.size)
  generalize hAe : va_A [(h0, .inr (11, fs_h0)), (qC, .inr (2, fs_qC))] s.heap.size = A at hD hT ⊢
  have hA : ∀ q : Nat, s.heap.size ≤ q → A q := fun q h => by rw [← hAe]; exact Or.inr h
  have hS : va_S A s.heap s.heap [] := va_S.rf
  have hP : va_P (dC, dI) vwCl [(h0, .inr (11, fs_h0)), (qC, .inr (2, fs_qC))] s.heap := hP
  have hl := lv_entry ([.ref h0, .int x0, .int x1]) (n := 4) (Nat.le_of_ble_eq_true rfl)
  rw [lg_entry_eq]
  generalize (lg_sl ([.ref h0, .int x0, .int x1]) ++ List.replicate (4 - (lg_sl ([.ref h0, .int x0, .int x1])).length) Slot.unset).toArray = ls at hl ⊢
  have hl : lv_has ls 4 [(0, .ref h0), (1, .int x0), (2, .int x1)] := hl
  refine lv_aload_n hx hb dX11_stretched_0 rfl (lv_at hl 0 rfl) ?_
  have hPc := hP.sub (ws' := [(h0, .inr (11, fs_h0)), (qC, .inr (2, fs_qC))]) [0, 1] rfl
  have hDc := hD.sub (ws' := [(h0, .inr (11, fs_h0)), (qC, .inr (2, fs_qC))]) [0, 1] (by decide) rfl
  have hKc := hK.sub (tys' := []) [] rfl
  have hFc := va_free (wc := [(h0, .inr (11, fs_h0)), (qC, .inr (2, fs_qC))]) hD hS hA [0, 1] rfl
  refine vx_callv (vx_runV (As := []) (rest := []) ⟨hx, hb, hml, hown, hts⟩ (c_f_needEquation l hlt dC dI h0 qC fs_h0 fs_qC (mF.sub hF_h0 [0] rfl) (mF.sub hF_qC [0] rfl) H.size) (cwV 0 hts g_f_stretched_f_needEquation_159 rfl rfl rfl hd_X11_needEquation ⟨Nat.le_of_ble_eq_true rfl, Nat.le_of_ble_eq_true rfl⟩) ⟨fun a U g mk q => by obtain ⟨q0, q1, qP, qK, qD, qE0, qE1⟩ := q; exact ⟨q0, q1, qP, va_K.moved (u := U) (U := U.calling g mk a) (Vm.Alike.refl U.vm) qK, qD, w_N.same rfl qE0, w_T.same rfl rfl qE1⟩, va_recv hKc hPc (ci := 11) (q0 := 0) rfl rfl, fun U hU hW => ⟨rfl, by rw [hU], by rw [hU]; exact hPc, va_K.moved hW.alike hKc, hDc.weaken (fun _ _ _ _ => trivial), w_N.warm hW hN, w_T.go hT hW hS.2.1 hFc hU⟩⟩ rfl rfl hl.1 rfl (lv_room (Nat.le_of_ble_eq_true rfl)) dX11_stretched_1 ⟨(Nat.le_of_ble_eq_true rfl), (Nat.le_of_ble_eq_true rfl)⟩) hS (fun q _ h => hFc q h) hFc (fun q _ h => hFc q h) (fun E9 ce9 q9 u t H1 locs1 ht hvm hpx hBX hz1 hk1 hS1 hcell9 hv9 hcl9 => ?_) (fun u t H1 locs1 ht hvm hw hB hz1 hk1 hS1 => ?_)
  · skip
    obtain rfl : E9 = "java/lang/IllegalStateException" := hBX
    exact vx_out (fun x hx9 => (hnt x hx9).elim) hlocks hcell9 hv9 hcl9 (fun t9 ht9 _ => ⟨(), trivial, rfl, hS1.F ht9⟩) hS1.2.2 (Nat.le_of_ble_eq_true rfl) (Nat.le_of_ble_eq_true rfl)
  · skip
    exact hw.elim
def wv_f_wave : List Cond := .code yX11_wave cX11_wave 5 (some .int) :: ([.methodLink RX11 159 yX11_needEquation, .instanceMethod yX11_needEquation, .selects RX11 yX11_needEquation yX11_needEquation, .initialized RX11] ++ (wv_f_needEquation ++ ([])))
theorem gw_f_wave : wv_f_wave.all goodWord = true := by decide +kernel
theorem g_f_wave_f_needEquation_159 : GoodIn wv_f_wave (wsV RX11 159 RX11 yX11_needEquation wv_f_needEquation) := goodIn_app (goodIn_of _ (by decide +kernel)) (goodIn_sub (fun _ h => List.mem_cons_of_mem _ (List.mem_append_right _ (List.mem_append_left _ h))) gw_f_needEquation)
set_option maxHeartbeats 4000000 in
set_option maxRecDepth 100000 in
/-- wave on a fresh object: it throws -/
theorem c_f_wave (l : Launch) (hlt : l.stackTraces = false) (dC : Nat → ClassId) (dI : Nat → Nat → Nat) (h0 : Nat) (qC : Nat) (x0 : Int32) (x1 : Int32) (fs_h0 : List Value) (fs_qC : List Value) (hF_h0 : mF 19 [(7, .ref qC)] fs_h0) (hF_qC : mF 13 [(8, .int 0)] fs_qC) (sz : Nat) : vx_Met l yX11_wave wv_f_wave ({ frames := 7, cells := 1, slots := 6, locals := 110 }) (va_Pc [.ref h0, .int x0, .int x1] (fun U => U.heap.size = sz ∧ va_P (dC, dI) vwCl [(h0, .inr (11, fs_h0)), (qC, .inr (2, fs_qC))] U.heap ∧ va_K (dC, dI) vwCl [] U ∧ va_D (fun _ => True) [(h0, .inr (11, fs_h0)), (qC, .inr (2, fs_qC))] ∧ w_N U ∧ w_T (va_A [(h0, .inr (11, fs_h0)), (qC, .inr (2, fs_qC))] sz) U U.heap)) (va_Qi (fun (r : Int32) (_ : Unit) => False) (fun _ t => va_P (dC, dI) vwCl [] t.heap ∧ va_K (dC, dI) vwCl [] t ∧ va_D (va_A [(h0, .inr (11, fs_h0)), (qC, .inr (2, fs_qC))] sz) []) (va_A [(h0, .inr (11, fs_h0)), (qC, .inr (2, fs_qC))] sz)) (vx_X (fun _ : Unit => True) (fun E _ _ => E = "java/lang/IllegalStateException") (va_A [(h0, .inr (11, fs_h0)), (qC, .inr (2, fs_qC))] sz)) 1 6 (va_A [(h0, .inr (11, fs_h0)), (qC, .inr (2, fs_qC))] sz) := by
  refine vx_ofW (cc := cX11_wave) (maxL := 5) (ret := (some .int)) (by decide) rfl ?_
  intro p e s m args below meth c s₁ B hml hnt hv
  obtain ⟨rfl, hsz, hP, hK, hD0, hN, hT⟩ := hv
  have hx := B.exec
  have hb := B.bytes
  have hr := B.returns
  have hts := atoms_spec (ws := wv_f_wave) B.pre
  have hown : s.vm.findClass RX11 = some m.cls := findClass_of_methodNamed B.named
  have hlocks := B.notSynchronized
  subst hsz
  have hD := hD0.self (sz := s.heap.size)
  generalize hAe : va_A [(h0, .inr (11, fs_h0)), (qC, .inr (2, fs_qC))] s.heap.size = A at hD hT ⊢
  have hA : ∀ q : Nat, s.heap.size ≤ q → A q := fun q h => by rw [← hAe]; exact Or.inr h
  have hS : va_S A s.heap s.heap [] := va_S.rf
  have hP : va_P (dC, dI) vwCl [(h0, .inr (11, fs_h0)), (qC, .inr (2, fs_qC))] s.heap := hP
  have hl := lv_entry ([.ref h0, .int x0, .int x1]) (n := 5) (Nat.le_of_ble_eq_true rfl)
  rw [lg_entry_eq]
  generalize (lg_sl ([.ref h0, .int x0, .int x1]) ++ List.replicate (5 - (lg_sl ([.ref h0, .int x0, .int x1])).length) Slot.unset).toArray = ls at hl ⊢
  have hl : lv_has ls 5 [(0, .ref h0), (1, .int x0), (2, .int x1)] := hl
  refine lv_aload_n hx hb dX11_wave_0 rfl (lv_at hl 0 rfl) ?_
  have hPc := hP.sub (ws' := [(h0, .inr (11, fs_h0)), (qC, .inr (2, fs_qC))]) [0, 1] rfl
  have hDc := hD.sub (ws' := [(h0, .inr (11, fs_h0)), (qC, .inr (2, fs_qC))]) [0, 1] (by decide) rfl
  have hKc := hK.sub (tys' := []) [] rfl
  have hFc := va_free (wc := [(h0, .inr (11, fs_h0)), (qC, .inr (2, fs_qC))]) hD hS hA [0, 1] rfl
  refine vx_callv (vx_runV (As := []) (rest := []) ⟨hx, hb, hml, hown, hts⟩ (c_f_needEquation l hlt dC dI h0 qC fs_h0 fs_qC (mF.sub hF_h0 [0] rfl) (mF.sub hF_qC [0] rfl) H.size) (cwV 0 hts g_f_wave_f_needEquation_159 rfl rfl rfl hd_X11_needEquation ⟨Nat.le_of_ble_eq_true rfl, Nat.le_of_ble_eq_true rfl⟩) ⟨fun a U g mk q => by obtain ⟨q0, q1, qP, qK, qD, qE0, qE1⟩ := q; exact ⟨q0, q1, qP, va_K.moved (u := U) (U := U.calling g mk a) (Vm.Alike.refl U.vm) qK, qD, w_N.same rfl qE0, w_T.same rfl rfl qE1⟩, va_recv hKc hPc (ci := 11) (q0 := 0) rfl rfl, fun U hU hW => ⟨rfl, by rw [hU], by rw [hU]; exact hPc, va_K.moved hW.alike hKc, hDc.weaken (fun _ _ _ _ => trivial), w_N.warm hW hN, w_T.go hT hW hS.2.1 hFc hU⟩⟩ rfl rfl hl.1 rfl (lv_room (Nat.le_of_ble_eq_true rfl)) dX11_wave_1 ⟨(Nat.le_of_ble_eq_true rfl), (Nat.le_of_ble_eq_true rfl)⟩) hS (fun q _ h => hFc q h) hFc (fun q _ h => hFc q h) (fun E9 ce9 q9 u t H1 locs1 ht hvm hpx hBX hz1 hk1 hS1 hcell9 hv9 hcl9 => ?_) (fun u t H1 locs1 ht hvm hw hB hz1 hk1 hS1 => ?_)
  · skip
    obtain rfl : E9 = "java/lang/IllegalStateException" := hBX
    exact vx_out (fun x hx9 => (hnt x hx9).elim) hlocks hcell9 hv9 hcl9 (fun t9 ht9 _ => ⟨(), trivial, rfl, hS1.F ht9⟩) hS1.2.2 (Nat.le_of_ble_eq_true rfl) (Nat.le_of_ble_eq_true rfl)
  · skip
    exact hw.elim
def wv_f_lines : List Cond := .code yX11_lines cX11_lines 2 (some .int) :: ([.methodLink RX11 159 yX11_needEquation, .instanceMethod yX11_needEquation, .selects RX11 yX11_needEquation yX11_needEquation, .initialized RX11] ++ (wv_f_needEquation ++ ([])))
theorem gw_f_lines : wv_f_lines.all goodWord = true := by decide +kernel
theorem g_f_lines_f_needEquation_159 : GoodIn wv_f_lines (wsV RX11 159 RX11 yX11_needEquation wv_f_needEquation) := goodIn_app (goodIn_of _ (by decide +kernel)) (goodIn_sub (fun _ h => List.mem_cons_of_mem _ (List.mem_append_right _ (List.mem_append_left _ h))) gw_f_needEquation)
set_option maxHeartbeats 4000000 in
set_option maxRecDepth 100000 in
/-- lines on a fresh object: it throws -/
theorem c_f_lines (l : Launch) (hlt : l.stackTraces = false) (dC : Nat → ClassId) (dI : Nat → Nat → Nat) (h0 : Nat) (qC : Nat) (x0 : Int32) (fs_h0 : List Value) (fs_qC : List Value) (hF_h0 : mF 19 [(7, .ref qC)] fs_h0) (hF_qC : mF 13 [(8, .int 0)] fs_qC) (sz : Nat) : vx_Met l yX11_lines wv_f_lines ({ frames := 7, cells := 1, slots := 6, locals := 110 }) (va_Pc [.ref h0, .int x0] (fun U => U.heap.size = sz ∧ va_P (dC, dI) vwCl [(h0, .inr (11, fs_h0)), (qC, .inr (2, fs_qC))] U.heap ∧ va_K (dC, dI) vwCl [] U ∧ va_D (fun _ => True) [(h0, .inr (11, fs_h0)), (qC, .inr (2, fs_qC))] ∧ w_N U ∧ w_T (va_A [(h0, .inr (11, fs_h0)), (qC, .inr (2, fs_qC))] sz) U U.heap)) (va_Qi (fun (r : Int32) (_ : Unit) => False) (fun _ t => va_P (dC, dI) vwCl [] t.heap ∧ va_K (dC, dI) vwCl [] t ∧ va_D (va_A [(h0, .inr (11, fs_h0)), (qC, .inr (2, fs_qC))] sz) []) (va_A [(h0, .inr (11, fs_h0)), (qC, .inr (2, fs_qC))] sz)) (vx_X (fun _ : Unit => True) (fun E _ _ => E = "java/lang/IllegalStateException") (va_A [(h0, .inr (11, fs_h0)), (qC, .inr (2, fs_qC))] sz)) 1 6 (va_A [(h0, .inr (11, fs_h0)), (qC, .inr (2, fs_qC))] sz) := by
  refine vx_ofW (cc := cX11_lines) (maxL := 2) (ret := (some .int)) (by decide) rfl ?_
  intro p e s m args below meth c s₁ B hml hnt hv
  obtain ⟨rfl, hsz, hP, hK, hD0, hN, hT⟩ := hv
  have hx := B.exec
  have hb := B.bytes
  have hr := B.returns
  have hts := atoms_spec (ws := wv_f_lines) B.pre
  have hown : s.vm.findClass RX11 = some m.cls := findClass_of_methodNamed B.named
  have hlocks := B.notSynchronized
  subst hsz
  have hD := hD0.self (sz := s.heap.size)
  generalize hAe : va_A [(h0, .inr (11, fs_h0)), (qC, .inr (2, fs_qC))] s.heap.size = A at hD hT ⊢
  have hA : ∀ q : Nat, s.heap.size ≤ q → A q := fun q h => by rw [← hAe]; exact Or.inr h
  have hS : va_S A s.heap s.heap [] := va_S.rf
  have hP : va_P (dC, dI) vwCl [(h0, .inr (11, fs_h0)), (qC, .inr (2, fs_qC))] s.heap := hP
  have hl := lv_entry ([.ref h0, .int x0]) (n := 2) (Nat.le_of_ble_eq_true rfl)
  rw [lg_entry_eq]
  generalize (lg_sl ([.ref h0, .int x0]) ++ List.replicate (2 - (lg_sl ([.ref h0, .int x0])).length) Slot.unset).toArray = ls at hl ⊢
  have hl : lv_has ls 2 [(0, .ref h0), (1, .int x0)] := hl
  refine lv_aload_n hx hb dX11_lines_0 rfl (lv_at hl 0 rfl) ?_
  have hPc := hP.sub (ws' := [(h0, .inr (11, fs_h0)), (qC, .inr (2, fs_qC))]) [0, 1] rfl
  have hDc := hD.sub (ws' := [(h0, .inr (11, fs_h0)), (qC, .inr (2, fs_qC))]) [0, 1] (by decide) rfl
  have hKc := hK.sub (tys' := []) [] rfl
  have hFc := va_free (wc := [(h0, .inr (11, fs_h0)), (qC, .inr (2, fs_qC))]) hD hS hA [0, 1] rfl
  refine vx_callv (vx_runV (As := []) (rest := []) ⟨hx, hb, hml, hown, hts⟩ (c_f_needEquation l hlt dC dI h0 qC fs_h0 fs_qC (mF.sub hF_h0 [0] rfl) (mF.sub hF_qC [0] rfl) H.size) (cwV 0 hts g_f_lines_f_needEquation_159 rfl rfl rfl hd_X11_needEquation ⟨Nat.le_of_ble_eq_true rfl, Nat.le_of_ble_eq_true rfl⟩) ⟨fun a U g mk q => by obtain ⟨q0, q1, qP, qK, qD, qE0, qE1⟩ := q; exact ⟨q0, q1, qP, va_K.moved (u := U) (U := U.calling g mk a) (Vm.Alike.refl U.vm) qK, qD, w_N.same rfl qE0, w_T.same rfl rfl qE1⟩, va_recv hKc hPc (ci := 11) (q0 := 0) rfl rfl, fun U hU hW => ⟨rfl, by rw [hU], by rw [hU]; exact hPc, va_K.moved hW.alike hKc, hDc.weaken (fun _ _ _ _ => trivial), w_N.warm hW hN, w_T.go hT hW hS.2.1 hFc hU⟩⟩ rfl rfl hl.1 rfl (lv_room (Nat.le_of_ble_eq_true rfl)) dX11_lines_1 ⟨(Nat.le_of_ble_eq_true rfl), (Nat.le_of_ble_eq_true rfl)⟩) hS (fun q _ h => hFc q h) hFc (fun q _ h => hFc q h) (fun E9 ce9 q9 u t H1 locs1 ht hvm hpx hBX hz1 hk1 hS1 hcell9 hv9 hcl9 => ?_) (fun u t H1 locs1 ht hvm hw hB hz1 hk1 hS1 => ?_)
  · skip
    obtain rfl : E9 = "java/lang/IllegalStateException" := hBX
    exact vx_out (fun x hx9 => (hnt x hx9).elim) hlocks hcell9 hv9 hcl9 (fun t9 ht9 _ => ⟨(), trivial, rfl, hS1.F ht9⟩) hS1.2.2 (Nat.le_of_ble_eq_true rfl) (Nat.le_of_ble_eq_true rfl)
  · skip
    exact hw.elim
def wv_f_fault : List Cond := .code yX11_fault cX11_fault 1 (some .int) :: ([.fieldLink RX11 13 "MotionSigns" "faultPlace" "I"] ++ (wsX110 ++ ([])))
theorem gw_f_fault : wv_f_fault.all goodWord = true := by decide +kernel
theorem in_f_fault_X11 : ∀ w ∈ wsX110, w ∈ wv_f_fault := fun _ h => List.mem_cons_of_mem _ (List.mem_append_right _ (List.mem_append_left _ h))
set_option maxHeartbeats 4000000 in
set_option maxRecDepth 100000 in
/-- fault on a fresh object -/
theorem c_f_fault (l : Launch) (dC : Nat → ClassId) (dI : Nat → Nat → Nat) (h0 : Nat) (fs_h0 : List Value) (hF_h0 : mF 19 [(2, .int (-1))] fs_h0) (sz : Nat) : Met l yX11_fault wv_f_fault ({ frames := 0, cells := 0, slots := 0, locals := 0 }) (va_Pc [.ref h0] (fun U => U.heap.size = sz ∧ va_P (dC, dI) vwCl [(h0, .inr (11, fs_h0))] U.heap ∧ va_K (dC, dI) vwCl [] U ∧ va_D (fun _ => True) [(h0, .inr (11, fs_h0))] ∧ w_N U)) (va_Qi (fun (r : Int32) (_ : Unit) => r = (-1)) (fun _ t => va_P (dC, dI) vwCl [] t.heap ∧ va_K (dC, dI) vwCl [] t ∧ va_D (va_A [(h0, .inr (11, fs_h0))] sz) []) (va_A [(h0, .inr (11, fs_h0))] sz)) 0 0 (va_A [(h0, .inr (11, fs_h0))] sz) := by
  refine Met.ofW (cc := cX11_fault) (maxL := 1) (ret := (some .int)) (by decide) rfl ?_
  intro p e s m args below meth c s₁ B hml hv
  obtain ⟨rfl, hsz, hP, hK, hD0, hN⟩ := hv
  have hx := B.exec
  have hb := B.bytes
  have hr := B.returns
  have hts := atoms_spec (ws := wv_f_fault) B.pre
  have hown : s.vm.findClass RX11 = some m.cls := findClass_of_methodNamed B.named
  have hlocks := B.notSynchronized
  subst hsz
  have hD := hD0.self (sz := s.heap.size)
  generalize hAe : va_A [(h0, .inr (11, fs_h0))] s.heap.size = A at hD ⊢
  have hA : ∀ q : Nat, s.heap.size ≤ q → A q := fun q h => by rw [← hAe]; exact Or.inr h
  have hS : va_S A s.heap s.heap [] := va_S.rf
  have hP : va_P (dC, dI) vwCl [(h0, .inr (11, fs_h0))] s.heap := hP
  have hl := lv_entry ([.ref h0]) (n := 1) (Nat.le_of_ble_eq_true rfl)
  rw [lg_entry_eq]
  generalize (lg_sl ([.ref h0]) ++ List.replicate (1 - (lg_sl ([.ref h0])).length) Slot.unset).toArray = ls at hl ⊢
  have hl : lv_has ls 1 [(0, .ref h0)] := hl
  refine lv_aload_n hx hb dX11_fault_0 rfl (lv_at hl 0 rfl) ?_
  refine va_get (D := (dC, dI)) (ci := 11) (v := .int (-1)) (C := RX11) (T := TX11) (N := 19) hx hb hts (in_f_fault_X11) hown hK hP 0 rfl rfl 2 (by decide) (hts (.fieldLink RX11 13 "MotionSigns" "faultPlace" "I") (List.mem_of_getElem? (i := 1) rfl)) (fun _ h9 => h9) (mF.get hF_h0 0 rfl) dX11_fault_1 ?_
  have hP9 := hP.sub (ws' := []) [] rfl
  have hD9 := hD.sub (ws' := []) [] (by decide) rfl
  have hK9 := hK.sub (tys' := []) [] rfl
  rw [← hAe] at hD9
  refine W.widen (k := 0) (n := 0) (Nat.le_of_ble_eq_true rfl) (Nat.le_of_ble_eq_true rfl) ?_
  subst hAe
  exact (W.iret (v := (-1)) hx hb hr (fun t ht hW => ⟨⟨(-1), (), rfl, rfl, by rw [ht]; exact hP9, va_K.moved hW.alike hK9, hD9⟩, hS.F ht⟩) hS.2.2 dX11_fault_4)
def wv_f_restore : List Cond := .code yX11_restore cX11_restore 1 (some .int) :: ([.fieldLink RX11 146 "MotionSigns" "images" "I"] ++ (wsX110 ++ ([])))
theorem gw_f_restore : wv_f_restore.all goodWord = true := by decide +kernel
theorem in_f_restore_X11 : ∀ w ∈ wsX110, w ∈ wv_f_restore := fun _ h => List.mem_cons_of_mem _ (List.mem_append_right _ (List.mem_append_left _ h))
set_option maxHeartbeats 4000000 in
set_option maxRecDepth 100000 in
/-- restore on a fresh object -/
theorem c_f_restore (l : Launch) (dC : Nat → ClassId) (dI : Nat → Nat → Nat) (h0 : Nat) (fs_h0 : List Value) (hF_h0 : mF 19 [(16, .int 0)] fs_h0) (sz : Nat) : Met l yX11_restore wv_f_restore ({ frames := 0, cells := 0, slots := 0, locals := 0 }) (va_Pc [.ref h0] (fun U => U.heap.size = sz ∧ va_P (dC, dI) vwCl [(h0, .inr (11, fs_h0))] U.heap ∧ va_K (dC, dI) vwCl [] U ∧ va_D (fun _ => True) [(h0, .inr (11, fs_h0))] ∧ w_N U)) (va_Qi (fun (r : Int32) (_ : Unit) => r = (-1)) (fun _ t => va_P (dC, dI) vwCl [] t.heap ∧ va_K (dC, dI) vwCl [] t ∧ va_D (va_A [(h0, .inr (11, fs_h0))] sz) []) (va_A [(h0, .inr (11, fs_h0))] sz)) 0 0 (va_A [(h0, .inr (11, fs_h0))] sz) := by
  refine Met.ofW (cc := cX11_restore) (maxL := 1) (ret := (some .int)) (by decide) rfl ?_
  intro p e s m args below meth c s₁ B hml hv
  obtain ⟨rfl, hsz, hP, hK, hD0, hN⟩ := hv
  have hx := B.exec
  have hb := B.bytes
  have hr := B.returns
  have hts := atoms_spec (ws := wv_f_restore) B.pre
  have hown : s.vm.findClass RX11 = some m.cls := findClass_of_methodNamed B.named
  have hlocks := B.notSynchronized
  subst hsz
  have hD := hD0.self (sz := s.heap.size)
  generalize hAe : va_A [(h0, .inr (11, fs_h0))] s.heap.size = A at hD ⊢
  have hA : ∀ q : Nat, s.heap.size ≤ q → A q := fun q h => by rw [← hAe]; exact Or.inr h
  have hS : va_S A s.heap s.heap [] := va_S.rf
  have hP : va_P (dC, dI) vwCl [(h0, .inr (11, fs_h0))] s.heap := hP
  have hl := lv_entry ([.ref h0]) (n := 1) (Nat.le_of_ble_eq_true rfl)
  rw [lg_entry_eq]
  generalize (lg_sl ([.ref h0]) ++ List.replicate (1 - (lg_sl ([.ref h0])).length) Slot.unset).toArray = ls at hl ⊢
  have hl : lv_has ls 1 [(0, .ref h0)] := hl
  refine lv_aload_n hx hb dX11_restore_0 rfl (lv_at hl 0 rfl) ?_
  refine va_get (D := (dC, dI)) (ci := 11) (v := .int 0) (C := RX11) (T := TX11) (N := 19) hx hb hts (in_f_restore_X11) hown hK hP 0 rfl rfl 16 (by decide) (hts (.fieldLink RX11 146 "MotionSigns" "images" "I") (List.mem_of_getElem? (i := 1) rfl)) (fun _ h9 => h9) (mF.get hF_h0 0 rfl) dX11_restore_1 ?_
  refine lv_if_le (tgt := 15) hx hb dX11_restore_4 (by decide) (fun _ => ?_) (fun hc => absurd (by decide) hc)
  refine lv_iconst (v := -1) hx hb dX11_restore_15 (by decide) ?_
  have hP9 := hP.sub (ws' := []) [] rfl
  have hD9 := hD.sub (ws' := []) [] (by decide) rfl
  have hK9 := hK.sub (tys' := []) [] rfl
  rw [← hAe] at hD9
  refine W.widen (k := 0) (n := 0) (Nat.le_of_ble_eq_true rfl) (Nat.le_of_ble_eq_true rfl) ?_
  subst hAe
  exact (W.iret (v := (-1)) hx hb hr (fun t ht hW => ⟨⟨(-1), (), rfl, rfl, by rw [ht]; exact hP9, va_K.moved hW.alike hK9, hD9⟩, hS.F ht⟩) hS.2.2 dX11_restore_16)
def wv_f_count : List Cond := .code yX11_count cX11_count 2 (some .int) :: ([.fieldLink RX11 112 "MotionSigns" "tapeSize" "I", .fieldLink RX11 146 "MotionSigns" "images" "I"] ++ (wsX110 ++ ([])))
theorem gw_f_count : wv_f_count.all goodWord = true := by decide +kernel
theorem in_f_count_X11 : ∀ w ∈ wsX110, w ∈ wv_f_count := fun _ h => List.mem_cons_of_mem _ (List.mem_append_right _ (List.mem_append_left _ h))
set_option maxHeartbeats 4000000 in
set_option maxRecDepth 100000 in
/-- count on a fresh object -/
theorem c_f_count (l : Launch) (dC : Nat → ClassId) (dI : Nat → Nat → Nat) (h0 : Nat) (x0 : Int32) (fs_h0 : List Value) (hF_h0 : mF 19 [(1, .int 0), (16, .int 0)] fs_h0) (sz : Nat) : Met l yX11_count wv_f_count ({ frames := 0, cells := 0, slots := 0, locals := 0 }) (va_Pc [.ref h0, .int x0] (fun U => U.heap.size = sz ∧ va_P (dC, dI) vwCl [(h0, .inr (11, fs_h0))] U.heap ∧ va_K (dC, dI) vwCl [] U ∧ va_D (fun _ => True) [(h0, .inr (11, fs_h0))] ∧ w_N U)) (va_Qi (fun (r : Int32) (_ : Unit) => r = kCount x0) (fun _ t => va_P (dC, dI) vwCl [] t.heap ∧ va_K (dC, dI) vwCl [] t ∧ va_D (va_A [(h0, .inr (11, fs_h0))] sz) []) (va_A [(h0, .inr (11, fs_h0))] sz)) 0 0 (va_A [(h0, .inr (11, fs_h0))] sz) := by
  refine Met.ofW (cc := cX11_count) (maxL := 2) (ret := (some .int)) (by decide) rfl ?_
  intro p e s m args below meth c s₁ B hml hv
  obtain ⟨rfl, hsz, hP, hK, hD0, hN⟩ := hv
  have hx := B.exec
  have hb := B.bytes
  have hr := B.returns
  have hts := atoms_spec (ws := wv_f_count) B.pre
  have hown : s.vm.findClass RX11 = some m.cls := findClass_of_methodNamed B.named
  have hlocks := B.notSynchronized
  subst hsz
  have hD := hD0.self (sz := s.heap.size)
  generalize hAe : va_A [(h0, .inr (11, fs_h0))] s.heap.size = A at hD ⊢
  have hA : ∀ q : Nat, s.heap.size ≤ q → A q := fun q h => by rw [← hAe]; exact Or.inr h
  have hS : va_S A s.heap s.heap [] := va_S.rf
  have hP : va_P (dC, dI) vwCl [(h0, .inr (11, fs_h0))] s.heap := hP
  have hl := lv_entry ([.ref h0, .int x0]) (n := 2) (Nat.le_of_ble_eq_true rfl)
  rw [lg_entry_eq]
  generalize (lg_sl ([.ref h0, .int x0]) ++ List.replicate (2 - (lg_sl ([.ref h0, .int x0])).length) Slot.unset).toArray = ls at hl ⊢
  have hl : lv_has ls 2 [(0, .ref h0), (1, .int x0)] := hl
  refine lv_iload_n hx hb dX11_count_0 rfl (lv_at hl 1 rfl) ?_
  refine lv_if_ne (tgt := 9) hx hb dX11_count_1 (by decide) (fun hc_1 => ?_) (fun hc_1 => ?_)
  · skip
    refine lv_iload_n hx hb dX11_count_9 rfl (lv_at hl 1 rfl) ?_
    refine lv_iconst (v := 1) hx hb dX11_count_10 (by decide) ?_
    refine lv_icmp_ne (tgt := 21) hx hb dX11_count_11 (by decide) (fun hc_2 => ?_) (fun hc_2 => ?_)
    · skip
      refine lv_iconst (v := -1) hx hb dX11_count_21 (by decide) ?_
      have hP9 := hP.sub (ws' := []) [] rfl
      have hD9 := hD.sub (ws' := []) [] (by decide) rfl
      have hK9 := hK.sub (tys' := []) [] rfl
      rw [← hAe] at hD9
      refine W.widen (k := 0) (n := 0) (Nat.le_of_ble_eq_true rfl) (Nat.le_of_ble_eq_true rfl) ?_
      subst hAe
      exact (W.iret (v := (-1)) hx hb hr (fun t ht hW => ⟨⟨(-1), (), rfl, (by simp [kCount, hc_1, hc_2]), by rw [ht]; exact hP9, va_K.moved hW.alike hK9, hD9⟩, hS.F ht⟩) hS.2.2 dX11_count_22)
    · skip
      refine lv_aload_n hx hb dX11_count_14 rfl (lv_at hl 0 rfl) ?_
      refine va_get (D := (dC, dI)) (ci := 11) (v := .int 0) (C := RX11) (T := TX11) (N := 19) hx hb hts (in_f_count_X11) hown hK hP 0 rfl rfl 1 (by decide) (hts (.fieldLink RX11 112 "MotionSigns" "tapeSize" "I") (List.mem_of_getElem? (i := 1) rfl)) (fun _ h9 => h9) (mF.get hF_h0 0 rfl) dX11_count_15 ?_
      refine lv_goto (tgt := 22) hx hb dX11_count_18 (by decide) ?_
      have hP9 := hP.sub (ws' := []) [] rfl
      have hD9 := hD.sub (ws' := []) [] (by decide) rfl
      have hK9 := hK.sub (tys' := []) [] rfl
      rw [← hAe] at hD9
      refine W.widen (k := 0) (n := 0) (Nat.le_of_ble_eq_true rfl) (Nat.le_of_ble_eq_true rfl) ?_
      subst hAe
      exact (W.iret (v := 0) hx hb hr (fun t ht hW => ⟨⟨0, (), rfl, (by simp [kCount, hc_1, hc_2]), by rw [ht]; exact hP9, va_K.moved hW.alike hK9, hD9⟩, hS.F ht⟩) hS.2.2 dX11_count_22)
  · skip
    refine lv_aload_n hx hb dX11_count_4 rfl (lv_at hl 0 rfl) ?_
    refine va_get (D := (dC, dI)) (ci := 11) (v := .int 0) (C := RX11) (T := TX11) (N := 19) hx hb hts (in_f_count_X11) hown hK hP 0 rfl rfl 16 (by decide) (hts (.fieldLink RX11 146 "MotionSigns" "images" "I") (List.mem_of_getElem? (i := 2) rfl)) (fun _ h9 => h9) (mF.get hF_h0 1 rfl) dX11_count_5 ?_
    have hP9 := hP.sub (ws' := []) [] rfl
    have hD9 := hD.sub (ws' := []) [] (by decide) rfl
    have hK9 := hK.sub (tys' := []) [] rfl
    rw [← hAe] at hD9
    refine W.widen (k := 0) (n := 0) (Nat.le_of_ble_eq_true rfl) (Nat.le_of_ble_eq_true rfl) ?_
    subst hAe
    exact (W.iret (v := 0) hx hb hr (fun t ht hW => ⟨⟨0, (), rfl, (by simp [kCount, hc_1]), by rw [ht]; exact hP9, va_K.moved hW.alike hK9, hD9⟩, hS.F ht⟩) hS.2.2 dX11_count_8)
def wv_f_needWhat : List Cond := .code yX11_needWhat cX11_needWhat 2 none :: ([.classLink RX11 218 "java/lang/IllegalArgumentException", .initialized "java/lang/IllegalArgumentException"] ++ (wt_IAE ++ ([])))
theorem gw_f_needWhat : wv_f_needWhat.all goodWord = true := by decide +kernel
set_option maxHeartbeats 4000000 in
set_option maxRecDepth 100000 in
/-- needWhat -/
theorem c_f_needWhat (l : Launch) (hlt : l.stackTraces = false) (dC : Nat → ClassId) (dI : Nat → Nat → Nat) (v : Int32) (sz : Nat) : vx_Met l yX11_needWhat wv_f_needWhat ({ frames := 6, cells := 1, slots := 6, locals := 90 }) (va_Pc [.int v, .int 2] (fun U => U.heap.size = sz ∧ va_P (dC, dI) vwCl [] U.heap ∧ va_K (dC, dI) vwCl [] U ∧ va_D (fun _ => True) [] ∧ w_N U ∧ w_T (va_A [] sz) U U.heap)) (va_Qv (fun (_ : Unit) => kWhat v) (fun _ t => va_P (dC, dI) vwCl [] t.heap ∧ va_K (dC, dI) vwCl [] t ∧ va_D (va_A [] sz) []) (va_A [] sz)) (vx_X (fun _ : Unit => ¬ kWhat v) (fun E _ _ => E = "java/lang/IllegalArgumentException") (va_A [] sz)) 1 6 (va_A [] sz) := by
  refine vx_ofW (cc := cX11_needWhat) (maxL := 2) (ret := none) (by decide) rfl ?_
  intro p e s m args below meth c s₁ B hml hnt hv
  obtain ⟨rfl, hsz, hP, hK, hD0, hN, hT⟩ := hv
  have hx := B.exec
  have hb := B.bytes
  have hr := B.returns
  have hts := atoms_spec (ws := wv_f_needWhat) B.pre
  have hown : s.vm.findClass RX11 = some m.cls := findClass_of_methodNamed B.named
  have hlocks := B.notSynchronized
  subst hsz
  have hD := hD0.self (sz := s.heap.size)
  generalize hAe : va_A [] s.heap.size = A at hD hT ⊢
  have hA : ∀ q : Nat, s.heap.size ≤ q → A q := fun q h => by rw [← hAe]; exact Or.inr h
  have hS : va_S A s.heap s.heap [] := va_S.rf
  have hP : va_P (dC, dI) vwCl [] s.heap := hP
  have hl := lv_entry ([.int v, .int 2]) (n := 2) (Nat.le_of_ble_eq_true rfl)
  rw [lg_entry_eq]
  generalize (lg_sl ([.int v, .int 2]) ++ List.replicate (2 - (lg_sl ([.int v, .int 2])).length) Slot.unset).toArray = ls at hl ⊢
  have hl : lv_has ls 2 [(0, .int v), (1, .int 2)] := hl
  refine lv_iload_n hx hb dX11_needWhat_0 rfl (lv_at hl 0 rfl) ?_
  refine lv_if_lt (tgt := 9) hx hb dX11_needWhat_1 (by decide) (fun hc_1 => ?_) (fun hc_1 => ?_)
  · skip
    obtain ⟨sa9, hsa9⟩ := hT.2.2.1 (325, "no such what") (List.mem_of_getElem? (i := 1) rfl)
    exact vx_throwSW hx hb hlt (own := RX11) (cls := "java/lang/IllegalArgumentException") (text := "no such what") (names := exn) (ik := 218) (is := 325) (ic := 222) (sa := sa9) hown (by decide +kernel) exn_fit (hts (.classLink RX11 218 "java/lang/IllegalArgumentException") (List.mem_of_getElem? (i := 1) rfl)) (hts (.initialized "java/lang/IllegalArgumentException") (List.mem_of_getElem? (i := 2) rfl)) hsa9 (vx_hat (fun w h => hts w (List.mem_cons_of_mem _ (List.mem_append_right _ (List.mem_append_left _ h)))) tb_IAE (tc_IAE hT)) tg_IAE hT.1 hT.2.1 hS (by rw [hml]; exact hl.1) dX11_needWhat_9 dX11_needWhat_12 dX11_needWhat_13 dX11_needWhat_16 dX11_needWhat_19 (fun x hx9 => (hnt x hx9).elim) (Nat.le_of_ble_eq_true rfl) (Nat.le_of_ble_eq_true rfl) (Nat.le_of_ble_eq_true rfl) (Nat.le_of_ble_eq_true rfl) hlocks (fun t9 hW9 hz9 hk9 => ⟨(), (fun h9 => h9.1 hc_1), rfl, Nat.le_trans hS.1 hz9, fun q9 hq9 hA9 => (hk9 q9 (Nat.lt_of_lt_of_le hq9 hS.1)).trans (hS.2.1 q9 hq9 hA9)⟩) hS.2.2 (Nat.le_of_ble_eq_true rfl) (Nat.le_of_ble_eq_true rfl)
  · skip
    refine lv_iload_n hx hb dX11_needWhat_4 rfl (lv_at hl 0 rfl) ?_
    refine lv_iload_n hx hb dX11_needWhat_5 rfl (lv_at hl 1 rfl) ?_
    refine lv_icmp_le (tgt := 20) hx hb dX11_needWhat_6 (by decide) (fun hc_2 => ?_) (fun hc_2 => ?_)
    · skip
      have hP9 := hP.sub (ws' := []) [] rfl
      have hD9 := hD.sub (ws' := []) [] (by decide) rfl
      have hK9 := hK.sub (tys' := []) [] rfl
      rw [← hAe] at hD9
      refine W.widen (k := 1) (n := 6) (Nat.le_of_ble_eq_true rfl) (Nat.le_of_ble_eq_true rfl) ?_
      subst hAe
      exact vx_ret (W.vret hx hb hr (fun t ht hW => ⟨⟨(), rfl, ⟨hc_1, hc_2⟩, by rw [ht]; exact hP9, va_K.moved hW.alike hK9, hD9⟩, hS.F ht⟩) hS.2.2 dX11_needWhat_20)
    · skip
      obtain ⟨sa9, hsa9⟩ := hT.2.2.1 (325, "no such what") (List.mem_of_getElem? (i := 1) rfl)
      exact vx_throwSW hx hb hlt (own := RX11) (cls := "java/lang/IllegalArgumentException") (text := "no such what") (names := exn) (ik := 218) (is := 325) (ic := 222) (sa := sa9) hown (by decide +kernel) exn_fit (hts (.classLink RX11 218 "java/lang/IllegalArgumentException") (List.mem_of_getElem? (i := 1) rfl)) (hts (.initialized "java/lang/IllegalArgumentException") (List.mem_of_getElem? (i := 2) rfl)) hsa9 (vx_hat (fun w h => hts w (List.mem_cons_of_mem _ (List.mem_append_right _ (List.mem_append_left _ h)))) tb_IAE (tc_IAE hT)) tg_IAE hT.1 hT.2.1 hS (by rw [hml]; exact hl.1) dX11_needWhat_9 dX11_needWhat_12 dX11_needWhat_13 dX11_needWhat_16 dX11_needWhat_19 (fun x hx9 => (hnt x hx9).elim) (Nat.le_of_ble_eq_true rfl) (Nat.le_of_ble_eq_true rfl) (Nat.le_of_ble_eq_true rfl) (Nat.le_of_ble_eq_true rfl) hlocks (fun t9 hW9 hz9 hk9 => ⟨(), (fun h9 => hc_2 h9.2), rfl, Nat.le_trans hS.1 hz9, fun q9 hq9 hA9 => (hk9 q9 (Nat.lt_of_lt_of_le hq9 hS.1)).trans (hS.2.1 q9 hq9 hA9)⟩) hS.2.2 (Nat.le_of_ble_eq_true rfl) (Nat.le_of_ble_eq_true rfl)
