def wv_m_wordHere : List Cond := .code yX15_wordHere cX15_wordHere 3 (some .int) :: ([.methodLink RX15 316 yX15_blanks, .instanceMethod yX15_blanks, .selects RX15 yX15_blanks yX15_blanks, .initialized RX15, .fieldLink RX15 303 "MotionSignsModel" "at" "I", .methodLink RX15 306 yX15_byteAt, .instanceMethod yX15_byteAt, .selects RX15 yX15_byteAt yX15_byteAt, .methodLink RX15 328 yX15_isLetter, .static yX15_isLetter] ++ (wv_m_blanks ++ (wsX150 ++ (wv_m_byteAt ++ (wv_m_isLetter ++ ([]))))))
theorem gw_m_wordHere : wv_m_wordHere.all goodWord = true := by decide +kernel
theorem in_m_wordHere_X15 : ∀ w ∈ wsX150, w ∈ wv_m_wordHere := fun _ h => List.mem_cons_of_mem _ (List.mem_append_right _ (List.mem_append_right _ (List.mem_append_left _ h)))
theorem g_m_wordHere_m_blanks_316 : GoodIn wv_m_wordHere (wsV RX15 316 RX15 yX15_blanks wv_m_blanks) := goodIn_app (goodIn_of _ (by decide +kernel)) (goodIn_sub (fun _ h => List.mem_cons_of_mem _ (List.mem_append_right _ (List.mem_append_left _ h))) gw_m_blanks)
theorem g_m_wordHere_m_byteAt_306 : GoodIn wv_m_wordHere (wsV RX15 306 RX15 yX15_byteAt wv_m_byteAt) := goodIn_app (goodIn_of _ (by decide +kernel)) (goodIn_sub (fun _ h => List.mem_cons_of_mem _ (List.mem_append_right _ (List.mem_append_right _ (List.mem_append_right _ (List.mem_append_left _ h))))) gw_m_byteAt)
theorem g_m_wordHere_m_isLetter_328 : GoodIn wv_m_wordHere (va_wsS RX15 328 yX15_isLetter wv_m_isLetter) := goodIn_app (goodIn_of _ (by decide +kernel)) (goodIn_sub (fun _ h => List.mem_cons_of_mem _ (List.mem_append_right _ (List.mem_append_right _ (List.mem_append_right _ (List.mem_append_right _ (List.mem_append_left _ h)))))) gw_m_isLetter)
set_option maxHeartbeats 4000000 in
set_option maxRecDepth 100000 in
/-- wordHere -/
theorem c_m_wordHere (l : Launch) (dC : Nat → ClassId) (dI : Nat → Nat → Nat) (h0 : Nat) (fs_h0 : List Value) (hF_h0 : mF 89 [(19, .int 0), (21, .int 0)] fs_h0) (sz : Nat) : Met l yX15_wordHere wv_m_wordHere ({ frames := 2, cells := 0, slots := 0, locals := 41 }) (va_Pc [.ref h0] (fun U => U.heap.size = sz ∧ va_P (dC, dI) vwCl [(h0, .inr (15, fs_h0))] U.heap ∧ va_K (dC, dI) vwCl [] U ∧ va_D (fun _ => True) [(h0, .inr (15, fs_h0))] ∧ w_N U)) (va_Qi (fun (r : Int32) (_ : Unit) => r = 0) (fun _ t => va_P (dC, dI) vwCl [(h0, .inr (15, fs_h0))] t.heap ∧ va_K (dC, dI) vwCl [] t ∧ va_D (va_A [(h0, .inr (15, fs_h0))] sz) [(h0, .inr (15, fs_h0))]) (va_A [(h0, .inr (15, fs_h0))] sz)) 0 0 (va_A [(h0, .inr (15, fs_h0))] sz) := by
  refine Met.ofW (cc := cX15_wordHere) (maxL := 3) (ret := (some .int)) (by decide) rfl ?_
  intro p e s m args below meth c s₁ B hml hv
  obtain ⟨rfl, hsz, hP, hK, hD0, hN⟩ := hv
  have hx := B.exec
  have hb := B.bytes
  have hr := B.returns
  have hts := atoms_spec (ws := wv_m_wordHere) B.pre
  have hown : s.vm.findClass RX15 = some m.cls := findClass_of_methodNamed B.named
  have hlocks := B.notSynchronized
  subst hsz
  have hD := hD0.self (sz := s.heap.size)
  generalize hAe : va_A [(h0, .inr (15, fs_h0))] s.heap.size = A at hD ⊢
  have hA : ∀ q : Nat, s.heap.size ≤ q → A q := fun q h => by rw [← hAe]; exact Or.inr h
  obtain ⟨H, hHe, hP, hS⟩ : ∃ H : Heap, H = s.heap ∧ va_P (dC, dI) vwCl [(h0, .inr (15, fs_h0))] H ∧ va_S A s.heap H [] := ⟨s.heap, rfl, hP, va_S.rf⟩
  have hl := lv_entry ([.ref h0]) (n := 3) (Nat.le_of_ble_eq_true rfl)
  rw [lg_entry_eq]
  generalize (lg_sl ([.ref h0]) ++ List.replicate (3 - (lg_sl ([.ref h0])).length) Slot.unset).toArray = ls at hl ⊢
  have hl : lv_has ls 3 [(0, .ref h0)] := hl
  rw [← hHe]; clear hHe
  refine lv_aload_n hx hb dX15_wordHere_0 rfl (lv_at hl 0 rfl) ?_
  have hPc := hP.sub (ws' := [(h0, .inr (15, fs_h0))]) [0] rfl
  have hDc := hD.sub (ws' := [(h0, .inr (15, fs_h0))]) [0] (by decide) rfl
  have hKc := hK.sub (tys' := []) [] rfl
  have hFc := va_free (wc := [(h0, .inr (15, fs_h0))]) hD hS hA [0] rfl
  refine va_callv (va_runV (As := []) (rest := []) ⟨hx, hb, hml, hown, hts⟩ (c_m_blanks l dC dI h0 fs_h0 (mF.sub hF_h0 [0, 1] rfl) H.size) (cwV 0 hts g_m_wordHere_m_blanks_316 rfl rfl rfl hv_X15_blanks ⟨Nat.le_of_ble_eq_true rfl, Nat.le_of_ble_eq_true rfl⟩) ⟨fun a U g mk q => by obtain ⟨q0, q1, qP, qK, qD, qE0⟩ := q; exact ⟨q0, q1, qP, va_K.moved (u := U) (U := U.calling g mk a) (Vm.Alike.refl U.vm) qK, qD, w_N.same rfl qE0⟩, va_recv hKc hPc (ci := 15) (q0 := 0) rfl rfl, fun U hU hW => ⟨rfl, by rw [hU], by rw [hU]; exact hPc, va_K.moved hW.alike hKc, hDc.weaken (fun _ _ _ _ => trivial), w_N.warm hW hN⟩⟩ rfl rfl hl.1 rfl (lv_room (Nat.le_of_ble_eq_true rfl)) dX15_wordHere_1 ⟨(Nat.le_of_ble_eq_true rfl), (Nat.le_of_ble_eq_true rfl)⟩) hS (fun q _ h => hFc q h) hFc (fun u t H1 locs1 ht hvm hw hB hz1 hk1 hS1 => ?_)
  obtain ⟨hP1, hK1, hD1⟩ := hB
  rw [ht] at hP1
  have hK1 := va_K.moved hvm.symm hK1
  have hJ := va_join (wr := []) (w1 := [(h0, .inr (15, fs_h0))]) hP hD [0] [] rfl rfl (by decide) (by decide) hk1 hFc hP1 hD1
  clear hP hD hPc hDc hKc hFc hz1; try clear hk1
  obtain ⟨hP, hD⟩ := hJ
  replace hK := (hK.sub (tys' := []) [] rfl).app (hK1.sub (tys' := []) [] rfl)
  clear hP1 hK1 hD1 hvm ht hS; try clear t
  try clear H
  revert hS1
  intro hS
  generalize H1 = H at hP hS ⊢; try clear H1
  replace hP : va_P (dC, dI) vwCl [(h0, .inr (15, fs_h0))] H := hP
  replace hD : va_D A [(h0, .inr (15, fs_h0))] := hD
  replace hK : va_K (dC, dI) vwCl [] s := hK
  have hw_1 : True := hw; clear hw
  refine lv_iconst (v := 0) hx hb dX15_wordHere_4 (by decide) ?_
  refine lv_istore_n (lv' := [(1, .int 0), (0, .ref h0)]) hx hb dX15_wordHere_5 rfl hl (by decide) rfl (fun ls hl => ?_)
  refine lv_iconst (v := 0) hx hb dX15_wordHere_6 (by decide) ?_
  refine lv_istore_n (lv' := [(2, .int 0), (1, .int 0), (0, .ref h0)]) hx hb dX15_wordHere_7 rfl hl (by decide) rfl (fun ls hl => ?_)
  refine lv_aload_n hx hb dX15_wordHere_8 rfl (lv_at hl 2 rfl) ?_
  refine lv_aload_n hx hb dX15_wordHere_9 rfl (lv_at hl 2 rfl) ?_
  refine va_get (D := (dC, dI)) (ci := 15) (v := .int 0) (C := RX15) (T := TX15) (N := 89) hx hb hts (in_m_wordHere_X15) hown hK hP 0 rfl rfl 21 (by decide) (hts (.fieldLink RX15 303 "MotionSignsModel" "at" "I") (List.mem_of_getElem? (i := 5) rfl)) (fun _ h9 => h9) (mF.get hF_h0 1 rfl) dX15_wordHere_10 ?_
  refine lv_iload_n hx hb dX15_wordHere_13 rfl (lv_at hl 0 rfl) ?_
  refine lv_iadd hx hb dX15_wordHere_14 ?_
  refine lv_topi (fun v_2 ev_2 => ?_)
  have ev_2 : v_2 = 0 := ev_2.trans (by decide)
  subst ev_2
  have hPc := hP.sub (ws' := [(h0, .inr (15, fs_h0))]) [0] rfl
  have hDc := hD.sub (ws' := [(h0, .inr (15, fs_h0))]) [0] (by decide) rfl
  have hKc := hK.sub (tys' := []) [] rfl
  have hFc := va_free (wc := [(h0, .inr (15, fs_h0))]) hD hS hA [0] rfl
  refine va_calli (va_runV (As := [.int 0]) (rest := []) ⟨hx, hb, hml, hown, hts⟩ (c_m_byteAt l dC dI h0 fs_h0 (mF.sub hF_h0 [0] rfl) H.size) (cwV 1 hts g_m_wordHere_m_byteAt_306 rfl rfl rfl hv_X15_byteAt ⟨Nat.le_of_ble_eq_true rfl, Nat.le_of_ble_eq_true rfl⟩) ⟨fun a U g mk q => by obtain ⟨q0, q1, qP, qK, qD, qE0⟩ := q; exact ⟨q0, q1, qP, va_K.moved (u := U) (U := U.calling g mk a) (Vm.Alike.refl U.vm) qK, qD, w_N.same rfl qE0⟩, va_recv hKc hPc (ci := 15) (q0 := 0) rfl rfl, fun U hU hW => ⟨rfl, by rw [hU], by rw [hU]; exact hPc, va_K.moved hW.alike hKc, hDc.weaken (fun _ _ _ _ => trivial), w_N.warm hW hN⟩⟩ rfl rfl hl.1 rfl (lv_room (Nat.le_of_ble_eq_true rfl)) dX15_wordHere_15 ⟨(Nat.le_of_ble_eq_true rfl), (Nat.le_of_ble_eq_true rfl)⟩) hS (fun q _ h => hFc q h) hFc (fun r_3 u t H1 locs1 ht hvm hw hB hz1 hk1 hS1 => ?_)
  obtain ⟨hP1, hK1, hD1⟩ := hB
  rw [ht] at hP1
  have hK1 := va_K.moved hvm.symm hK1
  have hJ := va_join (wr := []) (w1 := [(h0, .inr (15, fs_h0))]) hP hD [0] [] rfl rfl (by decide) (by decide) hk1 hFc hP1 hD1
  clear hP hD hPc hDc hKc hFc hz1; try clear hk1
  obtain ⟨hP, hD⟩ := hJ
  replace hK := (hK.sub (tys' := []) [] rfl).app (hK1.sub (tys' := []) [] rfl)
  clear hP1 hK1 hD1 hvm ht hS; try clear t
  try clear H
  revert hS1
  intro hS
  generalize H1 = H at hP hS ⊢; try clear H1
  replace hP : va_P (dC, dI) vwCl [(h0, .inr (15, fs_h0))] H := hP
  replace hD : va_D A [(h0, .inr (15, fs_h0))] := hD
  replace hK : va_K (dC, dI) vwCl [] s := hK
  have hw_4 : r_3 = (-1) := hw; clear hw
  subst hw_4
  have hPc := hP.sub (ws' := []) [] rfl
  have hDc := hD.sub (ws' := []) [] (by decide) rfl
  have hKc := hK.sub (tys' := []) [] rfl
  have hFc := va_free (wc := []) hD hS hA [] rfl
  refine va_calli (va_runS (As := [.int (-1)]) (rest := []) ⟨hx, hb, hml, hown, hts⟩ (c_m_isLetter l dC dI  H.size) (va_cwS 1 hts g_m_wordHere_m_isLetter_328 rfl rfl rfl hd_X15_isLetter ⟨Nat.le_of_ble_eq_true rfl, Nat.le_of_ble_eq_true rfl⟩) ⟨fun a U g mk q => by obtain ⟨q0, q1, qP, qK, qD, qE0⟩ := q; exact ⟨q0, q1, qP, va_K.moved (u := U) (U := U.calling g mk a) (Vm.Alike.refl U.vm) qK, qD, w_N.same rfl qE0⟩, fun U hU hW => ⟨rfl, by rw [hU], by rw [hU]; exact hPc, va_K.moved hW.alike hKc, hDc.weaken (fun _ _ _ _ => trivial), w_N.warm hW hN⟩⟩ rfl rfl hl.1 rfl (lv_room (Nat.le_of_ble_eq_true rfl)) dX15_wordHere_18 ⟨(Nat.le_of_ble_eq_true rfl), (Nat.le_of_ble_eq_true rfl)⟩) hS (fun q _ h => hFc q h) hFc (fun r_5 u t H1 locs1 ht hvm hw hB hz1 hk1 hS1 => ?_)
  obtain ⟨hP1, hK1, hD1⟩ := hB
  rw [ht] at hP1
  have hK1 := va_K.moved hvm.symm hK1
  have hJ := va_join (wr := [(h0, .inr (15, fs_h0))]) (w1 := []) hP hD [] [0] rfl rfl (by decide) (by decide) hk1 hFc hP1 hD1
  clear hP hD hPc hDc hKc hFc hz1; try clear hk1
  obtain ⟨hP, hD⟩ := hJ
  replace hK := (hK.sub (tys' := []) [] rfl).app (hK1.sub (tys' := []) [] rfl)
  clear hP1 hK1 hD1 hvm ht hS; try clear t
  try clear H
  revert hS1
  intro hS
  generalize H1 = H at hP hS ⊢; try clear H1
  replace hP : va_P (dC, dI) vwCl [(h0, .inr (15, fs_h0))] H := hP
  replace hD : va_D A [(h0, .inr (15, fs_h0))] := hD
  replace hK : va_K (dC, dI) vwCl [] s := hK
  have hw_6 : r_5 = 0 := hw; clear hw
  subst hw_6
  refine lv_if_eq (tgt := 61) hx hb dX15_wordHere_21 (by decide) (fun _ => ?_) (fun hc => absurd (by decide) hc)
  refine lv_iload_n hx hb dX15_wordHere_61 rfl (lv_at hl 0 rfl) ?_
  refine lv_bipush (v := 6) hx hb dX15_wordHere_62 (by decide) ?_
  refine lv_icmp_le (tgt := 71) hx hb dX15_wordHere_64 (by decide) (fun _ => ?_) (fun hc => absurd (by decide) hc)
  refine lv_iload_n hx hb dX15_wordHere_71 rfl (lv_at hl 1 rfl) ?_
  have hP9 := hP.sub (ws' := [(h0, .inr (15, fs_h0))]) [0] rfl
  have hD9 := hD.sub (ws' := [(h0, .inr (15, fs_h0))]) [0] (by decide) rfl
  have hK9 := hK.sub (tys' := []) [] rfl
  rw [← hAe] at hD9
  refine W.widen (k := 0) (n := 0) (Nat.le_of_ble_eq_true rfl) (Nat.le_of_ble_eq_true rfl) ?_
  subst hAe
  exact (W.iret (v := 0) hx hb hr (fun t ht hW => ⟨⟨0, (), rfl, rfl, by rw [ht]; exact hP9, va_K.moved hW.alike hK9, hD9⟩, hS.F ht⟩) hS.2.2 dX15_wordHere_72)
def wv_m_starts : List Cond := .code yX15_starts cX15_starts 2 none :: ([.fieldLink RX15 299 "MotionSignsModel" "tape" "I", .fieldLink RX15 302 "MotionSignsModel" "size" "I", .fieldLink RX15 303 "MotionSignsModel" "at" "I", .fieldLink RX15 310 "MotionSignsModel" "fault" "I", .fieldLink RX15 313 "MotionSignsModel" "faultAt" "I", .fieldLink RX15 331 "MotionSignsModel" "open" "I", .fieldLink RX15 334 "MotionSignsModel" "over" "Z"] ++ (wsX150 ++ ([])))
theorem gw_m_starts : wv_m_starts.all goodWord = true := by decide +kernel
theorem in_m_starts_X15 : ∀ w ∈ wsX150, w ∈ wv_m_starts := fun _ h => List.mem_cons_of_mem _ (List.mem_append_right _ (List.mem_append_left _ h))
set_option maxHeartbeats 4000000 in
set_option maxRecDepth 100000 in
/-- starts -/
theorem c_m_starts (l : Launch) (dC : Nat → ClassId) (dI : Nat → Nat → Nat) (h0 : Nat) (qfed : Nat) (qf : Nat) (qfd : Nat) (qs : Nat) (qk : Nat) (fs_h0 : List Value) (hF_h0 : mF 89 [(0, .int 0), (18, .int 0), (19, .int 0), (20, .int (-1)), (21, .int 0), (22, .int 0), (23, .int 0), (24, .int 0), (25, .int 0), (27, .int 0), (28, .int 0), (29, .int 0), (35, .int 0), (17, .int (-1)), (26, .ref qfed), (30, .ref qf), (31, .ref qfd), (33, .ref qs), (36, .ref qk)] fs_h0) (sz : Nat) : Met l yX15_starts wv_m_starts ({ frames := 0, cells := 0, slots := 0, locals := 0 }) (va_Pc [.ref h0, .int 0] (fun U => U.heap.size = sz ∧ va_P (dC, dI) vwCl [(h0, .inr (15, fs_h0))] U.heap ∧ va_K (dC, dI) vwCl [] U ∧ va_D (fun _ => True) [(h0, .inr (15, fs_h0))] ∧ w_N U)) (va_Qv (fun (_ : Unit) => True) (fun _ t => ∃ (fs_h02 : List Value), va_P (dC, dI) vwCl [(h0, .inr (15, fs_h02))] t.heap ∧ va_K (dC, dI) vwCl [] t ∧ va_D (va_A [(h0, .inr (15, fs_h0))] sz) [(h0, .inr (15, fs_h02))] ∧ mF 89 [(0, .int 0), (18, .int 0), (19, .int 0), (20, .int (-1)), (21, .int 0), (22, .int 0), (23, .int (-1)), (24, .int 0), (25, .int 0), (27, .int 0), (28, .int 0), (29, .int 0), (35, .int 0), (17, .int (-1)), (26, .ref qfed), (30, .ref qf), (31, .ref qfd), (33, .ref qs), (36, .ref qk)] fs_h02) (va_A [(h0, .inr (15, fs_h0))] sz)) 0 0 (va_A [(h0, .inr (15, fs_h0))] sz) := by
  refine Met.ofW (cc := cX15_starts) (maxL := 2) (ret := none) (by decide) rfl ?_
  intro p e s m args below meth c s₁ B hml hv
  obtain ⟨rfl, hsz, hP, hK, hD0, hN⟩ := hv
  have hx := B.exec
  have hb := B.bytes
  have hr := B.returns
  have hts := atoms_spec (ws := wv_m_starts) B.pre
  have hown : s.vm.findClass RX15 = some m.cls := findClass_of_methodNamed B.named
  have hlocks := B.notSynchronized
  subst hsz
  have hD := hD0.self (sz := s.heap.size)
  generalize hAe : va_A [(h0, .inr (15, fs_h0))] s.heap.size = A at hD ⊢
  have hA : ∀ q : Nat, s.heap.size ≤ q → A q := fun q h => by rw [← hAe]; exact Or.inr h
  obtain ⟨H, hHe, hP, hS⟩ : ∃ H : Heap, H = s.heap ∧ va_P (dC, dI) vwCl [(h0, .inr (15, fs_h0))] H ∧ va_S A s.heap H [] := ⟨s.heap, rfl, hP, va_S.rf⟩
  have hl := lv_entry ([.ref h0, .int 0]) (n := 2) (Nat.le_of_ble_eq_true rfl)
  rw [lg_entry_eq]
  generalize (lg_sl ([.ref h0, .int 0]) ++ List.replicate (2 - (lg_sl ([.ref h0, .int 0])).length) Slot.unset).toArray = ls at hl ⊢
  have hl : lv_has ls 2 [(0, .ref h0), (1, .int 0)] := hl
  rw [← hHe]; clear hHe
  refine lv_aload_n hx hb dX15_starts_0 rfl (lv_at hl 0 rfl) ?_
  refine lv_iconst (v := 0) hx hb dX15_starts_1 (by decide) ?_
  refine va_put (D := (dC, dI)) (ci := 15) (v := .int 0) (ty := .int) (C := RX15) (T := TX15) (N := 89) hx hb hts (in_m_starts_X15) tyX15 tyX15_ok nmX15 hown hK hP hD hS 0 rfl rfl 18 (by decide) (hts (.fieldLink RX15 299 "MotionSignsModel" "tape" "I") (List.mem_of_getElem? (i := 1) rfl)) (fun _ h9 => h9) rfl (tyX15_ok 18 (by decide)) rfl rfl (mF.lt hF_h0 (by decide)) dX15_starts_2 ?_
  clear hP hD hS; try clear H
  intro H locs hP hD hS
  have hF0 := mF.sub (L' := [(0, .int 0), (19, .int 0), (20, .int (-1)), (21, .int 0), (22, .int 0), (23, .int 0), (24, .int 0), (25, .int 0), (27, .int 0), (28, .int 0), (29, .int 0), (35, .int 0), (17, .int (-1)), (26, .ref qfed), (30, .ref qf), (31, .ref qfd), (33, .ref qs), (36, .ref qk)]) hF_h0 [0, 2, 3, 4, 5, 6, 7, 8, 9, 10, 11, 12, 13, 14, 15, 16, 17, 18] rfl
  have hF1 := mF.put hF0 18 (.int 0) (by decide) rfl
  replace hP : va_P (dC, dI) vwCl [(h0, .inr (15, (fs_h0.set 18 (.int 0))))] H := hP
  replace hD : va_D A [(h0, .inr (15, (fs_h0.set 18 (.int 0))))] := hD
  generalize fs_h0.set 18 (.int 0) = fs_1 at hP hD hF1
  replace hF_h0 : mF 89 [(18, .int 0), (0, .int 0), (19, .int 0), (20, .int (-1)), (21, .int 0), (22, .int 0), (23, .int 0), (24, .int 0), (25, .int 0), (27, .int 0), (28, .int 0), (29, .int 0), (35, .int 0), (17, .int (-1)), (26, .ref qfed), (30, .ref qf), (31, .ref qfd), (33, .ref qs), (36, .ref qk)] fs_1 := hF1
  clear hF1 hF0
  replace hP : va_P (dC, dI) vwCl [(h0, .inr (15, fs_1))] H := hP
  replace hD : va_D A [(h0, .inr (15, fs_1))] := hD
  refine lv_aload_n hx hb dX15_starts_5 rfl (lv_at hl 0 rfl) ?_
  refine lv_iload_n hx hb dX15_starts_6 rfl (lv_at hl 1 rfl) ?_
  refine va_put (D := (dC, dI)) (ci := 15) (v := .int 0) (ty := .int) (C := RX15) (T := TX15) (N := 89) hx hb hts (in_m_starts_X15) tyX15 tyX15_ok nmX15 hown hK hP hD hS 0 rfl rfl 19 (by decide) (hts (.fieldLink RX15 302 "MotionSignsModel" "size" "I") (List.mem_of_getElem? (i := 2) rfl)) (fun _ h9 => h9) rfl (tyX15_ok 19 (by decide)) rfl rfl (mF.lt hF_h0 (by decide)) dX15_starts_7 ?_
  clear hP hD hS; try clear H
  intro H locs hP hD hS
  have hF0 := mF.sub (L' := [(18, .int 0), (0, .int 0), (20, .int (-1)), (21, .int 0), (22, .int 0), (23, .int 0), (24, .int 0), (25, .int 0), (27, .int 0), (28, .int 0), (29, .int 0), (35, .int 0), (17, .int (-1)), (26, .ref qfed), (30, .ref qf), (31, .ref qfd), (33, .ref qs), (36, .ref qk)]) hF_h0 [0, 1, 3, 4, 5, 6, 7, 8, 9, 10, 11, 12, 13, 14, 15, 16, 17, 18] rfl
  have hF1 := mF.put hF0 19 (.int 0) (by decide) rfl
  replace hP : va_P (dC, dI) vwCl [(h0, .inr (15, (fs_1.set 19 (.int 0))))] H := hP
  replace hD : va_D A [(h0, .inr (15, (fs_1.set 19 (.int 0))))] := hD
  generalize fs_1.set 19 (.int 0) = fs_2 at hP hD hF1
  replace hF_h0 : mF 89 [(19, .int 0), (18, .int 0), (0, .int 0), (20, .int (-1)), (21, .int 0), (22, .int 0), (23, .int 0), (24, .int 0), (25, .int 0), (27, .int 0), (28, .int 0), (29, .int 0), (35, .int 0), (17, .int (-1)), (26, .ref qfed), (30, .ref qf), (31, .ref qfd), (33, .ref qs), (36, .ref qk)] fs_2 := hF1
  clear hF1 hF0
  replace hP : va_P (dC, dI) vwCl [(h0, .inr (15, fs_2))] H := hP
  replace hD : va_D A [(h0, .inr (15, fs_2))] := hD
  refine lv_aload_n hx hb dX15_starts_10 rfl (lv_at hl 0 rfl) ?_
  refine lv_iconst (v := 0) hx hb dX15_starts_11 (by decide) ?_
  refine va_put (D := (dC, dI)) (ci := 15) (v := .int 0) (ty := .int) (C := RX15) (T := TX15) (N := 89) hx hb hts (in_m_starts_X15) tyX15 tyX15_ok nmX15 hown hK hP hD hS 0 rfl rfl 21 (by decide) (hts (.fieldLink RX15 303 "MotionSignsModel" "at" "I") (List.mem_of_getElem? (i := 3) rfl)) (fun _ h9 => h9) rfl (tyX15_ok 21 (by decide)) rfl rfl (mF.lt hF_h0 (by decide)) dX15_starts_12 ?_
  clear hP hD hS; try clear H
  intro H locs hP hD hS
  have hF0 := mF.sub (L' := [(19, .int 0), (18, .int 0), (0, .int 0), (20, .int (-1)), (22, .int 0), (23, .int 0), (24, .int 0), (25, .int 0), (27, .int 0), (28, .int 0), (29, .int 0), (35, .int 0), (17, .int (-1)), (26, .ref qfed), (30, .ref qf), (31, .ref qfd), (33, .ref qs), (36, .ref qk)]) hF_h0 [0, 1, 2, 3, 5, 6, 7, 8, 9, 10, 11, 12, 13, 14, 15, 16, 17, 18] rfl
  have hF1 := mF.put hF0 21 (.int 0) (by decide) rfl
  replace hP : va_P (dC, dI) vwCl [(h0, .inr (15, (fs_2.set 21 (.int 0))))] H := hP
  replace hD : va_D A [(h0, .inr (15, (fs_2.set 21 (.int 0))))] := hD
  generalize fs_2.set 21 (.int 0) = fs_3 at hP hD hF1
  replace hF_h0 : mF 89 [(21, .int 0), (19, .int 0), (18, .int 0), (0, .int 0), (20, .int (-1)), (22, .int 0), (23, .int 0), (24, .int 0), (25, .int 0), (27, .int 0), (28, .int 0), (29, .int 0), (35, .int 0), (17, .int (-1)), (26, .ref qfed), (30, .ref qf), (31, .ref qfd), (33, .ref qs), (36, .ref qk)] fs_3 := hF1
  clear hF1 hF0
  replace hP : va_P (dC, dI) vwCl [(h0, .inr (15, fs_3))] H := hP
  replace hD : va_D A [(h0, .inr (15, fs_3))] := hD
  refine lv_aload_n hx hb dX15_starts_15 rfl (lv_at hl 0 rfl) ?_
  refine lv_iconst (v := 0) hx hb dX15_starts_16 (by decide) ?_
  refine va_put (D := (dC, dI)) (ci := 15) (v := .int 0) (ty := .int) (C := RX15) (T := TX15) (N := 89) hx hb hts (in_m_starts_X15) tyX15 tyX15_ok nmX15 hown hK hP hD hS 0 rfl rfl 22 (by decide) (hts (.fieldLink RX15 310 "MotionSignsModel" "fault" "I") (List.mem_of_getElem? (i := 4) rfl)) (fun _ h9 => h9) rfl (tyX15_ok 22 (by decide)) rfl rfl (mF.lt hF_h0 (by decide)) dX15_starts_17 ?_
  clear hP hD hS; try clear H
  intro H locs hP hD hS
  have hF0 := mF.sub (L' := [(21, .int 0), (19, .int 0), (18, .int 0), (0, .int 0), (20, .int (-1)), (23, .int 0), (24, .int 0), (25, .int 0), (27, .int 0), (28, .int 0), (29, .int 0), (35, .int 0), (17, .int (-1)), (26, .ref qfed), (30, .ref qf), (31, .ref qfd), (33, .ref qs), (36, .ref qk)]) hF_h0 [0, 1, 2, 3, 4, 6, 7, 8, 9, 10, 11, 12, 13, 14, 15, 16, 17, 18] rfl
  have hF1 := mF.put hF0 22 (.int 0) (by decide) rfl
  replace hP : va_P (dC, dI) vwCl [(h0, .inr (15, (fs_3.set 22 (.int 0))))] H := hP
  replace hD : va_D A [(h0, .inr (15, (fs_3.set 22 (.int 0))))] := hD
  generalize fs_3.set 22 (.int 0) = fs_4 at hP hD hF1
  replace hF_h0 : mF 89 [(22, .int 0), (21, .int 0), (19, .int 0), (18, .int 0), (0, .int 0), (20, .int (-1)), (23, .int 0), (24, .int 0), (25, .int 0), (27, .int 0), (28, .int 0), (29, .int 0), (35, .int 0), (17, .int (-1)), (26, .ref qfed), (30, .ref qf), (31, .ref qfd), (33, .ref qs), (36, .ref qk)] fs_4 := hF1
  clear hF1 hF0
  replace hP : va_P (dC, dI) vwCl [(h0, .inr (15, fs_4))] H := hP
  replace hD : va_D A [(h0, .inr (15, fs_4))] := hD
  refine lv_aload_n hx hb dX15_starts_20 rfl (lv_at hl 0 rfl) ?_
  refine lv_iconst (v := -1) hx hb dX15_starts_21 (by decide) ?_
  refine va_put (D := (dC, dI)) (ci := 15) (v := .int (-1)) (ty := .int) (C := RX15) (T := TX15) (N := 89) hx hb hts (in_m_starts_X15) tyX15 tyX15_ok nmX15 hown hK hP hD hS 0 rfl rfl 23 (by decide) (hts (.fieldLink RX15 313 "MotionSignsModel" "faultAt" "I") (List.mem_of_getElem? (i := 5) rfl)) (fun _ h9 => h9) rfl (tyX15_ok 23 (by decide)) rfl rfl (mF.lt hF_h0 (by decide)) dX15_starts_22 ?_
  clear hP hD hS; try clear H
  intro H locs hP hD hS
  have hF0 := mF.sub (L' := [(22, .int 0), (21, .int 0), (19, .int 0), (18, .int 0), (0, .int 0), (20, .int (-1)), (24, .int 0), (25, .int 0), (27, .int 0), (28, .int 0), (29, .int 0), (35, .int 0), (17, .int (-1)), (26, .ref qfed), (30, .ref qf), (31, .ref qfd), (33, .ref qs), (36, .ref qk)]) hF_h0 [0, 1, 2, 3, 4, 5, 7, 8, 9, 10, 11, 12, 13, 14, 15, 16, 17, 18] rfl
  have hF1 := mF.put hF0 23 (.int (-1)) (by decide) rfl
  replace hP : va_P (dC, dI) vwCl [(h0, .inr (15, (fs_4.set 23 (.int (-1)))))] H := hP
  replace hD : va_D A [(h0, .inr (15, (fs_4.set 23 (.int (-1)))))] := hD
  generalize fs_4.set 23 (.int (-1)) = fs_5 at hP hD hF1
  replace hF_h0 : mF 89 [(23, .int (-1)), (22, .int 0), (21, .int 0), (19, .int 0), (18, .int 0), (0, .int 0), (20, .int (-1)), (24, .int 0), (25, .int 0), (27, .int 0), (28, .int 0), (29, .int 0), (35, .int 0), (17, .int (-1)), (26, .ref qfed), (30, .ref qf), (31, .ref qfd), (33, .ref qs), (36, .ref qk)] fs_5 := hF1
  clear hF1 hF0
  replace hP : va_P (dC, dI) vwCl [(h0, .inr (15, fs_5))] H := hP
  replace hD : va_D A [(h0, .inr (15, fs_5))] := hD
  refine lv_aload_n hx hb dX15_starts_25 rfl (lv_at hl 0 rfl) ?_
  refine lv_iconst (v := 0) hx hb dX15_starts_26 (by decide) ?_
  refine va_put (D := (dC, dI)) (ci := 15) (v := .int 0) (ty := .int) (C := RX15) (T := TX15) (N := 89) hx hb hts (in_m_starts_X15) tyX15 tyX15_ok nmX15 hown hK hP hD hS 0 rfl rfl 24 (by decide) (hts (.fieldLink RX15 331 "MotionSignsModel" "open" "I") (List.mem_of_getElem? (i := 6) rfl)) (fun _ h9 => h9) rfl (tyX15_ok 24 (by decide)) rfl rfl (mF.lt hF_h0 (by decide)) dX15_starts_27 ?_
  clear hP hD hS; try clear H
  intro H locs hP hD hS
  have hF0 := mF.sub (L' := [(23, .int (-1)), (22, .int 0), (21, .int 0), (19, .int 0), (18, .int 0), (0, .int 0), (20, .int (-1)), (25, .int 0), (27, .int 0), (28, .int 0), (29, .int 0), (35, .int 0), (17, .int (-1)), (26, .ref qfed), (30, .ref qf), (31, .ref qfd), (33, .ref qs), (36, .ref qk)]) hF_h0 [0, 1, 2, 3, 4, 5, 6, 8, 9, 10, 11, 12, 13, 14, 15, 16, 17, 18] rfl
  have hF1 := mF.put hF0 24 (.int 0) (by decide) rfl
  replace hP : va_P (dC, dI) vwCl [(h0, .inr (15, (fs_5.set 24 (.int 0))))] H := hP
  replace hD : va_D A [(h0, .inr (15, (fs_5.set 24 (.int 0))))] := hD
  generalize fs_5.set 24 (.int 0) = fs_6 at hP hD hF1
  replace hF_h0 : mF 89 [(24, .int 0), (23, .int (-1)), (22, .int 0), (21, .int 0), (19, .int 0), (18, .int 0), (0, .int 0), (20, .int (-1)), (25, .int 0), (27, .int 0), (28, .int 0), (29, .int 0), (35, .int 0), (17, .int (-1)), (26, .ref qfed), (30, .ref qf), (31, .ref qfd), (33, .ref qs), (36, .ref qk)] fs_6 := hF1
  clear hF1 hF0
  replace hP : va_P (dC, dI) vwCl [(h0, .inr (15, fs_6))] H := hP
  replace hD : va_D A [(h0, .inr (15, fs_6))] := hD
  refine lv_aload_n hx hb dX15_starts_30 rfl (lv_at hl 0 rfl) ?_
  refine lv_iconst (v := 0) hx hb dX15_starts_31 (by decide) ?_
  refine va_put (D := (dC, dI)) (ci := 15) (v := .int 0) (ty := .boolean) (C := RX15) (T := TX15) (N := 89) hx hb hts (in_m_starts_X15) tyX15 tyX15_ok nmX15 hown hK hP hD hS 0 rfl rfl 27 (by decide) (hts (.fieldLink RX15 334 "MotionSignsModel" "over" "Z") (List.mem_of_getElem? (i := 7) rfl)) (fun _ h9 => h9) rfl (tyX15_ok 27 (by decide)) (by first | rfl | decide | exact rfl) rfl (mF.lt hF_h0 (by decide)) dX15_starts_32 ?_
  clear hP hD hS; try clear H
  intro H locs hP hD hS
  have hF0 := mF.sub (L' := [(24, .int 0), (23, .int (-1)), (22, .int 0), (21, .int 0), (19, .int 0), (18, .int 0), (0, .int 0), (20, .int (-1)), (25, .int 0), (28, .int 0), (29, .int 0), (35, .int 0), (17, .int (-1)), (26, .ref qfed), (30, .ref qf), (31, .ref qfd), (33, .ref qs), (36, .ref qk)]) hF_h0 [0, 1, 2, 3, 4, 5, 6, 7, 8, 10, 11, 12, 13, 14, 15, 16, 17, 18] rfl
  have hF1 := mF.put hF0 27 (.int 0) (by decide) rfl
  replace hP : va_P (dC, dI) vwCl [(h0, .inr (15, (fs_6.set 27 (.int 0))))] H := hP
  replace hD : va_D A [(h0, .inr (15, (fs_6.set 27 (.int 0))))] := hD
  generalize fs_6.set 27 (.int 0) = fs_7 at hP hD hF1
  replace hF_h0 : mF 89 [(27, .int 0), (24, .int 0), (23, .int (-1)), (22, .int 0), (21, .int 0), (19, .int 0), (18, .int 0), (0, .int 0), (20, .int (-1)), (25, .int 0), (28, .int 0), (29, .int 0), (35, .int 0), (17, .int (-1)), (26, .ref qfed), (30, .ref qf), (31, .ref qfd), (33, .ref qs), (36, .ref qk)] fs_7 := hF1
  clear hF1 hF0
  replace hP : va_P (dC, dI) vwCl [(h0, .inr (15, fs_7))] H := hP
  replace hD : va_D A [(h0, .inr (15, fs_7))] := hD
  have hP9 := hP.sub (ws' := [(h0, .inr (15, fs_7))]) [0] rfl
  have hD9 := hD.sub (ws' := [(h0, .inr (15, fs_7))]) [0] (by decide) rfl
  have hK9 := hK.sub (tys' := []) [] rfl
  rw [← hAe] at hD9
  refine W.widen (k := 0) (n := 0) (Nat.le_of_ble_eq_true rfl) (Nat.le_of_ble_eq_true rfl) ?_
  subst hAe
  exact (W.vret hx hb hr (fun t ht hW => ⟨⟨(), rfl, trivial, fs_7, by rw [ht]; exact hP9, va_K.moved hW.alike hK9, hD9, (mF.sub hF_h0 [7, 6, 5, 8, 4, 3, 2, 1, 9, 0, 10, 11, 12, 13, 14, 15, 16, 17, 18] rfl)⟩, hS.F ht⟩) hS.2.2 dX15_starts_35)
def wv_m_wrong : List Cond := .code yX15_wrong cX15_wrong 3 none :: ([.fieldLink RX15 310 "MotionSignsModel" "fault" "I", .fieldLink RX15 313 "MotionSignsModel" "faultAt" "I"] ++ (wsX150 ++ ([])))
theorem gw_m_wrong : wv_m_wrong.all goodWord = true := by decide +kernel
theorem in_m_wrong_X15 : ∀ w ∈ wsX150, w ∈ wv_m_wrong := fun _ h => List.mem_cons_of_mem _ (List.mem_append_right _ (List.mem_append_left _ h))
set_option maxHeartbeats 4000000 in
set_option maxRecDepth 100000 in
/-- wrong -/
theorem c_m_wrong (l : Launch) (dC : Nat → ClassId) (dI : Nat → Nat → Nat) (h0 : Nat) (qfed : Nat) (qf : Nat) (qfd : Nat) (qs : Nat) (qk : Nat) (fs_h0 : List Value) (hF_h0 : mF 89 [(0, .int 0), (18, .int 0), (19, .int 0), (20, .int (-1)), (21, .int 0), (22, .int 0), (23, .int (-1)), (24, .int 0), (25, .int 0), (27, .int 0), (28, .int 0), (29, .int 0), (35, .int 0), (17, .int (-1)), (26, .ref qfed), (30, .ref qf), (31, .ref qfd), (33, .ref qs), (36, .ref qk)] fs_h0) (sz : Nat) : Met l yX15_wrong wv_m_wrong ({ frames := 0, cells := 0, slots := 0, locals := 0 }) (va_Pc [.ref h0, .int 1, .int 0] (fun U => U.heap.size = sz ∧ va_P (dC, dI) vwCl [(h0, .inr (15, fs_h0))] U.heap ∧ va_K (dC, dI) vwCl [] U ∧ va_D (fun _ => True) [(h0, .inr (15, fs_h0))] ∧ w_N U)) (va_Qv (fun (_ : Unit) => True) (fun _ t => ∃ (fs_h02 : List Value), va_P (dC, dI) vwCl [(h0, .inr (15, fs_h02))] t.heap ∧ va_K (dC, dI) vwCl [] t ∧ va_D (va_A [(h0, .inr (15, fs_h0))] sz) [(h0, .inr (15, fs_h02))] ∧ mF 89 [(0, .int 0), (18, .int 0), (19, .int 0), (20, .int (-1)), (21, .int 0), (22, .int 1), (23, .int 0), (24, .int 0), (25, .int 0), (27, .int 0), (28, .int 0), (29, .int 0), (35, .int 0), (17, .int (-1)), (26, .ref qfed), (30, .ref qf), (31, .ref qfd), (33, .ref qs), (36, .ref qk)] fs_h02) (va_A [(h0, .inr (15, fs_h0))] sz)) 0 0 (va_A [(h0, .inr (15, fs_h0))] sz) := by
  refine Met.ofW (cc := cX15_wrong) (maxL := 3) (ret := none) (by decide) rfl ?_
  intro p e s m args below meth c s₁ B hml hv
  obtain ⟨rfl, hsz, hP, hK, hD0, hN⟩ := hv
  have hx := B.exec
  have hb := B.bytes
  have hr := B.returns
  have hts := atoms_spec (ws := wv_m_wrong) B.pre
  have hown : s.vm.findClass RX15 = some m.cls := findClass_of_methodNamed B.named
  have hlocks := B.notSynchronized
  subst hsz
  have hD := hD0.self (sz := s.heap.size)
  generalize hAe : va_A [(h0, .inr (15, fs_h0))] s.heap.size = A at hD ⊢
  have hA : ∀ q : Nat, s.heap.size ≤ q → A q := fun q h => by rw [← hAe]; exact Or.inr h
  obtain ⟨H, hHe, hP, hS⟩ : ∃ H : Heap, H = s.heap ∧ va_P (dC, dI) vwCl [(h0, .inr (15, fs_h0))] H ∧ va_S A s.heap H [] := ⟨s.heap, rfl, hP, va_S.rf⟩
  have hl := lv_entry ([.ref h0, .int 1, .int 0]) (n := 3) (Nat.le_of_ble_eq_true rfl)
  rw [lg_entry_eq]
  generalize (lg_sl ([.ref h0, .int 1, .int 0]) ++ List.replicate (3 - (lg_sl ([.ref h0, .int 1, .int 0])).length) Slot.unset).toArray = ls at hl ⊢
  have hl : lv_has ls 3 [(0, .ref h0), (1, .int 1), (2, .int 0)] := hl
  rw [← hHe]; clear hHe
  refine lv_aload_n hx hb dX15_wrong_0 rfl (lv_at hl 0 rfl) ?_
  refine va_get (D := (dC, dI)) (ci := 15) (v := .int 0) (C := RX15) (T := TX15) (N := 89) hx hb hts (in_m_wrong_X15) hown hK hP 0 rfl rfl 22 (by decide) (hts (.fieldLink RX15 310 "MotionSignsModel" "fault" "I") (List.mem_of_getElem? (i := 1) rfl)) (fun _ h9 => h9) (mF.get hF_h0 5 rfl) dX15_wrong_1 ?_
  refine lv_if_ne (tgt := 17) hx hb dX15_wrong_4 (by decide) (fun hc => absurd (by decide) hc) (fun _ => ?_)
  refine lv_aload_n hx hb dX15_wrong_7 rfl (lv_at hl 0 rfl) ?_
  refine lv_iload_n hx hb dX15_wrong_8 rfl (lv_at hl 1 rfl) ?_
  refine va_put (D := (dC, dI)) (ci := 15) (v := .int 1) (ty := .int) (C := RX15) (T := TX15) (N := 89) hx hb hts (in_m_wrong_X15) tyX15 tyX15_ok nmX15 hown hK hP hD hS 0 rfl rfl 22 (by decide) (hts (.fieldLink RX15 310 "MotionSignsModel" "fault" "I") (List.mem_of_getElem? (i := 1) rfl)) (fun _ h9 => h9) rfl (tyX15_ok 22 (by decide)) rfl rfl (mF.lt hF_h0 (by decide)) dX15_wrong_9 ?_
  clear hP hD hS; try clear H
  intro H locs hP hD hS
  have hF0 := mF.sub (L' := [(0, .int 0), (18, .int 0), (19, .int 0), (20, .int (-1)), (21, .int 0), (23, .int (-1)), (24, .int 0), (25, .int 0), (27, .int 0), (28, .int 0), (29, .int 0), (35, .int 0), (17, .int (-1)), (26, .ref qfed), (30, .ref qf), (31, .ref qfd), (33, .ref qs), (36, .ref qk)]) hF_h0 [0, 1, 2, 3, 4, 6, 7, 8, 9, 10, 11, 12, 13, 14, 15, 16, 17, 18] rfl
  have hF1 := mF.put hF0 22 (.int 1) (by decide) rfl
  replace hP : va_P (dC, dI) vwCl [(h0, .inr (15, (fs_h0.set 22 (.int 1))))] H := hP
  replace hD : va_D A [(h0, .inr (15, (fs_h0.set 22 (.int 1))))] := hD
  generalize fs_h0.set 22 (.int 1) = fs_1 at hP hD hF1
  replace hF_h0 : mF 89 [(22, .int 1), (0, .int 0), (18, .int 0), (19, .int 0), (20, .int (-1)), (21, .int 0), (23, .int (-1)), (24, .int 0), (25, .int 0), (27, .int 0), (28, .int 0), (29, .int 0), (35, .int 0), (17, .int (-1)), (26, .ref qfed), (30, .ref qf), (31, .ref qfd), (33, .ref qs), (36, .ref qk)] fs_1 := hF1
  clear hF1 hF0
  replace hP : va_P (dC, dI) vwCl [(h0, .inr (15, fs_1))] H := hP
  replace hD : va_D A [(h0, .inr (15, fs_1))] := hD
  refine lv_aload_n hx hb dX15_wrong_12 rfl (lv_at hl 0 rfl) ?_
  refine lv_iload_n hx hb dX15_wrong_13 rfl (lv_at hl 2 rfl) ?_
  refine va_put (D := (dC, dI)) (ci := 15) (v := .int 0) (ty := .int) (C := RX15) (T := TX15) (N := 89) hx hb hts (in_m_wrong_X15) tyX15 tyX15_ok nmX15 hown hK hP hD hS 0 rfl rfl 23 (by decide) (hts (.fieldLink RX15 313 "MotionSignsModel" "faultAt" "I") (List.mem_of_getElem? (i := 2) rfl)) (fun _ h9 => h9) rfl (tyX15_ok 23 (by decide)) rfl rfl (mF.lt hF_h0 (by decide)) dX15_wrong_14 ?_
  clear hP hD hS; try clear H
  intro H locs hP hD hS
  have hF0 := mF.sub (L' := [(22, .int 1), (0, .int 0), (18, .int 0), (19, .int 0), (20, .int (-1)), (21, .int 0), (24, .int 0), (25, .int 0), (27, .int 0), (28, .int 0), (29, .int 0), (35, .int 0), (17, .int (-1)), (26, .ref qfed), (30, .ref qf), (31, .ref qfd), (33, .ref qs), (36, .ref qk)]) hF_h0 [0, 1, 2, 3, 4, 5, 7, 8, 9, 10, 11, 12, 13, 14, 15, 16, 17, 18] rfl
  have hF1 := mF.put hF0 23 (.int 0) (by decide) rfl
  replace hP : va_P (dC, dI) vwCl [(h0, .inr (15, (fs_1.set 23 (.int 0))))] H := hP
  replace hD : va_D A [(h0, .inr (15, (fs_1.set 23 (.int 0))))] := hD
  generalize fs_1.set 23 (.int 0) = fs_2 at hP hD hF1
  replace hF_h0 : mF 89 [(23, .int 0), (22, .int 1), (0, .int 0), (18, .int 0), (19, .int 0), (20, .int (-1)), (21, .int 0), (24, .int 0), (25, .int 0), (27, .int 0), (28, .int 0), (29, .int 0), (35, .int 0), (17, .int (-1)), (26, .ref qfed), (30, .ref qf), (31, .ref qfd), (33, .ref qs), (36, .ref qk)] fs_2 := hF1
  clear hF1 hF0
  replace hP : va_P (dC, dI) vwCl [(h0, .inr (15, fs_2))] H := hP
  replace hD : va_D A [(h0, .inr (15, fs_2))] := hD
  have hP9 := hP.sub (ws' := [(h0, .inr (15, fs_2))]) [0] rfl
  have hD9 := hD.sub (ws' := [(h0, .inr (15, fs_2))]) [0] (by decide) rfl
  have hK9 := hK.sub (tys' := []) [] rfl
  rw [← hAe] at hD9
  refine W.widen (k := 0) (n := 0) (Nat.le_of_ble_eq_true rfl) (Nat.le_of_ble_eq_true rfl) ?_
  subst hAe
  exact (W.vret hx hb hr (fun t ht hW => ⟨⟨(), rfl, trivial, fs_2, by rw [ht]; exact hP9, va_K.moved hW.alike hK9, hD9, (mF.sub hF_h0 [2, 3, 4, 5, 6, 1, 0, 7, 8, 9, 10, 11, 12, 13, 14, 15, 16, 17, 18] rfl)⟩, hS.F ht⟩) hS.2.2 dX15_wrong_17)
def wv_m_ends : List Cond := .code yX15_ends cX15_ends 1 none :: ([.methodLink RX15 316 yX15_blanks, .instanceMethod yX15_blanks, .selects RX15 yX15_blanks yX15_blanks, .initialized RX15, .fieldLink RX15 310 "MotionSignsModel" "fault" "I", .fieldLink RX15 313 "MotionSignsModel" "faultAt" "I", .fieldLink RX15 121 "MotionSignsModel" "place" "I"] ++ (wv_m_blanks ++ (wsX150 ++ ([]))))
theorem gw_m_ends : wv_m_ends.all goodWord = true := by decide +kernel
theorem in_m_ends_X15 : ∀ w ∈ wsX150, w ∈ wv_m_ends := fun _ h => List.mem_cons_of_mem _ (List.mem_append_right _ (List.mem_append_right _ (List.mem_append_left _ h)))
theorem g_m_ends_m_blanks_316 : GoodIn wv_m_ends (wsV RX15 316 RX15 yX15_blanks wv_m_blanks) := goodIn_app (goodIn_of _ (by decide +kernel)) (goodIn_sub (fun _ h => List.mem_cons_of_mem _ (List.mem_append_right _ (List.mem_append_left _ h))) gw_m_blanks)
set_option maxHeartbeats 4000000 in
set_option maxRecDepth 100000 in
/-- ends -/
theorem c_m_ends (l : Launch) (dC : Nat → ClassId) (dI : Nat → Nat → Nat) (h0 : Nat) (qfed : Nat) (qf : Nat) (qfd : Nat) (qs : Nat) (qk : Nat) (fs_h0 : List Value) (hF_h0 : mF 89 [(0, .int 0), (18, .int 0), (19, .int 0), (20, .int (-1)), (21, .int 0), (22, .int 1), (23, .int 0), (24, .int 0), (25, .int (-1)), (27, .int 0), (28, .int 0), (29, .int 0), (35, .int 0), (17, .int (-1)), (26, .ref qfed), (30, .ref qf), (31, .ref qfd), (33, .ref qs), (36, .ref qk)] fs_h0) (sz : Nat) : Met l yX15_ends wv_m_ends ({ frames := 2, cells := 0, slots := 0, locals := 41 }) (va_Pc [.ref h0] (fun U => U.heap.size = sz ∧ va_P (dC, dI) vwCl [(h0, .inr (15, fs_h0))] U.heap ∧ va_K (dC, dI) vwCl [] U ∧ va_D (fun _ => True) [(h0, .inr (15, fs_h0))] ∧ w_N U)) (va_Qv (fun (_ : Unit) => True) (fun _ t => ∃ (fs_h02 : List Value), va_P (dC, dI) vwCl [(h0, .inr (15, fs_h02))] t.heap ∧ va_K (dC, dI) vwCl [] t ∧ va_D (va_A [(h0, .inr (15, fs_h0))] sz) [(h0, .inr (15, fs_h02))] ∧ mF 89 [(0, .int 0), (18, .int 0), (19, .int 0), (20, .int 0), (21, .int 0), (22, .int 1), (23, .int 0), (24, .int 0), (25, .int (-1)), (27, .int 0), (28, .int 0), (29, .int 0), (35, .int 0), (17, .int (-1)), (26, .ref qfed), (30, .ref qf), (31, .ref qfd), (33, .ref qs), (36, .ref qk)] fs_h02) (va_A [(h0, .inr (15, fs_h0))] sz)) 0 0 (va_A [(h0, .inr (15, fs_h0))] sz) := by
  refine Met.ofW (cc := cX15_ends) (maxL := 1) (ret := none) (by decide) rfl ?_
  intro p e s m args below meth c s₁ B hml hv
  obtain ⟨rfl, hsz, hP, hK, hD0, hN⟩ := hv
  have hx := B.exec
  have hb := B.bytes
  have hr := B.returns
  have hts := atoms_spec (ws := wv_m_ends) B.pre
  have hown : s.vm.findClass RX15 = some m.cls := findClass_of_methodNamed B.named
  have hlocks := B.notSynchronized
  subst hsz
  have hD := hD0.self (sz := s.heap.size)
  generalize hAe : va_A [(h0, .inr (15, fs_h0))] s.heap.size = A at hD ⊢
  have hA : ∀ q : Nat, s.heap.size ≤ q → A q := fun q h => by rw [← hAe]; exact Or.inr h
  obtain ⟨H, hHe, hP, hS⟩ : ∃ H : Heap, H = s.heap ∧ va_P (dC, dI) vwCl [(h0, .inr (15, fs_h0))] H ∧ va_S A s.heap H [] := ⟨s.heap, rfl, hP, va_S.rf⟩
  have hl := lv_entry ([.ref h0]) (n := 1) (Nat.le_of_ble_eq_true rfl)
  rw [lg_entry_eq]
  generalize (lg_sl ([.ref h0]) ++ List.replicate (1 - (lg_sl ([.ref h0])).length) Slot.unset).toArray = ls at hl ⊢
  have hl : lv_has ls 1 [(0, .ref h0)] := hl
  rw [← hHe]; clear hHe
  refine lv_aload_n hx hb dX15_ends_0 rfl (lv_at hl 0 rfl) ?_
  have hPc := hP.sub (ws' := [(h0, .inr (15, fs_h0))]) [0] rfl
  have hDc := hD.sub (ws' := [(h0, .inr (15, fs_h0))]) [0] (by decide) rfl
  have hKc := hK.sub (tys' := []) [] rfl
  have hFc := va_free (wc := [(h0, .inr (15, fs_h0))]) hD hS hA [0] rfl
  refine va_callv (va_runV (As := []) (rest := []) ⟨hx, hb, hml, hown, hts⟩ (c_m_blanks l dC dI h0 fs_h0 (mF.sub hF_h0 [2, 4] rfl) H.size) (cwV 0 hts g_m_ends_m_blanks_316 rfl rfl rfl hv_X15_blanks ⟨Nat.le_of_ble_eq_true rfl, Nat.le_of_ble_eq_true rfl⟩) ⟨fun a U g mk q => by obtain ⟨q0, q1, qP, qK, qD, qE0⟩ := q; exact ⟨q0, q1, qP, va_K.moved (u := U) (U := U.calling g mk a) (Vm.Alike.refl U.vm) qK, qD, w_N.same rfl qE0⟩, va_recv hKc hPc (ci := 15) (q0 := 0) rfl rfl, fun U hU hW => ⟨rfl, by rw [hU], by rw [hU]; exact hPc, va_K.moved hW.alike hKc, hDc.weaken (fun _ _ _ _ => trivial), w_N.warm hW hN⟩⟩ rfl rfl hl.1 rfl (lv_room (Nat.le_of_ble_eq_true rfl)) dX15_ends_1 ⟨(Nat.le_of_ble_eq_true rfl), (Nat.le_of_ble_eq_true rfl)⟩) hS (fun q _ h => hFc q h) hFc (fun u t H1 locs1 ht hvm hw hB hz1 hk1 hS1 => ?_)
  obtain ⟨hP1, hK1, hD1⟩ := hB
  rw [ht] at hP1
  have hK1 := va_K.moved hvm.symm hK1
  have hJ := va_join (wr := []) (w1 := [(h0, .inr (15, fs_h0))]) hP hD [0] [] rfl rfl (by decide) (by decide) hk1 hFc hP1 hD1
  clear hP hD hPc hDc hKc hFc hz1; try clear hk1
  obtain ⟨hP, hD⟩ := hJ
  replace hK := (hK.sub (tys' := []) [] rfl).app (hK1.sub (tys' := []) [] rfl)
  clear hP1 hK1 hD1 hvm ht hS; try clear t
  try clear H
  revert hS1
  intro hS
  generalize H1 = H at hP hS ⊢; try clear H1
  replace hP : va_P (dC, dI) vwCl [(h0, .inr (15, fs_h0))] H := hP
  replace hD : va_D A [(h0, .inr (15, fs_h0))] := hD
  replace hK : va_K (dC, dI) vwCl [] s := hK
  have hw_1 : True := hw; clear hw
  refine lv_aload_n hx hb dX15_ends_4 rfl (lv_at hl 0 rfl) ?_
  refine va_get (D := (dC, dI)) (ci := 15) (v := .int 1) (C := RX15) (T := TX15) (N := 89) hx hb hts (in_m_ends_X15) hown hK hP 0 rfl rfl 22 (by decide) (hts (.fieldLink RX15 310 "MotionSignsModel" "fault" "I") (List.mem_of_getElem? (i := 5) rfl)) (fun _ h9 => h9) (mF.get hF_h0 5 rfl) dX15_ends_5 ?_
  refine lv_if_ne (tgt := 31) hx hb dX15_ends_8 (by decide) (fun _ => ?_) (fun hc => absurd hc (by decide))
  refine lv_aload_n hx hb dX15_ends_31 rfl (lv_at hl 0 rfl) ?_
  refine lv_aload_n hx hb dX15_ends_32 rfl (lv_at hl 0 rfl) ?_
  refine va_get (D := (dC, dI)) (ci := 15) (v := .int 0) (C := RX15) (T := TX15) (N := 89) hx hb hts (in_m_ends_X15) hown hK hP 0 rfl rfl 23 (by decide) (hts (.fieldLink RX15 313 "MotionSignsModel" "faultAt" "I") (List.mem_of_getElem? (i := 6) rfl)) (fun _ h9 => h9) (mF.get hF_h0 6 rfl) dX15_ends_33 ?_
  refine va_put (D := (dC, dI)) (ci := 15) (v := .int 0) (ty := .int) (C := RX15) (T := TX15) (N := 89) hx hb hts (in_m_ends_X15) tyX15 tyX15_ok nmX15 hown hK hP hD hS 0 rfl rfl 20 (by decide) (hts (.fieldLink RX15 121 "MotionSignsModel" "place" "I") (List.mem_of_getElem? (i := 7) rfl)) (fun _ h9 => h9) rfl (tyX15_ok 20 (by decide)) rfl rfl (mF.lt hF_h0 (by decide)) dX15_ends_36 ?_
  clear hP hD hS; try clear H
  intro H locs hP hD hS
  have hF0 := mF.sub (L' := [(0, .int 0), (18, .int 0), (19, .int 0), (21, .int 0), (22, .int 1), (23, .int 0), (24, .int 0), (25, .int (-1)), (27, .int 0), (28, .int 0), (29, .int 0), (35, .int 0), (17, .int (-1)), (26, .ref qfed), (30, .ref qf), (31, .ref qfd), (33, .ref qs), (36, .ref qk)]) hF_h0 [0, 1, 2, 4, 5, 6, 7, 8, 9, 10, 11, 12, 13, 14, 15, 16, 17, 18] rfl
  have hF1 := mF.put hF0 20 (.int 0) (by decide) rfl
  replace hP : va_P (dC, dI) vwCl [(h0, .inr (15, (fs_h0.set 20 (.int 0))))] H := hP
  replace hD : va_D A [(h0, .inr (15, (fs_h0.set 20 (.int 0))))] := hD
  generalize fs_h0.set 20 (.int 0) = fs_2 at hP hD hF1
  replace hF_h0 : mF 89 [(20, .int 0), (0, .int 0), (18, .int 0), (19, .int 0), (21, .int 0), (22, .int 1), (23, .int 0), (24, .int 0), (25, .int (-1)), (27, .int 0), (28, .int 0), (29, .int 0), (35, .int 0), (17, .int (-1)), (26, .ref qfed), (30, .ref qf), (31, .ref qfd), (33, .ref qs), (36, .ref qk)] fs_2 := hF1
  clear hF1 hF0
  replace hP : va_P (dC, dI) vwCl [(h0, .inr (15, fs_2))] H := hP
  replace hD : va_D A [(h0, .inr (15, fs_2))] := hD
  have hP9 := hP.sub (ws' := [(h0, .inr (15, fs_2))]) [0] rfl
  have hD9 := hD.sub (ws' := [(h0, .inr (15, fs_2))]) [0] (by decide) rfl
  have hK9 := hK.sub (tys' := []) [] rfl
  rw [← hAe] at hD9
  refine W.widen (k := 0) (n := 0) (Nat.le_of_ble_eq_true rfl) (Nat.le_of_ble_eq_true rfl) ?_
  subst hAe
  exact (W.vret hx hb hr (fun t ht hW => ⟨⟨(), rfl, trivial, fs_2, by rw [ht]; exact hP9, va_K.moved hW.alike hK9, hD9, (mF.sub hF_h0 [1, 2, 3, 0, 4, 5, 6, 7, 8, 9, 10, 11, 12, 13, 14, 15, 16, 17, 18] rfl)⟩, hS.F ht⟩) hS.2.2 dX15_ends_39)
def wv_m_equation : List Cond := .code yX15_equation cX15_equation 4 (some .int) :: ([.fieldLink RX15 296 "MotionSignsModel" "thrown" "I", .fieldLink RX15 299 "MotionSignsModel" "tape" "I", .methodLink RX15 420 yX15_in, .static yX15_in, .initialized RX15, .methodLink RX15 424 yX15_bad, .instanceMethod yX15_bad, .selects RX15 yX15_bad yX15_bad, .methodLink RX15 428 yX15_starts, .instanceMethod yX15_starts, .selects RX15 yX15_starts yX15_starts, .methodLink RX15 337 yX15_wordHere, .instanceMethod yX15_wordHere, .selects RX15 yX15_wordHere yX15_wordHere, .constant RX15 431 (127274), .constant RX15 432 (2021387), .fieldLink RX15 433 "MotionSignsModel" "readKind" "I", .fieldLink RX15 303 "MotionSignsModel" "at" "I", .methodLink RX15 323 yX15_wrong, .instanceMethod yX15_wrong, .selects RX15 yX15_wrong yX15_wrong, .fieldLink RX15 341 "MotionSignsModel" "mode" "I", .fieldLink RX15 310 "MotionSignsModel" "fault" "I", .methodLink RX15 440 yX15_ends, .instanceMethod yX15_ends, .selects RX15 yX15_ends yX15_ends] ++ (wsX150 ++ (wv_m_in ++ (wv_m_bad0 ++ (wv_m_starts ++ (wv_m_wordHere ++ (wv_m_wrong ++ (wv_m_ends ++ (wv_m_bad1 ++ ([]))))))))))
theorem gw_m_equation : wv_m_equation.all goodWord = true := by decide +kernel
theorem in_m_equation_X15 : ∀ w ∈ wsX150, w ∈ wv_m_equation := fun _ h => List.mem_cons_of_mem _ (List.mem_append_right _ (List.mem_append_left _ h))
theorem g_m_equation_m_in_420 : GoodIn wv_m_equation (va_wsS RX15 420 yX15_in wv_m_in) := goodIn_app (goodIn_of _ (by decide +kernel)) (goodIn_sub (fun _ h => List.mem_cons_of_mem _ (List.mem_append_right _ (List.mem_append_right _ (List.mem_append_left _ h)))) gw_m_in)
theorem g_m_equation_m_bad0_424 : GoodIn wv_m_equation (wsV RX15 424 RX15 yX15_bad wv_m_bad0) := goodIn_app (goodIn_of _ (by decide +kernel)) (goodIn_sub (fun _ h => List.mem_cons_of_mem _ (List.mem_append_right _ (List.mem_append_right _ (List.mem_append_right _ (List.mem_append_left _ h))))) gw_m_bad0)
theorem g_m_equation_m_starts_428 : GoodIn wv_m_equation (wsV RX15 428 RX15 yX15_starts wv_m_starts) := goodIn_app (goodIn_of _ (by decide +kernel)) (goodIn_sub (fun _ h => List.mem_cons_of_mem _ (List.mem_append_right _ (List.mem_append_right _ (List.mem_append_right _ (List.mem_append_right _ (List.mem_append_left _ h)))))) gw_m_starts)
theorem g_m_equation_m_wordHere_337 : GoodIn wv_m_equation (wsV RX15 337 RX15 yX15_wordHere wv_m_wordHere) := goodIn_app (goodIn_of _ (by decide +kernel)) (goodIn_sub (fun _ h => List.mem_cons_of_mem _ (List.mem_append_right _ (List.mem_append_right _ (List.mem_append_right _ (List.mem_append_right _ (List.mem_append_right _ (List.mem_append_left _ h))))))) gw_m_wordHere)
theorem g_m_equation_m_wrong_323 : GoodIn wv_m_equation (wsV RX15 323 RX15 yX15_wrong wv_m_wrong) := goodIn_app (goodIn_of _ (by decide +kernel)) (goodIn_sub (fun _ h => List.mem_cons_of_mem _ (List.mem_append_right _ (List.mem_append_right _ (List.mem_append_right _ (List.mem_append_right _ (List.mem_append_right _ (List.mem_append_right _ (List.mem_append_left _ h)))))))) gw_m_wrong)
theorem g_m_equation_m_ends_440 : GoodIn wv_m_equation (wsV RX15 440 RX15 yX15_ends wv_m_ends) := goodIn_app (goodIn_of _ (by decide +kernel)) (goodIn_sub (fun _ h => List.mem_cons_of_mem _ (List.mem_append_right _ (List.mem_append_right _ (List.mem_append_right _ (List.mem_append_right _ (List.mem_append_right _ (List.mem_append_right _ (List.mem_append_right _ (List.mem_append_left _ h))))))))) gw_m_ends)
theorem g_m_equation_m_bad1_424 : GoodIn wv_m_equation (wsV RX15 424 RX15 yX15_bad wv_m_bad1) := goodIn_app (goodIn_of _ (by decide +kernel)) (goodIn_sub (fun _ h => List.mem_cons_of_mem _ (List.mem_append_right _ (List.mem_append_right _ (List.mem_append_right _ (List.mem_append_right _ (List.mem_append_right _ (List.mem_append_right _ (List.mem_append_right _ (List.mem_append_right _ (List.mem_append_left _ h)))))))))) gw_m_bad1)
set_option maxHeartbeats 4000000 in
set_option maxRecDepth 100000 in
/-- the reference: equation on a fresh object -/
theorem c_m_equation (l : Launch) (dC : Nat → ClassId) (dI : Nat → Nat → Nat) (h0 : Nat) (qfed : Nat) (qf : Nat) (qfd : Nat) (qs : Nat) (qk : Nat) (x0 : Int32) (fs_h0 : List Value) (hF_h0 : mF 89 [(0, .int 0), (18, .int 0), (19, .int 0), (20, .int (-1)), (21, .int 0), (22, .int 0), (23, .int 0), (24, .int 0), (25, .int 0), (27, .int 0), (28, .int 0), (29, .int 0), (35, .int 0), (17, .int (-1)), (26, .ref qfed), (30, .ref qf), (31, .ref qfd), (33, .ref qs), (36, .ref qk)] fs_h0) (sz : Nat) : Met l yX15_equation wv_m_equation ({ frames := 3, cells := 0, slots := 0, locals := 63 }) (va_Pc [.ref h0, .int x0] (fun U => U.heap.size = sz ∧ va_P (dC, dI) vwCl [(h0, .inr (15, fs_h0))] U.heap ∧ va_K (dC, dI) vwCl [] U ∧ va_D (fun _ => True) [(h0, .inr (15, fs_h0))] ∧ w_N U)) (va_Qi (fun (r : Int32) (th : Int32) => (th = 0 ∧ r = (-9) ∧ kIn x0 0 0) ∨ (th = 1 ∧ ¬ kIn x0 0 0)) (fun th t => ∃ (fs_e : List Value), va_P (dC, dI) vwCl [(h0, .inr (15, fs_e))] t.heap ∧ va_K (dC, dI) vwCl [] t ∧ va_D (va_A [(h0, .inr (15, fs_h0))] sz) [(h0, .inr (15, fs_e))] ∧ mF 89 [(0, .int th)] fs_e) (va_A [(h0, .inr (15, fs_h0))] sz)) 0 0 (va_A [(h0, .inr (15, fs_h0))] sz) := by
  refine Met.ofW (cc := cX15_equation) (maxL := 4) (ret := (some .int)) (by decide) rfl ?_
  intro p e s m args below meth c s₁ B hml hv
  obtain ⟨rfl, hsz, hP, hK, hD0, hN⟩ := hv
  have hx := B.exec
  have hb := B.bytes
  have hr := B.returns
  have hts := atoms_spec (ws := wv_m_equation) B.pre
  have hown : s.vm.findClass RX15 = some m.cls := findClass_of_methodNamed B.named
  have hlocks := B.notSynchronized
  subst hsz
  have hD := hD0.self (sz := s.heap.size)
  generalize hAe : va_A [(h0, .inr (15, fs_h0))] s.heap.size = A at hD ⊢
  have hA : ∀ q : Nat, s.heap.size ≤ q → A q := fun q h => by rw [← hAe]; exact Or.inr h
  obtain ⟨H, hHe, hP, hS⟩ : ∃ H : Heap, H = s.heap ∧ va_P (dC, dI) vwCl [(h0, .inr (15, fs_h0))] H ∧ va_S A s.heap H [] := ⟨s.heap, rfl, hP, va_S.rf⟩
  have hl := lv_entry ([.ref h0, .int x0]) (n := 4) (Nat.le_of_ble_eq_true rfl)
  rw [lg_entry_eq]
  generalize (lg_sl ([.ref h0, .int x0]) ++ List.replicate (4 - (lg_sl ([.ref h0, .int x0])).length) Slot.unset).toArray = ls at hl ⊢
  have hl : lv_has ls 4 [(0, .ref h0), (1, .int x0)] := hl
  rw [← hHe]; clear hHe
  refine lv_aload_n hx hb dX15_equation_0 rfl (lv_at hl 0 rfl) ?_
  refine lv_iconst (v := 0) hx hb dX15_equation_1 (by decide) ?_
  refine va_put (D := (dC, dI)) (ci := 15) (v := .int 0) (ty := .int) (C := RX15) (T := TX15) (N := 89) hx hb hts (in_m_equation_X15) tyX15 tyX15_ok nmX15 hown hK hP hD hS 0 rfl rfl 0 (by decide) (hts (.fieldLink RX15 296 "MotionSignsModel" "thrown" "I") (List.mem_of_getElem? (i := 1) rfl)) (fun _ h9 => h9) rfl (tyX15_ok 0 (by decide)) rfl rfl (mF.lt hF_h0 (by decide)) dX15_equation_2 ?_
  clear hP hD hS; try clear H
  intro H locs hP hD hS
  have hF0 := mF.sub (L' := [(18, .int 0), (19, .int 0), (20, .int (-1)), (21, .int 0), (22, .int 0), (23, .int 0), (24, .int 0), (25, .int 0), (27, .int 0), (28, .int 0), (29, .int 0), (35, .int 0), (17, .int (-1)), (26, .ref qfed), (30, .ref qf), (31, .ref qfd), (33, .ref qs), (36, .ref qk)]) hF_h0 [1, 2, 3, 4, 5, 6, 7, 8, 9, 10, 11, 12, 13, 14, 15, 16, 17, 18] rfl
  have hF1 := mF.put hF0 0 (.int 0) (by decide) rfl
  replace hP : va_P (dC, dI) vwCl [(h0, .inr (15, (fs_h0.set 0 (.int 0))))] H := hP
  replace hD : va_D A [(h0, .inr (15, (fs_h0.set 0 (.int 0))))] := hD
  generalize fs_h0.set 0 (.int 0) = fs_1 at hP hD hF1
  replace hF_h0 : mF 89 [(0, .int 0), (18, .int 0), (19, .int 0), (20, .int (-1)), (21, .int 0), (22, .int 0), (23, .int 0), (24, .int 0), (25, .int 0), (27, .int 0), (28, .int 0), (29, .int 0), (35, .int 0), (17, .int (-1)), (26, .ref qfed), (30, .ref qf), (31, .ref qfd), (33, .ref qs), (36, .ref qk)] fs_1 := hF1
  clear hF1 hF0
  replace hP : va_P (dC, dI) vwCl [(h0, .inr (15, fs_1))] H := hP
  replace hD : va_D A [(h0, .inr (15, fs_1))] := hD
  refine lv_aload_n hx hb dX15_equation_5 rfl (lv_at hl 0 rfl) ?_
  refine lv_iload_n hx hb dX15_equation_6 rfl (lv_at hl 1 rfl) ?_
  refine lv_iconst (v := 0) hx hb dX15_equation_7 (by decide) ?_
  refine lv_aload_n hx hb dX15_equation_8 rfl (lv_at hl 0 rfl) ?_
  refine va_get (D := (dC, dI)) (ci := 15) (v := .int 0) (C := RX15) (T := TX15) (N := 89) hx hb hts (in_m_equation_X15) hown hK hP 0 rfl rfl 18 (by decide) (hts (.fieldLink RX15 299 "MotionSignsModel" "tape" "I") (List.mem_of_getElem? (i := 2) rfl)) (fun _ h9 => h9) (mF.get hF_h0 1 rfl) dX15_equation_9 ?_
  have hPc := hP.sub (ws' := []) [] rfl
  have hDc := hD.sub (ws' := []) [] (by decide) rfl
  have hKc := hK.sub (tys' := []) [] rfl
  have hFc := va_free (wc := []) hD hS hA [] rfl
  refine va_calli (va_runS (As := [.int x0, .int 0, .int 0]) (rest := [.ref h0]) ⟨hx, hb, hml, hown, hts⟩ (c_m_in l dC dI x0 0 0 H.size) (va_cwS 3 hts g_m_equation_m_in_420 rfl rfl rfl hd_X15_in ⟨Nat.le_of_ble_eq_true rfl, Nat.le_of_ble_eq_true rfl⟩) ⟨fun a U g mk q => by obtain ⟨q0, q1, qP, qK, qD, qE0⟩ := q; exact ⟨q0, q1, qP, va_K.moved (u := U) (U := U.calling g mk a) (Vm.Alike.refl U.vm) qK, qD, w_N.same rfl qE0⟩, fun U hU hW => ⟨rfl, by rw [hU], by rw [hU]; exact hPc, va_K.moved hW.alike hKc, hDc.weaken (fun _ _ _ _ => trivial), w_N.warm hW hN⟩⟩ rfl rfl hl.1 rfl (lv_room (Nat.le_of_ble_eq_true rfl)) dX15_equation_12 ⟨(Nat.le_of_ble_eq_true rfl), (Nat.le_of_ble_eq_true rfl)⟩) hS (fun q _ h => hFc q h) hFc (fun r_2 u t H1 locs1 ht hvm hw hB hz1 hk1 hS1 => ?_)
  obtain ⟨hP1, hK1, hD1⟩ := hB
  rw [ht] at hP1
  have hK1 := va_K.moved hvm.symm hK1
  have hJ := va_join (wr := [(h0, .inr (15, fs_1))]) (w1 := []) hP hD [] [0] rfl rfl (by decide) (by decide) hk1 hFc hP1 hD1
  clear hP hD hPc hDc hKc hFc hz1; try clear hk1
  obtain ⟨hP, hD⟩ := hJ
  replace hK := (hK.sub (tys' := []) [] rfl).app (hK1.sub (tys' := []) [] rfl)
  clear hP1 hK1 hD1 hvm ht hS; try clear t
  try clear H
  revert hS1
  intro hS
  generalize H1 = H at hP hS ⊢; try clear H1
  replace hP : va_P (dC, dI) vwCl [(h0, .inr (15, fs_1))] H := hP
  replace hD : va_D A [(h0, .inr (15, fs_1))] := hD
  replace hK : va_K (dC, dI) vwCl [] s := hK
  have hw_3 : (r_2 = 1 ∧ kIn x0 0 0) ∨ (r_2 = 0 ∧ ¬ kIn x0 0 0) := hw; clear hw
  rcases hw_3 with ⟨ehw_3, hw_3⟩ | ⟨ehw_3, hw_3⟩
  · skip
    subst ehw_3
    obtain rfl : x0 = 0 := kIn_0 hw_3
    have hl : lv_has ls 4 [(0, .ref h0), (1, .int 0)] := hl
    refine lv_if_ne (tgt := 22) hx hb dX15_equation_15 (by decide) (fun _ => ?_) (fun hc => absurd hc (by decide))
    refine lv_iconst (v := 0) hx hb dX15_equation_22 (by decide) ?_
    refine lv_iconst (v := 1) hx hb dX15_equation_23 (by decide) ?_
    have hPc := hP.sub (ws' := [(h0, .inr (15, fs_1))]) [0] rfl
    have hDc := hD.sub (ws' := [(h0, .inr (15, fs_1))]) [0] (by decide) rfl
    have hKc := hK.sub (tys' := []) [] rfl
    have hFc := va_free (wc := [(h0, .inr (15, fs_1))]) hD hS hA [0] rfl
    refine va_calli (va_runV (As := [.int 0, .int 1]) (rest := []) ⟨hx, hb, hml, hown, hts⟩ (c_m_bad0 l dC dI h0 1 fs_1 (mF.sub hF_h0 [0] rfl) H.size) (cwV 2 hts g_m_equation_m_bad0_424 rfl rfl rfl hv_X15_bad ⟨Nat.le_of_ble_eq_true rfl, Nat.le_of_ble_eq_true rfl⟩) ⟨fun a U g mk q => by obtain ⟨q0, q1, qP, qK, qD, qE0⟩ := q; exact ⟨q0, q1, qP, va_K.moved (u := U) (U := U.calling g mk a) (Vm.Alike.refl U.vm) qK, qD, w_N.same rfl qE0⟩, va_recv hKc hPc (ci := 15) (q0 := 0) rfl rfl, fun U hU hW => ⟨rfl, by rw [hU], by rw [hU]; exact hPc, va_K.moved hW.alike hKc, hDc.weaken (fun _ _ _ _ => trivial), w_N.warm hW hN⟩⟩ rfl rfl hl.1 rfl (lv_room (Nat.le_of_ble_eq_true rfl)) dX15_equation_24 ⟨(Nat.le_of_ble_eq_true rfl), (Nat.le_of_ble_eq_true rfl)⟩) hS (fun q _ h => hFc q h) hFc (fun r_4 u t H1 locs1 ht hvm hw hB hz1 hk1 hS1 => ?_)
    obtain ⟨hP1, hK1, hD1⟩ := hB
    rw [ht] at hP1
    have hK1 := va_K.moved hvm.symm hK1
    have hJ := va_join (wr := []) (w1 := [(h0, .inr (15, fs_1))]) hP hD [0] [] rfl rfl (by decide) (by decide) hk1 hFc hP1 hD1
    clear hP hD hPc hDc hKc hFc hz1; try clear hk1
    obtain ⟨hP, hD⟩ := hJ
    replace hK := (hK.sub (tys' := []) [] rfl).app (hK1.sub (tys' := []) [] rfl)
    clear hP1 hK1 hD1 hvm ht hS; try clear t
    try clear H
    revert hS1
    intro hS
    generalize H1 = H at hP hS ⊢; try clear H1
    replace hP : va_P (dC, dI) vwCl [(h0, .inr (15, fs_1))] H := hP
    replace hD : va_D A [(h0, .inr (15, fs_1))] := hD
    replace hK : va_K (dC, dI) vwCl [] s := hK
    have hw_5 : r_4 = 0 := hw; clear hw
    subst hw_5
    refine lv_if_eq (tgt := 32) hx hb dX15_equation_27 (by decide) (fun _ => ?_) (fun hc => absurd (by decide) hc)
    refine lv_aload_n hx hb dX15_equation_32 rfl (lv_at hl 0 rfl) ?_
    refine lv_iload_n hx hb dX15_equation_33 rfl (lv_at hl 1 rfl) ?_
    have hPc := hP.sub (ws' := [(h0, .inr (15, fs_1))]) [0] rfl
    have hDc := hD.sub (ws' := [(h0, .inr (15, fs_1))]) [0] (by decide) rfl
    have hKc := hK.sub (tys' := []) [] rfl
    have hFc := va_free (wc := [(h0, .inr (15, fs_1))]) hD hS hA [0] rfl
    refine va_callv (va_runV (As := [.int 0]) (rest := []) ⟨hx, hb, hml, hown, hts⟩ (c_m_starts l dC dI h0 qfed qf qfd qs qk fs_1 (mF.sub hF_h0 [0, 1, 2, 3, 4, 5, 6, 7, 8, 9, 10, 11, 12, 13, 14, 15, 16, 17, 18] rfl) H.size) (cwV 1 hts g_m_equation_m_starts_428 rfl rfl rfl hv_X15_starts ⟨Nat.le_of_ble_eq_true rfl, Nat.le_of_ble_eq_true rfl⟩) ⟨fun a U g mk q => by obtain ⟨q0, q1, qP, qK, qD, qE0⟩ := q; exact ⟨q0, q1, qP, va_K.moved (u := U) (U := U.calling g mk a) (Vm.Alike.refl U.vm) qK, qD, w_N.same rfl qE0⟩, va_recv hKc hPc (ci := 15) (q0 := 0) rfl rfl, fun U hU hW => ⟨rfl, by rw [hU], by rw [hU]; exact hPc, va_K.moved hW.alike hKc, hDc.weaken (fun _ _ _ _ => trivial), w_N.warm hW hN⟩⟩ rfl rfl hl.1 rfl (lv_room (Nat.le_of_ble_eq_true rfl)) dX15_equation_34 ⟨(Nat.le_of_ble_eq_true rfl), (Nat.le_of_ble_eq_true rfl)⟩) hS (fun q _ h => hFc q h) hFc (fun u t H1 locs1 ht hvm hw hB hz1 hk1 hS1 => ?_)
    obtain ⟨fs_6, hP1, hK1, hD1, hp_7⟩ := hB
    rw [ht] at hP1
    have hK1 := va_K.moved hvm.symm hK1
    have hJ := va_join (wr := []) (w1 := [(h0, .inr (15, fs_6))]) hP hD [0] [] rfl rfl (by decide) (by decide) hk1 hFc hP1 hD1
    clear hP hD hPc hDc hKc hFc hz1; try clear hk1
    obtain ⟨hP, hD⟩ := hJ
    replace hK := (hK.sub (tys' := []) [] rfl).app (hK1.sub (tys' := []) [] rfl)
    clear hP1 hK1 hD1 hvm ht hS; try clear t
    try clear H
    revert hS1
    intro hS
    generalize H1 = H at hP hS ⊢; try clear H1
    replace hP : va_P (dC, dI) vwCl [(h0, .inr (15, fs_6))] H := hP
    replace hD : va_D A [(h0, .inr (15, fs_6))] := hD
    replace hK : va_K (dC, dI) vwCl [] s := hK
    have hw_8 : True := hw; clear hw
    refine lv_aload_n hx hb dX15_equation_37 rfl (lv_at hl 0 rfl) ?_
    have hPc := hP.sub (ws' := [(h0, .inr (15, fs_6))]) [0] rfl
    have hDc := hD.sub (ws' := [(h0, .inr (15, fs_6))]) [0] (by decide) rfl
    have hKc := hK.sub (tys' := []) [] rfl
    have hFc := va_free (wc := [(h0, .inr (15, fs_6))]) hD hS hA [0] rfl
    refine va_calli (va_runV (As := []) (rest := []) ⟨hx, hb, hml, hown, hts⟩ (c_m_wordHere l dC dI h0 fs_6 (mF.sub hp_7 [2, 4] rfl) H.size) (cwV 0 hts g_m_equation_m_wordHere_337 rfl rfl rfl hv_X15_wordHere ⟨Nat.le_of_ble_eq_true rfl, Nat.le_of_ble_eq_true rfl⟩) ⟨fun a U g mk q => by obtain ⟨q0, q1, qP, qK, qD, qE0⟩ := q; exact ⟨q0, q1, qP, va_K.moved (u := U) (U := U.calling g mk a) (Vm.Alike.refl U.vm) qK, qD, w_N.same rfl qE0⟩, va_recv hKc hPc (ci := 15) (q0 := 0) rfl rfl, fun U hU hW => ⟨rfl, by rw [hU], by rw [hU]; exact hPc, va_K.moved hW.alike hKc, hDc.weaken (fun _ _ _ _ => trivial), w_N.warm hW hN⟩⟩ rfl rfl hl.1 rfl (lv_room (Nat.le_of_ble_eq_true rfl)) dX15_equation_38 ⟨(Nat.le_of_ble_eq_true rfl), (Nat.le_of_ble_eq_true rfl)⟩) hS (fun q _ h => hFc q h) hFc (fun r_9 u t H1 locs1 ht hvm hw hB hz1 hk1 hS1 => ?_)
    obtain ⟨hP1, hK1, hD1⟩ := hB
    rw [ht] at hP1
    have hK1 := va_K.moved hvm.symm hK1
    have hJ := va_join (wr := []) (w1 := [(h0, .inr (15, fs_6))]) hP hD [0] [] rfl rfl (by decide) (by decide) hk1 hFc hP1 hD1
    clear hP hD hPc hDc hKc hFc hz1; try clear hk1
    obtain ⟨hP, hD⟩ := hJ
    replace hK := (hK.sub (tys' := []) [] rfl).app (hK1.sub (tys' := []) [] rfl)
    clear hP1 hK1 hD1 hvm ht hS; try clear t
    try clear H
    revert hS1
    intro hS
    generalize H1 = H at hP hS ⊢; try clear H1
    replace hP : va_P (dC, dI) vwCl [(h0, .inr (15, fs_6))] H := hP
    replace hD : va_D A [(h0, .inr (15, fs_6))] := hD
    replace hK : va_K (dC, dI) vwCl [] s := hK
    have hw_10 : r_9 = 0 := hw; clear hw
    subst hw_10
    refine lv_istore_n (lv' := [(2, .int 0), (0, .ref h0), (1, .int 0)]) hx hb dX15_equation_41 rfl hl (by decide) rfl (fun ls hl => ?_)
    refine lv_aload_n hx hb dX15_equation_42 rfl (lv_at hl 1 rfl) ?_
    refine lv_iload_n hx hb dX15_equation_43 rfl (lv_at hl 0 rfl) ?_
    refine lv_ldcw (v := 127274) hx hb hown (hts (.constant RX15 431 (127274)) (List.mem_of_getElem? (i := 15) rfl)) dX15_equation_44 ?_
    refine lv_icmp_ne (tgt := 54) hx hb dX15_equation_47 (by decide) (fun _ => ?_) (fun hc => absurd hc (by decide))
    refine lv_iload_n hx hb dX15_equation_54 rfl (lv_at hl 0 rfl) ?_
    refine lv_ldcw (v := 2021387) hx hb hown (hts (.constant RX15 432 (2021387)) (List.mem_of_getElem? (i := 16) rfl)) dX15_equation_55 ?_
    refine lv_icmp_ne (tgt := 65) hx hb dX15_equation_58 (by decide) (fun _ => ?_) (fun hc => absurd hc (by decide))
    refine lv_iconst (v := 0) hx hb dX15_equation_65 (by decide) ?_
    refine va_put (D := (dC, dI)) (ci := 15) (v := .int 0) (ty := .int) (C := RX15) (T := TX15) (N := 89) hx hb hts (in_m_equation_X15) tyX15 tyX15_ok nmX15 hown hK hP hD hS 0 rfl rfl 29 (by decide) (hts (.fieldLink RX15 433 "MotionSignsModel" "readKind" "I") (List.mem_of_getElem? (i := 17) rfl)) (fun _ h9 => h9) rfl (tyX15_ok 29 (by decide)) rfl rfl (mF.lt hp_7 (by decide)) dX15_equation_66 ?_
    clear hP hD hS; try clear H
    intro H locs hP hD hS
    have hF0 := mF.sub (L' := [(0, .int 0), (18, .int 0), (19, .int 0), (20, .int (-1)), (21, .int 0), (22, .int 0), (23, .int (-1)), (24, .int 0), (25, .int 0), (27, .int 0), (28, .int 0), (35, .int 0), (17, .int (-1)), (26, .ref qfed), (30, .ref qf), (31, .ref qfd), (33, .ref qs), (36, .ref qk)]) hp_7 [0, 1, 2, 3, 4, 5, 6, 7, 8, 9, 10, 12, 13, 14, 15, 16, 17, 18] rfl
    have hF1 := mF.put hF0 29 (.int 0) (by decide) rfl
    replace hP : va_P (dC, dI) vwCl [(h0, .inr (15, (fs_6.set 29 (.int 0))))] H := hP
    replace hD : va_D A [(h0, .inr (15, (fs_6.set 29 (.int 0))))] := hD
    generalize fs_6.set 29 (.int 0) = fs_11 at hP hD hF1
    replace hp_7 : mF 89 [(29, .int 0), (0, .int 0), (18, .int 0), (19, .int 0), (20, .int (-1)), (21, .int 0), (22, .int 0), (23, .int (-1)), (24, .int 0), (25, .int 0), (27, .int 0), (28, .int 0), (35, .int 0), (17, .int (-1)), (26, .ref qfed), (30, .ref qf), (31, .ref qfd), (33, .ref qs), (36, .ref qk)] fs_11 := hF1
    clear hF1 hF0
    replace hP : va_P (dC, dI) vwCl [(h0, .inr (15, fs_11))] H := hP
    replace hD : va_D A [(h0, .inr (15, fs_11))] := hD
    refine lv_aload_n hx hb dX15_equation_69 rfl (lv_at hl 1 rfl) ?_
    refine va_get (D := (dC, dI)) (ci := 15) (v := .int 0) (C := RX15) (T := TX15) (N := 89) hx hb hts (in_m_equation_X15) hown hK hP 0 rfl rfl 29 (by decide) (hts (.fieldLink RX15 433 "MotionSignsModel" "readKind" "I") (List.mem_of_getElem? (i := 17) rfl)) (fun _ h9 => h9) (mF.get hp_7 0 rfl) dX15_equation_70 ?_
    refine lv_if_ne (tgt := 85) hx hb dX15_equation_73 (by decide) (fun hc => absurd (by decide) hc) (fun _ => ?_)
    refine lv_aload_n hx hb dX15_equation_76 rfl (lv_at hl 1 rfl) ?_
    refine lv_iconst (v := 1) hx hb dX15_equation_77 (by decide) ?_
    refine lv_aload_n hx hb dX15_equation_78 rfl (lv_at hl 1 rfl) ?_
    refine va_get (D := (dC, dI)) (ci := 15) (v := .int 0) (C := RX15) (T := TX15) (N := 89) hx hb hts (in_m_equation_X15) hown hK hP 0 rfl rfl 21 (by decide) (hts (.fieldLink RX15 303 "MotionSignsModel" "at" "I") (List.mem_of_getElem? (i := 18) rfl)) (fun _ h9 => h9) (mF.get hp_7 5 rfl) dX15_equation_79 ?_
    have hPc := hP.sub (ws' := [(h0, .inr (15, fs_11))]) [0] rfl
    have hDc := hD.sub (ws' := [(h0, .inr (15, fs_11))]) [0] (by decide) rfl
    have hKc := hK.sub (tys' := []) [] rfl
    have hFc := va_free (wc := [(h0, .inr (15, fs_11))]) hD hS hA [0] rfl
    refine va_callv (va_runV (As := [.int 1, .int 0]) (rest := []) ⟨hx, hb, hml, hown, hts⟩ (c_m_wrong l dC dI h0 qfed qf qfd qs qk fs_11 (mF.sub hp_7 [1, 2, 3, 4, 5, 6, 7, 8, 9, 10, 11, 0, 12, 13, 14, 15, 16, 17, 18] rfl) H.size) (cwV 2 hts g_m_equation_m_wrong_323 rfl rfl rfl hv_X15_wrong ⟨Nat.le_of_ble_eq_true rfl, Nat.le_of_ble_eq_true rfl⟩) ⟨fun a U g mk q => by obtain ⟨q0, q1, qP, qK, qD, qE0⟩ := q; exact ⟨q0, q1, qP, va_K.moved (u := U) (U := U.calling g mk a) (Vm.Alike.refl U.vm) qK, qD, w_N.same rfl qE0⟩, va_recv hKc hPc (ci := 15) (q0 := 0) rfl rfl, fun U hU hW => ⟨rfl, by rw [hU], by rw [hU]; exact hPc, va_K.moved hW.alike hKc, hDc.weaken (fun _ _ _ _ => trivial), w_N.warm hW hN⟩⟩ rfl rfl hl.1 rfl (lv_room (Nat.le_of_ble_eq_true rfl)) dX15_equation_82 ⟨(Nat.le_of_ble_eq_true rfl), (Nat.le_of_ble_eq_true rfl)⟩) hS (fun q _ h => hFc q h) hFc (fun u t H1 locs1 ht hvm hw hB hz1 hk1 hS1 => ?_)
    obtain ⟨fs_12, hP1, hK1, hD1, hp_13⟩ := hB
    rw [ht] at hP1
    have hK1 := va_K.moved hvm.symm hK1
    have hJ := va_join (wr := []) (w1 := [(h0, .inr (15, fs_12))]) hP hD [0] [] rfl rfl (by decide) (by decide) hk1 hFc hP1 hD1
    clear hP hD hPc hDc hKc hFc hz1; try clear hk1
    obtain ⟨hP, hD⟩ := hJ
    replace hK := (hK.sub (tys' := []) [] rfl).app (hK1.sub (tys' := []) [] rfl)
    clear hP1 hK1 hD1 hvm ht hS; try clear t
    try clear H
    revert hS1
    intro hS
    generalize H1 = H at hP hS ⊢; try clear H1
    replace hP : va_P (dC, dI) vwCl [(h0, .inr (15, fs_12))] H := hP
    replace hD : va_D A [(h0, .inr (15, fs_12))] := hD
    replace hK : va_K (dC, dI) vwCl [] s := hK
    have hw_14 : True := hw; clear hw
    refine lv_aload_n hx hb dX15_equation_85 rfl (lv_at hl 1 rfl) ?_
    refine lv_aload_n hx hb dX15_equation_86 rfl (lv_at hl 1 rfl) ?_
    refine va_get (D := (dC, dI)) (ci := 15) (v := .int 0) (C := RX15) (T := TX15) (N := 89) hx hb hts (in_m_equation_X15) hown hK hP 0 rfl rfl 29 (by decide) (hts (.fieldLink RX15 433 "MotionSignsModel" "readKind" "I") (List.mem_of_getElem? (i := 17) rfl)) (fun _ h9 => h9) (mF.get hp_13 11 rfl) dX15_equation_87 ?_
    refine lv_iconst (v := 1) hx hb dX15_equation_90 (by decide) ?_
    refine lv_isub hx hb dX15_equation_91 ?_
    refine lv_topi (fun v_15 ev_15 => ?_)
    have ev_15 : v_15 = (-1) := ev_15.trans (by decide)
    subst ev_15
    refine va_put (D := (dC, dI)) (ci := 15) (v := .int (-1)) (ty := .int) (C := RX15) (T := TX15) (N := 89) hx hb hts (in_m_equation_X15) tyX15 tyX15_ok nmX15 hown hK hP hD hS 0 rfl rfl 25 (by decide) (hts (.fieldLink RX15 341 "MotionSignsModel" "mode" "I") (List.mem_of_getElem? (i := 22) rfl)) (fun _ h9 => h9) rfl (tyX15_ok 25 (by decide)) rfl rfl (mF.lt hp_13 (by decide)) dX15_equation_92 ?_
    clear hP hD hS; try clear H
    intro H locs hP hD hS
    have hF0 := mF.sub (L' := [(0, .int 0), (18, .int 0), (19, .int 0), (20, .int (-1)), (21, .int 0), (22, .int 1), (23, .int 0), (24, .int 0), (27, .int 0), (28, .int 0), (29, .int 0), (35, .int 0), (17, .int (-1)), (26, .ref qfed), (30, .ref qf), (31, .ref qfd), (33, .ref qs), (36, .ref qk)]) hp_13 [0, 1, 2, 3, 4, 5, 6, 7, 9, 10, 11, 12, 13, 14, 15, 16, 17, 18] rfl
    have hF1 := mF.put hF0 25 (.int (-1)) (by decide) rfl
    replace hP : va_P (dC, dI) vwCl [(h0, .inr (15, (fs_12.set 25 (.int (-1)))))] H := hP
    replace hD : va_D A [(h0, .inr (15, (fs_12.set 25 (.int (-1)))))] := hD
    generalize fs_12.set 25 (.int (-1)) = fs_16 at hP hD hF1
    replace hp_13 : mF 89 [(25, .int (-1)), (0, .int 0), (18, .int 0), (19, .int 0), (20, .int (-1)), (21, .int 0), (22, .int 1), (23, .int 0), (24, .int 0), (27, .int 0), (28, .int 0), (29, .int 0), (35, .int 0), (17, .int (-1)), (26, .ref qfed), (30, .ref qf), (31, .ref qfd), (33, .ref qs), (36, .ref qk)] fs_16 := hF1
    clear hF1 hF0
    replace hP : va_P (dC, dI) vwCl [(h0, .inr (15, fs_16))] H := hP
    replace hD : va_D A [(h0, .inr (15, fs_16))] := hD
    refine lv_aload_n hx hb dX15_equation_95 rfl (lv_at hl 1 rfl) ?_
    refine va_get (D := (dC, dI)) (ci := 15) (v := .int 1) (C := RX15) (T := TX15) (N := 89) hx hb hts (in_m_equation_X15) hown hK hP 0 rfl rfl 22 (by decide) (hts (.fieldLink RX15 310 "MotionSignsModel" "fault" "I") (List.mem_of_getElem? (i := 23) rfl)) (fun _ h9 => h9) (mF.get hp_13 6 rfl) dX15_equation_96 ?_
    refine lv_if_ne (tgt := 106) hx hb dX15_equation_99 (by decide) (fun _ => ?_) (fun hc => absurd hc (by decide))
    refine lv_aload_n hx hb dX15_equation_106 rfl (lv_at hl 1 rfl) ?_
    refine va_get (D := (dC, dI)) (ci := 15) (v := .int 1) (C := RX15) (T := TX15) (N := 89) hx hb hts (in_m_equation_X15) hown hK hP 0 rfl rfl 22 (by decide) (hts (.fieldLink RX15 310 "MotionSignsModel" "fault" "I") (List.mem_of_getElem? (i := 23) rfl)) (fun _ h9 => h9) (mF.get hp_13 6 rfl) dX15_equation_107 ?_
    refine lv_if_ne (tgt := 121) hx hb dX15_equation_110 (by decide) (fun _ => ?_) (fun hc => absurd hc (by decide))
    refine lv_aload_n hx hb dX15_equation_121 rfl (lv_at hl 1 rfl) ?_
    have hPc := hP.sub (ws' := [(h0, .inr (15, fs_16))]) [0] rfl
    have hDc := hD.sub (ws' := [(h0, .inr (15, fs_16))]) [0] (by decide) rfl
    have hKc := hK.sub (tys' := []) [] rfl
    have hFc := va_free (wc := [(h0, .inr (15, fs_16))]) hD hS hA [0] rfl
    refine va_callv (va_runV (As := []) (rest := []) ⟨hx, hb, hml, hown, hts⟩ (c_m_ends l dC dI h0 qfed qf qfd qs qk fs_16 (mF.sub hp_13 [1, 2, 3, 4, 5, 6, 7, 8, 0, 9, 10, 11, 12, 13, 14, 15, 16, 17, 18] rfl) H.size) (cwV 0 hts g_m_equation_m_ends_440 rfl rfl rfl hv_X15_ends ⟨Nat.le_of_ble_eq_true rfl, Nat.le_of_ble_eq_true rfl⟩) ⟨fun a U g mk q => by obtain ⟨q0, q1, qP, qK, qD, qE0⟩ := q; exact ⟨q0, q1, qP, va_K.moved (u := U) (U := U.calling g mk a) (Vm.Alike.refl U.vm) qK, qD, w_N.same rfl qE0⟩, va_recv hKc hPc (ci := 15) (q0 := 0) rfl rfl, fun U hU hW => ⟨rfl, by rw [hU], by rw [hU]; exact hPc, va_K.moved hW.alike hKc, hDc.weaken (fun _ _ _ _ => trivial), w_N.warm hW hN⟩⟩ rfl rfl hl.1 rfl (lv_room (Nat.le_of_ble_eq_true rfl)) dX15_equation_122 ⟨(Nat.le_of_ble_eq_true rfl), (Nat.le_of_ble_eq_true rfl)⟩) hS (fun q _ h => hFc q h) hFc (fun u t H1 locs1 ht hvm hw hB hz1 hk1 hS1 => ?_)
    obtain ⟨fs_17, hP1, hK1, hD1, hp_18⟩ := hB
    rw [ht] at hP1
    have hK1 := va_K.moved hvm.symm hK1
    have hJ := va_join (wr := []) (w1 := [(h0, .inr (15, fs_17))]) hP hD [0] [] rfl rfl (by decide) (by decide) hk1 hFc hP1 hD1
    clear hP hD hPc hDc hKc hFc hz1; try clear hk1
    obtain ⟨hP, hD⟩ := hJ
    replace hK := (hK.sub (tys' := []) [] rfl).app (hK1.sub (tys' := []) [] rfl)
    clear hP1 hK1 hD1 hvm ht hS; try clear t
    try clear H
    revert hS1
    intro hS
    generalize H1 = H at hP hS ⊢; try clear H1
    replace hP : va_P (dC, dI) vwCl [(h0, .inr (15, fs_17))] H := hP
    replace hD : va_D A [(h0, .inr (15, fs_17))] := hD
    replace hK : va_K (dC, dI) vwCl [] s := hK
    have hw_19 : True := hw; clear hw
    refine lv_aload_n hx hb dX15_equation_125 rfl (lv_at hl 1 rfl) ?_
    refine va_get (D := (dC, dI)) (ci := 15) (v := .int 1) (C := RX15) (T := TX15) (N := 89) hx hb hts (in_m_equation_X15) hown hK hP 0 rfl rfl 22 (by decide) (hts (.fieldLink RX15 310 "MotionSignsModel" "fault" "I") (List.mem_of_getElem? (i := 23) rfl)) (fun _ h9 => h9) (mF.get hp_18 5 rfl) dX15_equation_126 ?_
    refine lv_if_eq (tgt := 140) hx hb dX15_equation_129 (by decide) (fun hc => absurd hc (by decide)) (fun _ => ?_)
    refine lv_aload_n hx hb dX15_equation_132 rfl (lv_at hl 1 rfl) ?_
    refine va_get (D := (dC, dI)) (ci := 15) (v := .int 1) (C := RX15) (T := TX15) (N := 89) hx hb hts (in_m_equation_X15) hown hK hP 0 rfl rfl 22 (by decide) (hts (.fieldLink RX15 310 "MotionSignsModel" "fault" "I") (List.mem_of_getElem? (i := 23) rfl)) (fun _ h9 => h9) (mF.get hp_18 5 rfl) dX15_equation_133 ?_
    refine lv_bipush (v := 10) hx hb dX15_equation_136 (by decide) ?_
    refine lv_isub hx hb dX15_equation_138 ?_
    refine lv_topi (fun v_20 ev_20 => ?_)
    have ev_20 : v_20 = (-9) := ev_20.trans (by decide)
    subst ev_20
    have hP9 := hP.sub (ws' := [(h0, .inr (15, fs_17))]) [0] rfl
    have hD9 := hD.sub (ws' := [(h0, .inr (15, fs_17))]) [0] (by decide) rfl
    have hK9 := hK.sub (tys' := []) [] rfl
    rw [← hAe] at hD9
    refine W.widen (k := 0) (n := 0) (Nat.le_of_ble_eq_true rfl) (Nat.le_of_ble_eq_true rfl) ?_
    subst hAe
    exact (W.iret (v := (-9)) hx hb hr (fun t ht hW => ⟨⟨(-9), 0, rfl, Or.inl ⟨rfl, rfl, hw_3⟩, fs_17, by rw [ht]; exact hP9, va_K.moved hW.alike hK9, hD9, (mF.sub hp_18 [0] rfl)⟩, hS.F ht⟩) hS.2.2 dX15_equation_139)
  · skip
    subst ehw_3
    refine lv_if_ne (tgt := 22) hx hb dX15_equation_15 (by decide) (fun hc => absurd (by decide) hc) (fun _ => ?_)
    refine lv_iconst (v := 1) hx hb dX15_equation_18 (by decide) ?_
    refine lv_goto (tgt := 23) hx hb dX15_equation_19 (by decide) ?_
    refine lv_iconst (v := 1) hx hb dX15_equation_23 (by decide) ?_
    have hPc := hP.sub (ws' := [(h0, .inr (15, fs_1))]) [0] rfl
    have hDc := hD.sub (ws' := [(h0, .inr (15, fs_1))]) [0] (by decide) rfl
    have hKc := hK.sub (tys' := []) [] rfl
    have hFc := va_free (wc := [(h0, .inr (15, fs_1))]) hD hS hA [0] rfl
    refine va_calli (va_runV (As := [.int 1, .int 1]) (rest := []) ⟨hx, hb, hml, hown, hts⟩ (c_m_bad1 l dC dI h0 qfed qf qfd qs qk fs_1 (mF.sub hF_h0 [0, 1, 2, 3, 4, 5, 6, 7, 8, 9, 10, 11, 12, 13, 14, 15, 16, 17, 18] rfl) H.size) (cwV 2 hts g_m_equation_m_bad1_424 rfl rfl rfl hv_X15_bad ⟨Nat.le_of_ble_eq_true rfl, Nat.le_of_ble_eq_true rfl⟩) ⟨fun a U g mk q => by obtain ⟨q0, q1, qP, qK, qD, qE0⟩ := q; exact ⟨q0, q1, qP, va_K.moved (u := U) (U := U.calling g mk a) (Vm.Alike.refl U.vm) qK, qD, w_N.same rfl qE0⟩, va_recv hKc hPc (ci := 15) (q0 := 0) rfl rfl, fun U hU hW => ⟨rfl, by rw [hU], by rw [hU]; exact hPc, va_K.moved hW.alike hKc, hDc.weaken (fun _ _ _ _ => trivial), w_N.warm hW hN⟩⟩ rfl rfl hl.1 rfl (lv_room (Nat.le_of_ble_eq_true rfl)) dX15_equation_24 ⟨(Nat.le_of_ble_eq_true rfl), (Nat.le_of_ble_eq_true rfl)⟩) hS (fun q _ h => hFc q h) hFc (fun r_21 u t H1 locs1 ht hvm hw hB hz1 hk1 hS1 => ?_)
    obtain ⟨fs_22, hP1, hK1, hD1, hp_23⟩ := hB
    rw [ht] at hP1
    have hK1 := va_K.moved hvm.symm hK1
    have hJ := va_join (wr := []) (w1 := [(h0, .inr (15, fs_22))]) hP hD [0] [] rfl rfl (by decide) (by decide) hk1 hFc hP1 hD1
    clear hP hD hPc hDc hKc hFc hz1; try clear hk1
    obtain ⟨hP, hD⟩ := hJ
    replace hK := (hK.sub (tys' := []) [] rfl).app (hK1.sub (tys' := []) [] rfl)
    clear hP1 hK1 hD1 hvm ht hS; try clear t
    try clear H
    revert hS1
    intro hS
    generalize H1 = H at hP hS ⊢; try clear H1
    replace hP : va_P (dC, dI) vwCl [(h0, .inr (15, fs_22))] H := hP
    replace hD : va_D A [(h0, .inr (15, fs_22))] := hD
    replace hK : va_K (dC, dI) vwCl [] s := hK
    have hw_24 : r_21 = 1 := hw; clear hw
    subst hw_24
    refine lv_if_eq (tgt := 32) hx hb dX15_equation_27 (by decide) (fun hc => absurd hc (by decide)) (fun _ => ?_)
    refine lv_iconst (v := 0) hx hb dX15_equation_30 (by decide) ?_
    have hP9 := hP.sub (ws' := [(h0, .inr (15, fs_22))]) [0] rfl
    have hD9 := hD.sub (ws' := [(h0, .inr (15, fs_22))]) [0] (by decide) rfl
    have hK9 := hK.sub (tys' := []) [] rfl
    rw [← hAe] at hD9
    refine W.widen (k := 0) (n := 0) (Nat.le_of_ble_eq_true rfl) (Nat.le_of_ble_eq_true rfl) ?_
    subst hAe
    exact (W.iret (v := 0) hx hb hr (fun t ht hW => ⟨⟨0, 1, rfl, Or.inr ⟨rfl, hw_3⟩, fs_22, by rw [ht]; exact hP9, va_K.moved hW.alike hK9, hD9, (mF.sub hp_23 [0] rfl)⟩, hS.F ht⟩) hS.2.2 dX15_equation_31)
