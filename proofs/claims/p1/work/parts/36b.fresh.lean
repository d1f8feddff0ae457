def wv_m_sum : List Cond := .code yX15_sum cX15_sum 6 (some .long) :: ([.fieldLink RX15 296 "MotionSignsModel" "thrown" "I", .fieldLink RX15 443 "MotionSignsModel" "kind" "I", .methodLink RX15 424 yX15_bad, .instanceMethod yX15_bad, .selects RX15 yX15_bad yX15_bad, .initialized RX15] ++ (wsX150 ++ (wv_m_bad3 ++ ([]))))
theorem gw_m_sum : wv_m_sum.all goodWord = true := by decide +kernel
theorem in_m_sum_X15 : ∀ w ∈ wsX150, w ∈ wv_m_sum := fun _ h => List.mem_cons_of_mem _ (List.mem_append_right _ (List.mem_append_left _ h))
theorem g_m_sum_m_bad3_424 : GoodIn wv_m_sum (wsV RX15 424 RX15 yX15_bad wv_m_bad3) := goodIn_app (goodIn_of _ (by decide +kernel)) (goodIn_sub (fun _ h => List.mem_cons_of_mem _ (List.mem_append_right _ (List.mem_append_right _ (List.mem_append_left _ h)))) gw_m_bad3)
set_option maxHeartbeats 4000000 in
set_option maxRecDepth 100000 in
/-- the reference: sum on a fresh object -/
theorem c_m_sum (l : Launch) (dC : Nat → ClassId) (dI : Nat → Nat → Nat) (h0 : Nat) (qfed : Nat) (qf : Nat) (qfd : Nat) (qs : Nat) (qk : Nat) (x0 : Int32) (x1 : Int32) (x2 : Int32) (x3 : Int32) (fs_h0 : List Value) (hF_h0 : mF 89 [(0, .int 0), (18, .int 0), (19, .int 0), (20, .int (-1)), (21, .int 0), (22, .int 0), (23, .int 0), (24, .int 0), (25, .int 0), (27, .int 0), (28, .int 0), (29, .int 0), (35, .int 0), (17, .int (-1)), (26, .ref qfed), (30, .ref qf), (31, .ref qfd), (33, .ref qs), (36, .ref qk)] fs_h0) (sz : Nat) : Met l yX15_sum wv_m_sum ({ frames := 1, cells := 0, slots := 0, locals := 22 }) (va_Pc [.ref h0, .int x0, .int x1, .int x2, .int x3] (fun U => U.heap.size = sz ∧ va_P (dC, dI) vwCl [(h0, .inr (15, fs_h0))] U.heap ∧ va_K (dC, dI) vwCl [] U ∧ va_D (fun _ => True) [(h0, .inr (15, fs_h0))] ∧ w_N U)) (va_Ql (fun (r : Int64) (_ : Unit) => True) (fun _ t => ∃ (fs_e : List Value), va_P (dC, dI) vwCl [(h0, .inr (15, fs_e))] t.heap ∧ va_K (dC, dI) vwCl [] t ∧ va_D (va_A [(h0, .inr (15, fs_h0))] sz) [(h0, .inr (15, fs_e))] ∧ mF 89 [(0, .int 3)] fs_e) (va_A [(h0, .inr (15, fs_h0))] sz)) 0 0 (va_A [(h0, .inr (15, fs_h0))] sz) := by
  refine Met.ofW (cc := cX15_sum) (maxL := 6) (ret := (some .long)) (by decide) rfl ?_
  intro p e s m args below meth c s₁ B hml hv
  obtain ⟨rfl, hsz, hP, hK, hD0, hN⟩ := hv
  have hx := B.exec
  have hb := B.bytes
  have hr := B.returns
  have hts := atoms_spec (ws := wv_m_sum) B.pre
  have hown : s.vm.findClass RX15 = some m.cls := findClass_of_methodNamed B.named
  have hlocks := B.notSynchronized
  subst hsz
  have hD := hD0.self (sz := s.heap.size)
  generalize hAe : va_A [(h0, .inr (15, fs_h0))] s.heap.size = A at hD ⊢
  have hA : ∀ q : Nat, s.heap.size ≤ q → A q := fun q h => by rw [← hAe]; exact Or.inr h
  obtain ⟨H, hHe, hP, hS⟩ : ∃ H : Heap, H = s.heap ∧ va_P (dC, dI) vwCl [(h0, .inr (15, fs_h0))] H ∧ va_S A s.heap H [] := ⟨s.heap, rfl, hP, va_S.rf⟩
  have hl := lv_entry ([.ref h0, .int x0, .int x1, .int x2, .int x3]) (n := 6) (Nat.le_of_ble_eq_true rfl)
  rw [lg_entry_eq]
  generalize (lg_sl ([.ref h0, .int x0, .int x1, .int x2, .int x3]) ++ List.replicate (6 - (lg_sl ([.ref h0, .int x0, .int x1, .int x2, .int x3])).length) Slot.unset).toArray = ls at hl ⊢
  have hl : lv_has ls 6 [(0, .ref h0), (1, .int x0), (2, .int x1), (3, .int x2), (4, .int x3)] := hl
  rw [← hHe]; clear hHe
  refine lv_aload_n hx hb dX15_sum_0 rfl (lv_at hl 0 rfl) ?_
  refine lv_iconst (v := 0) hx hb dX15_sum_1 (by decide) ?_
  refine va_put (D := (dC, dI)) (ci := 15) (v := .int 0) (ty := .int) (C := RX15) (T := TX15) (N := 89) hx hb hts (in_m_sum_X15) tyX15 tyX15_ok nmX15 hown hK hP hD hS 0 rfl rfl 0 (by decide) (hts (.fieldLink RX15 296 "MotionSignsModel" "thrown" "I") (List.mem_of_getElem? (i := 1) rfl)) (fun _ h9 => h9) rfl (tyX15_ok 0 (by decide)) rfl rfl (mF.lt hF_h0 (by decide)) dX15_sum_2 ?_
  clear hP hD hS; try clear H
  intro H locs hP hD hS
  have hF0 := mF.sub (L' := [(18, .int 0), (19, .int 0), (20, .int (-1)), (21, .int 0), (22, .int 0), (23, .int 0), (24, .int 0), (25, .int 0), (27, .int 0), (28, .int 0), (29, .int 0), (35, .int 0), (17, .int (-1)), (26, .ref qfed), (30, .ref qf), (31, .ref qfd), (33, .ref qs), (36, .ref qk)]) hF_h0 [1, 2, 3, 4, 5, 6, 7, 8, 9, 10, 11, 12, 13, 14, 15, 16, 17, 18] rfl
  have hF1 := mF.put hF0 0 (.int 0) (by decide) rfl
  replace hP : va_P (dC, dI) vwCl [(h0, .inr (15, (fs_h0.set 0 (.int 0))))] H := hP
  replace hD : va_D A [(h0, .inr (15, (fs_h0.set 0 (.int 0))))] := hD
  generalize fs_h0.set 0 (.int 0) = fs_1 at hP hD hF1
  replace hF_h0 : mF 89 [(0, .int 0), (18, .int 0), (19, .int 0), (20, .int (-1)), (21, .int 0), (22, .int 0), (23, .int 0), (24, .int 0), (25, .int 0), (27, .int 0), (28, .int 0), (29, .int 0), (35, .int 0), (17, .int (-1)), (26, .ref qfed), (30, .ref qf), (31, .ref qfd), (33, .ref qs), (36, .ref qk)] fs_1 := hF1
  clear hF1 hF0
  replace hP : va_P (dC, dI) vwCl [(h0, .inr (15, fs_1))] H := hP
  replace hD : va_D A [(h0, .inr (15, fs_1))] := hD
  refine lv_aload_n hx hb dX15_sum_5 rfl (lv_at hl 0 rfl) ?_
  refine lv_aload_n hx hb dX15_sum_6 rfl (lv_at hl 0 rfl) ?_
  refine va_get (D := (dC, dI)) (ci := 15) (v := .int 0) (C := RX15) (T := TX15) (N := 89) hx hb hts (in_m_sum_X15) hown hK hP 0 rfl rfl 28 (by decide) (hts (.fieldLink RX15 443 "MotionSignsModel" "kind" "I") (List.mem_of_getElem? (i := 2) rfl)) (fun _ h9 => h9) (mF.get hF_h0 10 rfl) dX15_sum_7 ?_
  refine lv_if_ne (tgt := 17) hx hb dX15_sum_10 (by decide) (fun hc => absurd (by decide) hc) (fun _ => ?_)
  refine lv_iconst (v := 1) hx hb dX15_sum_13 (by decide) ?_
  refine lv_goto (tgt := 18) hx hb dX15_sum_14 (by decide) ?_
  refine lv_iconst (v := 3) hx hb dX15_sum_18 (by decide) ?_
  have hPc := hP.sub (ws' := [(h0, .inr (15, fs_1))]) [0] rfl
  have hDc := hD.sub (ws' := [(h0, .inr (15, fs_1))]) [0] (by decide) rfl
  have hKc := hK.sub (tys' := []) [] rfl
  have hFc := va_free (wc := [(h0, .inr (15, fs_1))]) hD hS hA [0] rfl
  refine va_calli (va_runV (As := [.int 1, .int 3]) (rest := []) ⟨hx, hb, hml, hown, hts⟩ (c_m_bad3 l dC dI h0 qfed qf qfd qs qk fs_1 (mF.sub hF_h0 [0, 1, 2, 3, 4, 5, 6, 7, 8, 9, 10, 11, 12, 13, 14, 15, 16, 17, 18] rfl) H.size) (cwV 2 hts g_m_sum_m_bad3_424 rfl rfl rfl hv_X15_bad ⟨Nat.le_of_ble_eq_true rfl, Nat.le_of_ble_eq_true rfl⟩) ⟨fun a U g mk q => by obtain ⟨q0, q1, qP, qK, qD, qE0⟩ := q; exact ⟨q0, q1, qP, va_K.moved (u := U) (U := U.calling g mk a) (Vm.Alike.refl U.vm) qK, qD, w_N.same rfl qE0⟩, va_recv hKc hPc (ci := 15) (q0 := 0) rfl rfl, fun U hU hW => ⟨rfl, by rw [hU], by rw [hU]; exact hPc, va_K.moved hW.alike hKc, hDc.weaken (fun _ _ _ _ => trivial), w_N.warm hW hN⟩⟩ rfl rfl hl.1 rfl (lv_room (Nat.le_of_ble_eq_true rfl)) dX15_sum_19 ⟨(Nat.le_of_ble_eq_true rfl), (Nat.le_of_ble_eq_true rfl)⟩) hS (fun q _ h => hFc q h) hFc (fun r_2 u t H1 locs1 ht hvm hw hB hz1 hk1 hS1 => ?_)
  obtain ⟨fs_3, hP1, hK1, hD1, hp_4⟩ := hB
  rw [ht] at hP1
  have hK1 := va_K.moved hvm.symm hK1
  have hJ := va_join (wr := []) (w1 := [(h0, .inr (15, fs_3))]) hP hD [0] [] rfl rfl (by decide) (by decide) hk1 hFc hP1 hD1
  clear hP hD hPc hDc hKc hFc hz1; try clear hk1
  obtain ⟨hP, hD⟩ := hJ
  replace hK := (hK.sub (tys' := []) [] rfl).app (hK1.sub (tys' := []) [] rfl)
  clear hP1 hK1 hD1 hvm ht hS; try clear t
  try clear H
  revert hS1
  intro hS
  generalize H1 = H at hP hS ⊢; try clear H1
  replace hP : va_P (dC, dI) vwCl [(h0, .inr (15, fs_3))] H := hP
  replace hD : va_D A [(h0, .inr (15, fs_3))] := hD
  replace hK : va_K (dC, dI) vwCl [] s := hK
  have hw_5 : r_2 = 1 := hw; clear hw
  subst hw_5
  refine lv_if_ne (tgt := 55) hx hb dX15_sum_22 (by decide) (fun _ => ?_) (fun hc => absurd hc (by decide))
  refine lv_lconst (v := 0) hx hb dX15_sum_55 (by decide) ?_
  have hP9 := hP.sub (ws' := [(h0, .inr (15, fs_3))]) [0] rfl
  have hD9 := hD.sub (ws' := [(h0, .inr (15, fs_3))]) [0] (by decide) rfl
  have hK9 := hK.sub (tys' := []) [] rfl
  rw [← hAe] at hD9
  refine W.widen (k := 0) (n := 0) (Nat.le_of_ble_eq_true rfl) (Nat.le_of_ble_eq_true rfl) ?_
  subst hAe
  exact (W.lret (v := 0) hx hb hr (fun t ht hW => ⟨⟨0, (), rfl, trivial, fs_3, by rw [ht]; exact hP9, va_K.moved hW.alike hK9, hD9, (mF.sub hp_4 [0] rfl)⟩, hS.F ht⟩) hS.2.2 dX15_sum_56)
def wv_m_solves : List Cond := .code yX15_solves cX15_solves 1 (some .int) :: ([.fieldLink RX15 296 "MotionSignsModel" "thrown" "I", .fieldLink RX15 443 "MotionSignsModel" "kind" "I", .methodLink RX15 424 yX15_bad, .instanceMethod yX15_bad, .selects RX15 yX15_bad yX15_bad, .initialized RX15] ++ (wsX150 ++ (wv_m_bad1 ++ ([]))))
theorem gw_m_solves : wv_m_solves.all goodWord = true := by decide +kernel
theorem in_m_solves_X15 : ∀ w ∈ wsX150, w ∈ wv_m_solves := fun _ h => List.mem_cons_of_mem _ (List.mem_append_right _ (List.mem_append_left _ h))
theorem g_m_solves_m_bad1_424 : GoodIn wv_m_solves (wsV RX15 424 RX15 yX15_bad wv_m_bad1) := goodIn_app (goodIn_of _ (by decide +kernel)) (goodIn_sub (fun _ h => List.mem_cons_of_mem _ (List.mem_append_right _ (List.mem_append_right _ (List.mem_append_left _ h)))) gw_m_bad1)
set_option maxHeartbeats 4000000 in
set_option maxRecDepth 100000 in
/-- the reference: solves on a fresh object -/
theorem c_m_solves (l : Launch) (dC : Nat → ClassId) (dI : Nat → Nat → Nat) (h0 : Nat) (qfed : Nat) (qf : Nat) (qfd : Nat) (qs : Nat) (qk : Nat) (fs_h0 : List Value) (hF_h0 : mF 89 [(0, .int 0), (18, .int 0), (19, .int 0), (20, .int (-1)), (21, .int 0), (22, .int 0), (23, .int 0), (24, .int 0), (25, .int 0), (27, .int 0), (28, .int 0), (29, .int 0), (35, .int 0), (17, .int (-1)), (26, .ref qfed), (30, .ref qf), (31, .ref qfd), (33, .ref qs), (36, .ref qk)] fs_h0) (sz : Nat) : Met l yX15_solves wv_m_solves ({ frames := 1, cells := 0, slots := 0, locals := 22 }) (va_Pc [.ref h0] (fun U => U.heap.size = sz ∧ va_P (dC, dI) vwCl [(h0, .inr (15, fs_h0))] U.heap ∧ va_K (dC, dI) vwCl [] U ∧ va_D (fun _ => True) [(h0, .inr (15, fs_h0))] ∧ w_N U)) (va_Qi (fun (r : Int32) (_ : Unit) => True) (fun _ t => ∃ (fs_e : List Value), va_P (dC, dI) vwCl [(h0, .inr (15, fs_e))] t.heap ∧ va_K (dC, dI) vwCl [] t ∧ va_D (va_A [(h0, .inr (15, fs_h0))] sz) [(h0, .inr (15, fs_e))] ∧ mF 89 [(0, .int 1)] fs_e) (va_A [(h0, .inr (15, fs_h0))] sz)) 0 0 (va_A [(h0, .inr (15, fs_h0))] sz) := by
  refine Met.ofW (cc := cX15_solves) (maxL := 1) (ret := (some .int)) (by decide) rfl ?_
  intro p e s m args below meth c s₁ B hml hv
  obtain ⟨rfl, hsz, hP, hK, hD0, hN⟩ := hv
  have hx := B.exec
  have hb := B.bytes
  have hr := B.returns
  have hts := atoms_spec (ws := wv_m_solves) B.pre
  have hown : s.vm.findClass RX15 = some m.cls := findClass_of_methodNamed B.named
  have hlocks := B.notSynchronized
  subst hsz
  have hD := hD0.self (sz := s.heap.size)
  generalize hAe : va_A [(h0, .inr (15, fs_h0))] s.heap.size = A at hD ⊢
  have hA : ∀ q : Nat, s.heap.size ≤ q → A q := fun q h => by rw [← hAe]; exact Or.inr h
  obtain ⟨H, hHe, hP, hS⟩ : ∃ H : Heap, H = s.heap ∧ va_P (dC, dI) vwCl [(h0, .inr (15, fs_h0))] H ∧ va_S A s.heap H [] := ⟨s.heap, rfl, hP, va_S.rf⟩
  have hl := lv_entry ([.ref h0]) (n := 1) (Nat.le_of_ble_eq_true rfl)
  rw [lg_entry_eq]
  generalize (lg_sl ([.ref h0]) ++ List.replicate (1 - (lg_sl ([.ref h0])).length) Slot.unset).toArray = ls at hl ⊢
  have hl : lv_has ls 1 [(0, .ref h0)] := hl
  rw [← hHe]; clear hHe
  refine lv_aload_n hx hb dX15_solves_0 rfl (lv_at hl 0 rfl) ?_
  refine lv_iconst (v := 0) hx hb dX15_solves_1 (by decide) ?_
  refine va_put (D := (dC, dI)) (ci := 15) (v := .int 0) (ty := .int) (C := RX15) (T := TX15) (N := 89) hx hb hts (in_m_solves_X15) tyX15 tyX15_ok nmX15 hown hK hP hD hS 0 rfl rfl 0 (by decide) (hts (.fieldLink RX15 296 "MotionSignsModel" "thrown" "I") (List.mem_of_getElem? (i := 1) rfl)) (fun _ h9 => h9) rfl (tyX15_ok 0 (by decide)) rfl rfl (mF.lt hF_h0 (by decide)) dX15_solves_2 ?_
  clear hP hD hS; try clear H
  intro H locs hP hD hS
  have hF0 := mF.sub (L' := [(18, .int 0), (19, .int 0), (20, .int (-1)), (21, .int 0), (22, .int 0), (23, .int 0), (24, .int 0), (25, .int 0), (27, .int 0), (28, .int 0), (29, .int 0), (35, .int 0), (17, .int (-1)), (26, .ref qfed), (30, .ref qf), (31, .ref qfd), (33, .ref qs), (36, .ref qk)]) hF_h0 [1, 2, 3, 4, 5, 6, 7, 8, 9, 10, 11, 12, 13, 14, 15, 16, 17, 18] rfl
  have hF1 := mF.put hF0 0 (.int 0) (by decide) rfl
  replace hP : va_P (dC, dI) vwCl [(h0, .inr (15, (fs_h0.set 0 (.int 0))))] H := hP
  replace hD : va_D A [(h0, .inr (15, (fs_h0.set 0 (.int 0))))] := hD
  generalize fs_h0.set 0 (.int 0) = fs_1 at hP hD hF1
  replace hF_h0 : mF 89 [(0, .int 0), (18, .int 0), (19, .int 0), (20, .int (-1)), (21, .int 0), (22, .int 0), (23, .int 0), (24, .int 0), (25, .int 0), (27, .int 0), (28, .int 0), (29, .int 0), (35, .int 0), (17, .int (-1)), (26, .ref qfed), (30, .ref qf), (31, .ref qfd), (33, .ref qs), (36, .ref qk)] fs_1 := hF1
  clear hF1 hF0
  replace hP : va_P (dC, dI) vwCl [(h0, .inr (15, fs_1))] H := hP
  replace hD : va_D A [(h0, .inr (15, fs_1))] := hD
  refine lv_aload_n hx hb dX15_solves_5 rfl (lv_at hl 0 rfl) ?_
  refine lv_aload_n hx hb dX15_solves_6 rfl (lv_at hl 0 rfl) ?_
  refine va_get (D := (dC, dI)) (ci := 15) (v := .int 0) (C := RX15) (T := TX15) (N := 89) hx hb hts (in_m_solves_X15) hown hK hP 0 rfl rfl 28 (by decide) (hts (.fieldLink RX15 443 "MotionSignsModel" "kind" "I") (List.mem_of_getElem? (i := 2) rfl)) (fun _ h9 => h9) (mF.get hF_h0 10 rfl) dX15_solves_7 ?_
  refine lv_if_ne (tgt := 17) hx hb dX15_solves_10 (by decide) (fun hc => absurd (by decide) hc) (fun _ => ?_)
  refine lv_iconst (v := 1) hx hb dX15_solves_13 (by decide) ?_
  refine lv_goto (tgt := 18) hx hb dX15_solves_14 (by decide) ?_
  refine lv_iconst (v := 1) hx hb dX15_solves_18 (by decide) ?_
  have hPc := hP.sub (ws' := [(h0, .inr (15, fs_1))]) [0] rfl
  have hDc := hD.sub (ws' := [(h0, .inr (15, fs_1))]) [0] (by decide) rfl
  have hKc := hK.sub (tys' := []) [] rfl
  have hFc := va_free (wc := [(h0, .inr (15, fs_1))]) hD hS hA [0] rfl
  refine va_calli (va_runV (As := [.int 1, .int 1]) (rest := []) ⟨hx, hb, hml, hown, hts⟩ (c_m_bad1 l dC dI h0 qfed qf qfd qs qk fs_1 (mF.sub hF_h0 [0, 1, 2, 3, 4, 5, 6, 7, 8, 9, 10, 11, 12, 13, 14, 15, 16, 17, 18] rfl) H.size) (cwV 2 hts g_m_solves_m_bad1_424 rfl rfl rfl hv_X15_bad ⟨Nat.le_of_ble_eq_true rfl, Nat.le_of_ble_eq_true rfl⟩) ⟨fun a U g mk q => by obtain ⟨q0, q1, qP, qK, qD, qE0⟩ := q; exact ⟨q0, q1, qP, va_K.moved (u := U) (U := U.calling g mk a) (Vm.Alike.refl U.vm) qK, qD, w_N.same rfl qE0⟩, va_recv hKc hPc (ci := 15) (q0 := 0) rfl rfl, fun U hU hW => ⟨rfl, by rw [hU], by rw [hU]; exact hPc, va_K.moved hW.alike hKc, hDc.weaken (fun _ _ _ _ => trivial), w_N.warm hW hN⟩⟩ rfl rfl hl.1 rfl (lv_room (Nat.le_of_ble_eq_true rfl)) dX15_solves_19 ⟨(Nat.le_of_ble_eq_true rfl), (Nat.le_of_ble_eq_true rfl)⟩) hS (fun q _ h => hFc q h) hFc (fun r_2 u t H1 locs1 ht hvm hw hB hz1 hk1 hS1 => ?_)
  obtain ⟨fs_3, hP1, hK1, hD1, hp_4⟩ := hB
  rw [ht] at hP1
  have hK1 := va_K.moved hvm.symm hK1
  have hJ := va_join (wr := []) (w1 := [(h0, .inr (15, fs_3))]) hP hD [0] [] rfl rfl (by decide) (by decide) hk1 hFc hP1 hD1
  clear hP hD hPc hDc hKc hFc hz1; try clear hk1
  obtain ⟨hP, hD⟩ := hJ
  replace hK := (hK.sub (tys' := []) [] rfl).app (hK1.sub (tys' := []) [] rfl)
  clear hP1 hK1 hD1 hvm ht hS; try clear t
  try clear H
  revert hS1
  intro hS
  generalize H1 = H at hP hS ⊢; try clear H1
  replace hP : va_P (dC, dI) vwCl [(h0, .inr (15, fs_3))] H := hP
  replace hD : va_D A [(h0, .inr (15, fs_3))] := hD
  replace hK : va_K (dC, dI) vwCl [] s := hK
  have hw_5 : r_2 = 1 := hw; clear hw
  subst hw_5
  refine lv_if_eq (tgt := 27) hx hb dX15_solves_22 (by decide) (fun hc => absurd hc (by decide)) (fun _ => ?_)
  refine lv_iconst (v := 0) hx hb dX15_solves_25 (by decide) ?_
  have hP9 := hP.sub (ws' := [(h0, .inr (15, fs_3))]) [0] rfl
  have hD9 := hD.sub (ws' := [(h0, .inr (15, fs_3))]) [0] (by decide) rfl
  have hK9 := hK.sub (tys' := []) [] rfl
  rw [← hAe] at hD9
  refine W.widen (k := 0) (n := 0) (Nat.le_of_ble_eq_true rfl) (Nat.le_of_ble_eq_true rfl) ?_
  subst hAe
  exact (W.iret (v := 0) hx hb hr (fun t ht hW => ⟨⟨0, (), rfl, trivial, fs_3, by rw [ht]; exact hP9, va_K.moved hW.alike hK9, hD9, (mF.sub hp_4 [0] rfl)⟩, hS.F ht⟩) hS.2.2 dX15_solves_26)
def wv_m_left : List Cond := .code yX15_left cX15_left 3 (some .long) :: ([.fieldLink RX15 296 "MotionSignsModel" "thrown" "I", .fieldLink RX15 443 "MotionSignsModel" "kind" "I", .methodLink RX15 424 yX15_bad, .instanceMethod yX15_bad, .selects RX15 yX15_bad yX15_bad, .initialized RX15] ++ (wsX150 ++ (wv_m_bad2 ++ ([]))))
theorem gw_m_left : wv_m_left.all goodWord = true := by decide +kernel
theorem in_m_left_X15 : ∀ w ∈ wsX150, w ∈ wv_m_left := fun _ h => List.mem_cons_of_mem _ (List.mem_append_right _ (List.mem_append_left _ h))
theorem g_m_left_m_bad2_424 : GoodIn wv_m_left (wsV RX15 424 RX15 yX15_bad wv_m_bad2) := goodIn_app (goodIn_of _ (by decide +kernel)) (goodIn_sub (fun _ h => List.mem_cons_of_mem _ (List.mem_append_right _ (List.mem_append_right _ (List.mem_append_left _ h)))) gw_m_bad2)
set_option maxHeartbeats 4000000 in
set_option maxRecDepth 100000 in
/-- the reference: left on a fresh object -/
theorem c_m_left (l : Launch) (dC : Nat → ClassId) (dI : Nat → Nat → Nat) (h0 : Nat) (qfed : Nat) (qf : Nat) (qfd : Nat) (qs : Nat) (qk : Nat) (x0 : Int32) (x1 : Int32) (fs_h0 : List Value) (hF_h0 : mF 89 [(0, .int 0), (18, .int 0), (19, .int 0), (20, .int (-1)), (21, .int 0), (22, .int 0), (23, .int 0), (24, .int 0), (25, .int 0), (27, .int 0), (28, .int 0), (29, .int 0), (35, .int 0), (17, .int (-1)), (26, .ref qfed), (30, .ref qf), (31, .ref qfd), (33, .ref qs), (36, .ref qk)] fs_h0) (sz : Nat) : Met l yX15_left wv_m_left ({ frames := 1, cells := 0, slots := 0, locals := 22 }) (va_Pc [.ref h0, .int x0, .int x1] (fun U => U.heap.size = sz ∧ va_P (dC, dI) vwCl [(h0, .inr (15, fs_h0))] U.heap ∧ va_K (dC, dI) vwCl [] U ∧ va_D (fun _ => True) [(h0, .inr (15, fs_h0))] ∧ w_N U)) (va_Ql (fun (r : Int64) (_ : Unit) => True) (fun _ t => ∃ (fs_e : List Value), va_P (dC, dI) vwCl [(h0, .inr (15, fs_e))] t.heap ∧ va_K (dC, dI) vwCl [] t ∧ va_D (va_A [(h0, .inr (15, fs_h0))] sz) [(h0, .inr (15, fs_e))] ∧ mF 89 [(0, .int 2)] fs_e) (va_A [(h0, .inr (15, fs_h0))] sz)) 0 0 (va_A [(h0, .inr (15, fs_h0))] sz) := by
  refine Met.ofW (cc := cX15_left) (maxL := 3) (ret := (some .long)) (by decide) rfl ?_
  intro p e s m args below meth c s₁ B hml hv
  obtain ⟨rfl, hsz, hP, hK, hD0, hN⟩ := hv
  have hx := B.exec
  have hb := B.bytes
  have hr := B.returns
  have hts := atoms_spec (ws := wv_m_left) B.pre
  have hown : s.vm.findClass RX15 = some m.cls := findClass_of_methodNamed B.named
  have hlocks := B.notSynchronized
  subst hsz
  have hD := hD0.self (sz := s.heap.size)
  generalize hAe : va_A [(h0, .inr (15, fs_h0))] s.heap.size = A at hD ⊢
  have hA : ∀ q : Nat, s.heap.size ≤ q → A q := fun q h => by rw [← hAe]; exact Or.inr h
  obtain ⟨H, hHe, hP, hS⟩ : ∃ H : Heap, H = s.heap ∧ va_P (dC, dI) vwCl [(h0, .inr (15, fs_h0))] H ∧ va_S A s.heap H [] := ⟨s.heap, rfl, hP, va_S.rf⟩
  have hl := lv_entry ([.ref h0, .int x0, .int x1]) (n := 3) (Nat.le_of_ble_eq_true rfl)
  rw [lg_entry_eq]
  generalize (lg_sl ([.ref h0, .int x0, .int x1]) ++ List.replicate (3 - (lg_sl ([.ref h0, .int x0, .int x1])).length) Slot.unset).toArray = ls at hl ⊢
  have hl : lv_has ls 3 [(0, .ref h0), (1, .int x0), (2, .int x1)] := hl
  rw [← hHe]; clear hHe
  refine lv_aload_n hx hb dX15_left_0 rfl (lv_at hl 0 rfl) ?_
  refine lv_iconst (v := 0) hx hb dX15_left_1 (by decide) ?_
  refine va_put (D := (dC, dI)) (ci := 15) (v := .int 0) (ty := .int) (C := RX15) (T := TX15) (N := 89) hx hb hts (in_m_left_X15) tyX15 tyX15_ok nmX15 hown hK hP hD hS 0 rfl rfl 0 (by decide) (hts (.fieldLink RX15 296 "MotionSignsModel" "thrown" "I") (List.mem_of_getElem? (i := 1) rfl)) (fun _ h9 => h9) rfl (tyX15_ok 0 (by decide)) rfl rfl (mF.lt hF_h0 (by decide)) dX15_left_2 ?_
  clear hP hD hS; try clear H
  intro H locs hP hD hS
  have hF0 := mF.sub (L' := [(18, .int 0), (19, .int 0), (20, .int (-1)), (21, .int 0), (22, .int 0), (23, .int 0), (24, .int 0), (25, .int 0), (27, .int 0), (28, .int 0), (29, .int 0), (35, .int 0), (17, .int (-1)), (26, .ref qfed), (30, .ref qf), (31, .ref qfd), (33, .ref qs), (36, .ref qk)]) hF_h0 [1, 2, 3, 4, 5, 6, 7, 8, 9, 10, 11, 12, 13, 14, 15, 16, 17, 18] rfl
  have hF1 := mF.put hF0 0 (.int 0) (by decide) rfl
  replace hP : va_P (dC, dI) vwCl [(h0, .inr (15, (fs_h0.set 0 (.int 0))))] H := hP
  replace hD : va_D A [(h0, .inr (15, (fs_h0.set 0 (.int 0))))] := hD
  generalize fs_h0.set 0 (.int 0) = fs_1 at hP hD hF1
  replace hF_h0 : mF 89 [(0, .int 0), (18, .int 0), (19, .int 0), (20, .int (-1)), (21, .int 0), (22, .int 0), (23, .int 0), (24, .int 0), (25, .int 0), (27, .int 0), (28, .int 0), (29, .int 0), (35, .int 0), (17, .int (-1)), (26, .ref qfed), (30, .ref qf), (31, .ref qfd), (33, .ref qs), (36, .ref qk)] fs_1 := hF1
  clear hF1 hF0
  replace hP : va_P (dC, dI) vwCl [(h0, .inr (15, fs_1))] H := hP
  replace hD : va_D A [(h0, .inr (15, fs_1))] := hD
  refine lv_aload_n hx hb dX15_left_5 rfl (lv_at hl 0 rfl) ?_
  refine lv_aload_n hx hb dX15_left_6 rfl (lv_at hl 0 rfl) ?_
  refine va_get (D := (dC, dI)) (ci := 15) (v := .int 0) (C := RX15) (T := TX15) (N := 89) hx hb hts (in_m_left_X15) hown hK hP 0 rfl rfl 28 (by decide) (hts (.fieldLink RX15 443 "MotionSignsModel" "kind" "I") (List.mem_of_getElem? (i := 2) rfl)) (fun _ h9 => h9) (mF.get hF_h0 10 rfl) dX15_left_7 ?_
  refine lv_if_ne (tgt := 17) hx hb dX15_left_10 (by decide) (fun hc => absurd (by decide) hc) (fun _ => ?_)
  refine lv_iconst (v := 1) hx hb dX15_left_13 (by decide) ?_
  refine lv_goto (tgt := 18) hx hb dX15_left_14 (by decide) ?_
  refine lv_iconst (v := 2) hx hb dX15_left_18 (by decide) ?_
  have hPc := hP.sub (ws' := [(h0, .inr (15, fs_1))]) [0] rfl
  have hDc := hD.sub (ws' := [(h0, .inr (15, fs_1))]) [0] (by decide) rfl
  have hKc := hK.sub (tys' := []) [] rfl
  have hFc := va_free (wc := [(h0, .inr (15, fs_1))]) hD hS hA [0] rfl
  refine va_calli (va_runV (As := [.int 1, .int 2]) (rest := []) ⟨hx, hb, hml, hown, hts⟩ (c_m_bad2 l dC dI h0 qfed qf qfd qs qk fs_1 (mF.sub hF_h0 [0, 1, 2, 3, 4, 5, 6, 7, 8, 9, 10, 11, 12, 13, 14, 15, 16, 17, 18] rfl) H.size) (cwV 2 hts g_m_left_m_bad2_424 rfl rfl rfl hv_X15_bad ⟨Nat.le_of_ble_eq_true rfl, Nat.le_of_ble_eq_true rfl⟩) ⟨fun a U g mk q => by obtain ⟨q0, q1, qP, qK, qD, qE0⟩ := q; exact ⟨q0, q1, qP, va_K.moved (u := U) (U := U.calling g mk a) (Vm.Alike.refl U.vm) qK, qD, w_N.same rfl qE0⟩, va_recv hKc hPc (ci := 15) (q0 := 0) rfl rfl, fun U hU hW => ⟨rfl, by rw [hU], by rw [hU]; exact hPc, va_K.moved hW.alike hKc, hDc.weaken (fun _ _ _ _ => trivial), w_N.warm hW hN⟩⟩ rfl rfl hl.1 rfl (lv_room (Nat.le_of_ble_eq_true rfl)) dX15_left_19 ⟨(Nat.le_of_ble_eq_true rfl), (Nat.le_of_ble_eq_true rfl)⟩) hS (fun q _ h => hFc q h) hFc (fun r_2 u t H1 locs1 ht hvm hw hB hz1 hk1 hS1 => ?_)
  obtain ⟨fs_3, hP1, hK1, hD1, hp_4⟩ := hB
  rw [ht] at hP1
  have hK1 := va_K.moved hvm.symm hK1
  have hJ := va_join (wr := []) (w1 := [(h0, .inr (15, fs_3))]) hP hD [0] [] rfl rfl (by decide) (by decide) hk1 hFc hP1 hD1
  clear hP hD hPc hDc hKc hFc hz1; try clear hk1
  obtain ⟨hP, hD⟩ := hJ
  replace hK := (hK.sub (tys' := []) [] rfl).app (hK1.sub (tys' := []) [] rfl)
  clear hP1 hK1 hD1 hvm ht hS; try clear t
  try clear H
  revert hS1
  intro hS
  generalize H1 = H at hP hS ⊢; try clear H1
  replace hP : va_P (dC, dI) vwCl [(h0, .inr (15, fs_3))] H := hP
  replace hD : va_D A [(h0, .inr (15, fs_3))] := hD
  replace hK : va_K (dC, dI) vwCl [] s := hK
  have hw_5 : r_2 = 1 := hw; clear hw
  subst hw_5
  refine lv_if_ne (tgt := 70) hx hb dX15_left_22 (by decide) (fun _ => ?_) (fun hc => absurd hc (by decide))
  refine lv_lconst (v := 0) hx hb dX15_left_70 (by decide) ?_
  have hP9 := hP.sub (ws' := [(h0, .inr (15, fs_3))]) [0] rfl
  have hD9 := hD.sub (ws' := [(h0, .inr (15, fs_3))]) [0] (by decide) rfl
  have hK9 := hK.sub (tys' := []) [] rfl
  rw [← hAe] at hD9
  refine W.widen (k := 0) (n := 0) (Nat.le_of_ble_eq_true rfl) (Nat.le_of_ble_eq_true rfl) ?_
  subst hAe
  exact (W.lret (v := 0) hx hb hr (fun t ht hW => ⟨⟨0, (), rfl, trivial, fs_3, by rw [ht]; exact hP9, va_K.moved hW.alike hK9, hD9, (mF.sub hp_4 [0] rfl)⟩, hS.F ht⟩) hS.2.2 dX15_left_71)
def wv_m_shifted : List Cond := .code yX15_shifted cX15_shifted 7 (some .int) :: ([.fieldLink RX15 296 "MotionSignsModel" "thrown" "I", .fieldLink RX15 443 "MotionSignsModel" "kind" "I", .methodLink RX15 424 yX15_bad, .instanceMethod yX15_bad, .selects RX15 yX15_bad yX15_bad, .initialized RX15] ++ (wsX150 ++ (wv_m_bad2 ++ ([]))))
theorem gw_m_shifted : wv_m_shifted.all goodWord = true := by decide +kernel
theorem in_m_shifted_X15 : ∀ w ∈ wsX150, w ∈ wv_m_shifted := fun _ h => List.mem_cons_of_mem _ (List.mem_append_right _ (List.mem_append_left _ h))
theorem g_m_shifted_m_bad2_424 : GoodIn wv_m_shifted (wsV RX15 424 RX15 yX15_bad wv_m_bad2) := goodIn_app (goodIn_of _ (by decide +kernel)) (goodIn_sub (fun _ h => List.mem_cons_of_mem _ (List.mem_append_right _ (List.mem_append_right _ (List.mem_append_left _ h)))) gw_m_bad2)
set_option maxHeartbeats 4000000 in
set_option maxRecDepth 100000 in
/-- the reference: shifted on a fresh object -/
theorem c_m_shifted (l : Launch) (dC : Nat → ClassId) (dI : Nat → Nat → Nat) (h0 : Nat) (qfed : Nat) (qf : Nat) (qfd : Nat) (qs : Nat) (qk : Nat) (x0 : Int32) (x1 : Int32) (fs_h0 : List Value) (hF_h0 : mF 89 [(0, .int 0), (18, .int 0), (19, .int 0), (20, .int (-1)), (21, .int 0), (22, .int 0), (23, .int 0), (24, .int 0), (25, .int 0), (27, .int 0), (28, .int 0), (29, .int 0), (35, .int 0), (17, .int (-1)), (26, .ref qfed), (30, .ref qf), (31, .ref qfd), (33, .ref qs), (36, .ref qk)] fs_h0) (sz : Nat) : Met l yX15_shifted wv_m_shifted ({ frames := 1, cells := 0, slots := 0, locals := 22 }) (va_Pc [.ref h0, .int x0, .int x1] (fun U => U.heap.size = sz ∧ va_P (dC, dI) vwCl [(h0, .inr (15, fs_h0))] U.heap ∧ va_K (dC, dI) vwCl [] U ∧ va_D (fun _ => True) [(h0, .inr (15, fs_h0))] ∧ w_N U)) (va_Qi (fun (r : Int32) (_ : Unit) => True) (fun _ t => ∃ (fs_e : List Value), va_P (dC, dI) vwCl [(h0, .inr (15, fs_e))] t.heap ∧ va_K (dC, dI) vwCl [] t ∧ va_D (va_A [(h0, .inr (15, fs_h0))] sz) [(h0, .inr (15, fs_e))] ∧ mF 89 [(0, .int 2)] fs_e) (va_A [(h0, .inr (15, fs_h0))] sz)) 0 0 (va_A [(h0, .inr (15, fs_h0))] sz) := by
  refine Met.ofW (cc := cX15_shifted) (maxL := 7) (ret := (some .int)) (by decide) rfl ?_
  intro p e s m args below meth c s₁ B hml hv
  obtain ⟨rfl, hsz, hP, hK, hD0, hN⟩ := hv
  have hx := B.exec
  have hb := B.bytes
  have hr := B.returns
  have hts := atoms_spec (ws := wv_m_shifted) B.pre
  have hown : s.vm.findClass RX15 = some m.cls := findClass_of_methodNamed B.named
  have hlocks := B.notSynchronized
  subst hsz
  have hD := hD0.self (sz := s.heap.size)
  generalize hAe : va_A [(h0, .inr (15, fs_h0))] s.heap.size = A at hD ⊢
  have hA : ∀ q : Nat, s.heap.size ≤ q → A q := fun q h => by rw [← hAe]; exact Or.inr h
  obtain ⟨H, hHe, hP, hS⟩ : ∃ H : Heap, H = s.heap ∧ va_P (dC, dI) vwCl [(h0, .inr (15, fs_h0))] H ∧ va_S A s.heap H [] := ⟨s.heap, rfl, hP, va_S.rf⟩
  have hl := lv_entry ([.ref h0, .int x0, .int x1]) (n := 7) (Nat.le_of_ble_eq_true rfl)
  rw [lg_entry_eq]
  generalize (lg_sl ([.ref h0, .int x0, .int x1]) ++ List.replicate (7 - (lg_sl ([.ref h0, .int x0, .int x1])).length) Slot.unset).toArray = ls at hl ⊢
  have hl : lv_has ls 7 [(0, .ref h0), (1, .int x0), (2, .int x1)] := hl
  rw [← hHe]; clear hHe
  refine lv_aload_n hx hb dX15_shifted_0 rfl (lv_at hl 0 rfl) ?_
  refine lv_iconst (v := 0) hx hb dX15_shifted_1 (by decide) ?_
  refine va_put (D := (dC, dI)) (ci := 15) (v := .int 0) (ty := .int) (C := RX15) (T := TX15) (N := 89) hx hb hts (in_m_shifted_X15) tyX15 tyX15_ok nmX15 hown hK hP hD hS 0 rfl rfl 0 (by decide) (hts (.fieldLink RX15 296 "MotionSignsModel" "thrown" "I") (List.mem_of_getElem? (i := 1) rfl)) (fun _ h9 => h9) rfl (tyX15_ok 0 (by decide)) rfl rfl (mF.lt hF_h0 (by decide)) dX15_shifted_2 ?_
  clear hP hD hS; try clear H
  intro H locs hP hD hS
  have hF0 := mF.sub (L' := [(18, .int 0), (19, .int 0), (20, .int (-1)), (21, .int 0), (22, .int 0), (23, .int 0), (24, .int 0), (25, .int 0), (27, .int 0), (28, .int 0), (29, .int 0), (35, .int 0), (17, .int (-1)), (26, .ref qfed), (30, .ref qf), (31, .ref qfd), (33, .ref qs), (36, .ref qk)]) hF_h0 [1, 2, 3, 4, 5, 6, 7, 8, 9, 10, 11, 12, 13, 14, 15, 16, 17, 18] rfl
  have hF1 := mF.put hF0 0 (.int 0) (by decide) rfl
  replace hP : va_P (dC, dI) vwCl [(h0, .inr (15, (fs_h0.set 0 (.int 0))))] H := hP
  replace hD : va_D A [(h0, .inr (15, (fs_h0.set 0 (.int 0))))] := hD
  generalize fs_h0.set 0 (.int 0) = fs_1 at hP hD hF1
  replace hF_h0 : mF 89 [(0, .int 0), (18, .int 0), (19, .int 0), (20, .int (-1)), (21, .int 0), (22, .int 0), (23, .int 0), (24, .int 0), (25, .int 0), (27, .int 0), (28, .int 0), (29, .int 0), (35, .int 0), (17, .int (-1)), (26, .ref qfed), (30, .ref qf), (31, .ref qfd), (33, .ref qs), (36, .ref qk)] fs_1 := hF1
  clear hF1 hF0
  replace hP : va_P (dC, dI) vwCl [(h0, .inr (15, fs_1))] H := hP
  replace hD : va_D A [(h0, .inr (15, fs_1))] := hD
  refine lv_aload_n hx hb dX15_shifted_5 rfl (lv_at hl 0 rfl) ?_
  refine lv_aload_n hx hb dX15_shifted_6 rfl (lv_at hl 0 rfl) ?_
  refine va_get (D := (dC, dI)) (ci := 15) (v := .int 0) (C := RX15) (T := TX15) (N := 89) hx hb hts (in_m_shifted_X15) hown hK hP 0 rfl rfl 28 (by decide) (hts (.fieldLink RX15 443 "MotionSignsModel" "kind" "I") (List.mem_of_getElem? (i := 2) rfl)) (fun _ h9 => h9) (mF.get hF_h0 10 rfl) dX15_shifted_7 ?_
  refine lv_if_ne (tgt := 17) hx hb dX15_shifted_10 (by decide) (fun hc => absurd (by decide) hc) (fun _ => ?_)
  refine lv_iconst (v := 1) hx hb dX15_shifted_13 (by decide) ?_
  refine lv_goto (tgt := 18) hx hb dX15_shifted_14 (by decide) ?_
  refine lv_iconst (v := 2) hx hb dX15_shifted_18 (by decide) ?_
  have hPc := hP.sub (ws' := [(h0, .inr (15, fs_1))]) [0] rfl
  have hDc := hD.sub (ws' := [(h0, .inr (15, fs_1))]) [0] (by decide) rfl
  have hKc := hK.sub (tys' := []) [] rfl
  have hFc := va_free (wc := [(h0, .inr (15, fs_1))]) hD hS hA [0] rfl
  refine va_calli (va_runV (As := [.int 1, .int 2]) (rest := []) ⟨hx, hb, hml, hown, hts⟩ (c_m_bad2 l dC dI h0 qfed qf qfd qs qk fs_1 (mF.sub hF_h0 [0, 1, 2, 3, 4, 5, 6, 7, 8, 9, 10, 11, 12, 13, 14, 15, 16, 17, 18] rfl) H.size) (cwV 2 hts g_m_shifted_m_bad2_424 rfl rfl rfl hv_X15_bad ⟨Nat.le_of_ble_eq_true rfl, Nat.le_of_ble_eq_true rfl⟩) ⟨fun a U g mk q => by obtain ⟨q0, q1, qP, qK, qD, qE0⟩ := q; exact ⟨q0, q1, qP, va_K.moved (u := U) (U := U.calling g mk a) (Vm.Alike.refl U.vm) qK, qD, w_N.same rfl qE0⟩, va_recv hKc hPc (ci := 15) (q0 := 0) rfl rfl, fun U hU hW => ⟨rfl, by rw [hU], by rw [hU]; exact hPc, va_K.moved hW.alike hKc, hDc.weaken (fun _ _ _ _ => trivial), w_N.warm hW hN⟩⟩ rfl rfl hl.1 rfl (lv_room (Nat.le_of_ble_eq_true rfl)) dX15_shifted_19 ⟨(Nat.le_of_ble_eq_true rfl), (Nat.le_of_ble_eq_true rfl)⟩) hS (fun q _ h => hFc q h) hFc (fun r_2 u t H1 locs1 ht hvm hw hB hz1 hk1 hS1 => ?_)
  obtain ⟨fs_3, hP1, hK1, hD1, hp_4⟩ := hB
  rw [ht] at hP1
  have hK1 := va_K.moved hvm.symm hK1
  have hJ := va_join (wr := []) (w1 := [(h0, .inr (15, fs_3))]) hP hD [0] [] rfl rfl (by decide) (by decide) hk1 hFc hP1 hD1
  clear hP hD hPc hDc hKc hFc hz1; try clear hk1
  obtain ⟨hP, hD⟩ := hJ
  replace hK := (hK.sub (tys' := []) [] rfl).app (hK1.sub (tys' := []) [] rfl)
  clear hP1 hK1 hD1 hvm ht hS; try clear t
  try clear H
  revert hS1
  intro hS
  generalize H1 = H at hP hS ⊢; try clear H1
  replace hP : va_P (dC, dI) vwCl [(h0, .inr (15, fs_3))] H := hP
  replace hD : va_D A [(h0, .inr (15, fs_3))] := hD
  replace hK : va_K (dC, dI) vwCl [] s := hK
  have hw_5 : r_2 = 1 := hw; clear hw
  subst hw_5
  refine lv_if_ne (tgt := 72) hx hb dX15_shifted_22 (by decide) (fun _ => ?_) (fun hc => absurd hc (by decide))
  refine lv_iconst (v := 0) hx hb dX15_shifted_72 (by decide) ?_
  have hP9 := hP.sub (ws' := [(h0, .inr (15, fs_3))]) [0] rfl
  have hD9 := hD.sub (ws' := [(h0, .inr (15, fs_3))]) [0] (by decide) rfl
  have hK9 := hK.sub (tys' := []) [] rfl
  rw [← hAe] at hD9
  refine W.widen (k := 0) (n := 0) (Nat.le_of_ble_eq_true rfl) (Nat.le_of_ble_eq_true rfl) ?_
  subst hAe
  exact (W.iret (v := 0) hx hb hr (fun t ht hW => ⟨⟨0, (), rfl, trivial, fs_3, by rw [ht]; exact hP9, va_K.moved hW.alike hK9, hD9, (mF.sub hp_4 [0] rfl)⟩, hS.F ht⟩) hS.2.2 dX15_shifted_73)
def wv_m_stretched : List Cond := .code yX15_stretched cX15_stretched 6 (some .int) :: ([.fieldLink RX15 296 "MotionSignsModel" "thrown" "I", .fieldLink RX15 443 "MotionSignsModel" "kind" "I", .methodLink RX15 424 yX15_bad, .instanceMethod yX15_bad, .selects RX15 yX15_bad yX15_bad, .initialized RX15] ++ (wsX150 ++ (wv_m_bad3 ++ ([]))))
theorem gw_m_stretched : wv_m_stretched.all goodWord = true := by decide +kernel
theorem in_m_stretched_X15 : ∀ w ∈ wsX150, w ∈ wv_m_stretched := fun _ h => List.mem_cons_of_mem _ (List.mem_append_right _ (List.mem_append_left _ h))
theorem g_m_stretched_m_bad3_424 : GoodIn wv_m_stretched (wsV RX15 424 RX15 yX15_bad wv_m_bad3) := goodIn_app (goodIn_of _ (by decide +kernel)) (goodIn_sub (fun _ h => List.mem_cons_of_mem _ (List.mem_append_right _ (List.mem_append_right _ (List.mem_append_left _ h)))) gw_m_bad3)
set_option maxHeartbeats 4000000 in
set_option maxRecDepth 100000 in
/-- the reference: stretched on a fresh object -/
theorem c_m_stretched (l : Launch) (dC : Nat → ClassId) (dI : Nat → Nat → Nat) (h0 : Nat) (qfed : Nat) (qf : Nat) (qfd : Nat) (qs : Nat) (qk : Nat) (x0 : Int32) (x1 : Int32) (fs_h0 : List Value) (hF_h0 : mF 89 [(0, .int 0), (18, .int 0), (19, .int 0), (20, .int (-1)), (21, .int 0), (22, .int 0), (23, .int 0), (24, .int 0), (25, .int 0), (27, .int 0), (28, .int 0), (29, .int 0), (35, .int 0), (17, .int (-1)), (26, .ref qfed), (30, .ref qf), (31, .ref qfd), (33, .ref qs), (36, .ref qk)] fs_h0) (sz : Nat) : Met l yX15_stretched wv_m_stretched ({ frames := 1, cells := 0, slots := 0, locals := 22 }) (va_Pc [.ref h0, .int x0, .int x1] (fun U => U.heap.size = sz ∧ va_P (dC, dI) vwCl [(h0, .inr (15, fs_h0))] U.heap ∧ va_K (dC, dI) vwCl [] U ∧ va_D (fun _ => True) [(h0, .inr (15, fs_h0))] ∧ w_N U)) (va_Qi (fun (r : Int32) (_ : Unit) => True) (fun _ t => ∃ (fs_e : List Value), va_P (dC, dI) vwCl [(h0, .inr (15, fs_e))] t.heap ∧ va_K (dC, dI) vwCl [] t ∧ va_D (va_A [(h0, .inr (15, fs_h0))] sz) [(h0, .inr (15, fs_e))] ∧ mF 89 [(0, .int 3)] fs_e) (va_A [(h0, .inr (15, fs_h0))] sz)) 0 0 (va_A [(h0, .inr (15, fs_h0))] sz) := by
  refine Met.ofW (cc := cX15_stretched) (maxL := 6) (ret := (some .int)) (by decide) rfl ?_
  intro p e s m args below meth c s₁ B hml hv
  obtain ⟨rfl, hsz, hP, hK, hD0, hN⟩ := hv
  have hx := B.exec
  have hb := B.bytes
  have hr := B.returns
  have hts := atoms_spec (ws := wv_m_stretched) B.pre
  have hown : s.vm.findClass RX15 = some m.cls := findClass_of_methodNamed B.named
  have hlocks := B.notSynchronized
  subst hsz
  have hD := hD0.self (sz := s.heap.size)
  generalize hAe : va_A [(h0, .inr (15, fs_h0))] s.heap.size = A at hD ⊢
  have hA : ∀ q : Nat, s.heap.size ≤ q → A q := fun q h => by rw [← hAe]; exact Or.inr h
  obtain ⟨H, hHe, hP, hS⟩ : ∃ H : Heap, H = s.heap ∧ va_P (dC, dI) vwCl [(h0, .inr (15, fs_h0))] H ∧ va_S A s.heap H [] := ⟨s.heap, rfl, hP, va_S.rf⟩
  have hl := lv_entry ([.ref h0, .int x0, .int x1]) (n := 6) (Nat.le_of_ble_eq_true rfl)
  rw [lg_entry_eq]
  generalize (lg_sl ([.ref h0, .int x0, .int x1]) ++ List.replicate (6 - (lg_sl ([.ref h0, .int x0, .int x1])).length) Slot.unset).toArray = ls at hl ⊢
  have hl : lv_has ls 6 [(0, .ref h0), (1, .int x0), (2, .int x1)] := hl
  rw [← hHe]; clear hHe
  refine lv_aload_n hx hb dX15_stretched_0 rfl (lv_at hl 0 rfl) ?_
  refine lv_iconst (v := 0) hx hb dX15_stretched_1 (by decide) ?_
  refine va_put (D := (dC, dI)) (ci := 15) (v := .int 0) (ty := .int) (C := RX15) (T := TX15) (N := 89) hx hb hts (in_m_stretched_X15) tyX15 tyX15_ok nmX15 hown hK hP hD hS 0 rfl rfl 0 (by decide) (hts (.fieldLink RX15 296 "MotionSignsModel" "thrown" "I") (List.mem_of_getElem? (i := 1) rfl)) (fun _ h9 => h9) rfl (tyX15_ok 0 (by decide)) rfl rfl (mF.lt hF_h0 (by decide)) dX15_stretched_2 ?_
  clear hP hD hS; try clear H
  intro H locs hP hD hS
  have hF0 := mF.sub (L' := [(18, .int 0), (19, .int 0), (20, .int (-1)), (21, .int 0), (22, .int 0), (23, .int 0), (24, .int 0), (25, .int 0), (27, .int 0), (28, .int 0), (29, .int 0), (35, .int 0), (17, .int (-1)), (26, .ref qfed), (30, .ref qf), (31, .ref qfd), (33, .ref qs), (36, .ref qk)]) hF_h0 [1, 2, 3, 4, 5, 6, 7, 8, 9, 10, 11, 12, 13, 14, 15, 16, 17, 18] rfl
  have hF1 := mF.put hF0 0 (.int 0) (by decide) rfl
  replace hP : va_P (dC, dI) vwCl [(h0, .inr (15, (fs_h0.set 0 (.int 0))))] H := hP
  replace hD : va_D A [(h0, .inr (15, (fs_h0.set 0 (.int 0))))] := hD
  generalize fs_h0.set 0 (.int 0) = fs_1 at hP hD hF1
  replace hF_h0 : mF 89 [(0, .int 0), (18, .int 0), (19, .int 0), (20, .int (-1)), (21, .int 0), (22, .int 0), (23, .int 0), (24, .int 0), (25, .int 0), (27, .int 0), (28, .int 0), (29, .int 0), (35, .int 0), (17, .int (-1)), (26, .ref qfed), (30, .ref qf), (31, .ref qfd), (33, .ref qs), (36, .ref qk)] fs_1 := hF1
  clear hF1 hF0
  replace hP : va_P (dC, dI) vwCl [(h0, .inr (15, fs_1))] H := hP
  replace hD : va_D A [(h0, .inr (15, fs_1))] := hD
  refine lv_aload_n hx hb dX15_stretched_5 rfl (lv_at hl 0 rfl) ?_
  refine lv_aload_n hx hb dX15_stretched_6 rfl (lv_at hl 0 rfl) ?_
  refine va_get (D := (dC, dI)) (ci := 15) (v := .int 0) (C := RX15) (T := TX15) (N := 89) hx hb hts (in_m_stretched_X15) hown hK hP 0 rfl rfl 28 (by decide) (hts (.fieldLink RX15 443 "MotionSignsModel" "kind" "I") (List.mem_of_getElem? (i := 2) rfl)) (fun _ h9 => h9) (mF.get hF_h0 10 rfl) dX15_stretched_7 ?_
  refine lv_if_ne (tgt := 17) hx hb dX15_stretched_10 (by decide) (fun hc => absurd (by decide) hc) (fun _ => ?_)
  refine lv_iconst (v := 1) hx hb dX15_stretched_13 (by decide) ?_
  refine lv_goto (tgt := 18) hx hb dX15_stretched_14 (by decide) ?_
  refine lv_iconst (v := 3) hx hb dX15_stretched_18 (by decide) ?_
  have hPc := hP.sub (ws' := [(h0, .inr (15, fs_1))]) [0] rfl
  have hDc := hD.sub (ws' := [(h0, .inr (15, fs_1))]) [0] (by decide) rfl
  have hKc := hK.sub (tys' := []) [] rfl
  have hFc := va_free (wc := [(h0, .inr (15, fs_1))]) hD hS hA [0] rfl
  refine va_calli (va_runV (As := [.int 1, .int 3]) (rest := []) ⟨hx, hb, hml, hown, hts⟩ (c_m_bad3 l dC dI h0 qfed qf qfd qs qk fs_1 (mF.sub hF_h0 [0, 1, 2, 3, 4, 5, 6, 7, 8, 9, 10, 11, 12, 13, 14, 15, 16, 17, 18] rfl) H.size) (cwV 2 hts g_m_stretched_m_bad3_424 rfl rfl rfl hv_X15_bad ⟨Nat.le_of_ble_eq_true rfl, Nat.le_of_ble_eq_true rfl⟩) ⟨fun a U g mk q => by obtain ⟨q0, q1, qP, qK, qD, qE0⟩ := q; exact ⟨q0, q1, qP, va_K.moved (u := U) (U := U.calling g mk a) (Vm.Alike.refl U.vm) qK, qD, w_N.same rfl qE0⟩, va_recv hKc hPc (ci := 15) (q0 := 0) rfl rfl, fun U hU hW => ⟨rfl, by rw [hU], by rw [hU]; exact hPc, va_K.moved hW.alike hKc, hDc.weaken (fun _ _ _ _ => trivial), w_N.warm hW hN⟩⟩ rfl rfl hl.1 rfl (lv_room (Nat.le_of_ble_eq_true rfl)) dX15_stretched_19 ⟨(Nat.le_of_ble_eq_true rfl), (Nat.le_of_ble_eq_true rfl)⟩) hS (fun q _ h => hFc q h) hFc (fun r_2 u t H1 locs1 ht hvm hw hB hz1 hk1 hS1 => ?_)
  obtain ⟨fs_3, hP1, hK1, hD1, hp_4⟩ := hB
  rw [ht] at hP1
  have hK1 := va_K.moved hvm.symm hK1
  have hJ := va_join (wr := []) (w1 := [(h0, .inr (15, fs_3))]) hP hD [0] [] rfl rfl (by decide) (by decide) hk1 hFc hP1 hD1
  clear hP hD hPc hDc hKc hFc hz1; try clear hk1
  obtain ⟨hP, hD⟩ := hJ
  replace hK := (hK.sub (tys' := []) [] rfl).app (hK1.sub (tys' := []) [] rfl)
  clear hP1 hK1 hD1 hvm ht hS; try clear t
  try clear H
  revert hS1
  intro hS
  generalize H1 = H at hP hS ⊢; try clear H1
  replace hP : va_P (dC, dI) vwCl [(h0, .inr (15, fs_3))] H := hP
  replace hD : va_D A [(h0, .inr (15, fs_3))] := hD
  replace hK : va_K (dC, dI) vwCl [] s := hK
  have hw_5 : r_2 = 1 := hw; clear hw
  subst hw_5
  refine lv_if_eq (tgt := 27) hx hb dX15_stretched_22 (by decide) (fun hc => absurd hc (by decide)) (fun _ => ?_)
  refine lv_iconst (v := 0) hx hb dX15_stretched_25 (by decide) ?_
  have hP9 := hP.sub (ws' := [(h0, .inr (15, fs_3))]) [0] rfl
  have hD9 := hD.sub (ws' := [(h0, .inr (15, fs_3))]) [0] (by decide) rfl
  have hK9 := hK.sub (tys' := []) [] rfl
  rw [← hAe] at hD9
  refine W.widen (k := 0) (n := 0) (Nat.le_of_ble_eq_true rfl) (Nat.le_of_ble_eq_true rfl) ?_
  subst hAe
  exact (W.iret (v := 0) hx hb hr (fun t ht hW => ⟨⟨0, (), rfl, trivial, fs_3, by rw [ht]; exact hP9, va_K.moved hW.alike hK9, hD9, (mF.sub hp_4 [0] rfl)⟩, hS.F ht⟩) hS.2.2 dX15_stretched_26)
def wv_m_wave : List Cond := .code yX15_wave cX15_wave 6 (some .int) :: ([.fieldLink RX15 296 "MotionSignsModel" "thrown" "I", .fieldLink RX15 443 "MotionSignsModel" "kind" "I", .methodLink RX15 424 yX15_bad, .instanceMethod yX15_bad, .selects RX15 yX15_bad yX15_bad, .initialized RX15] ++ (wsX150 ++ (wv_m_bad2 ++ ([]))))
theorem gw_m_wave : wv_m_wave.all goodWord = true := by decide +kernel
theorem in_m_wave_X15 : ∀ w ∈ wsX150, w ∈ wv_m_wave := fun _ h => List.mem_cons_of_mem _ (List.mem_append_right _ (List.mem_append_left _ h))
theorem g_m_wave_m_bad2_424 : GoodIn wv_m_wave (wsV RX15 424 RX15 yX15_bad wv_m_bad2) := goodIn_app (goodIn_of _ (by decide +kernel)) (goodIn_sub (fun _ h => List.mem_cons_of_mem _ (List.mem_append_right _ (List.mem_append_right _ (List.mem_append_left _ h)))) gw_m_bad2)
set_option maxHeartbeats 4000000 in
set_option maxRecDepth 100000 in
/-- the reference: wave on a fresh object -/
theorem c_m_wave (l : Launch) (dC : Nat → ClassId) (dI : Nat → Nat → Nat) (h0 : Nat) (qfed : Nat) (qf : Nat) (qfd : Nat) (qs : Nat) (qk : Nat) (x0 : Int32) (x1 : Int32) (fs_h0 : List Value) (hF_h0 : mF 89 [(0, .int 0), (18, .int 0), (19, .int 0), (20, .int (-1)), (21, .int 0), (22, .int 0), (23, .int 0), (24, .int 0), (25, .int 0), (27, .int 0), (28, .int 0), (29, .int 0), (35, .int 0), (17, .int (-1)), (26, .ref qfed), (30, .ref qf), (31, .ref qfd), (33, .ref qs), (36, .ref qk)] fs_h0) (sz : Nat) : Met l yX15_wave wv_m_wave ({ frames := 1, cells := 0, slots := 0, locals := 22 }) (va_Pc [.ref h0, .int x0, .int x1] (fun U => U.heap.size = sz ∧ va_P (dC, dI) vwCl [(h0, .inr (15, fs_h0))] U.heap ∧ va_K (dC, dI) vwCl [] U ∧ va_D (fun _ => True) [(h0, .inr (15, fs_h0))] ∧ w_N U)) (va_Qi (fun (r : Int32) (_ : Unit) => True) (fun _ t => ∃ (fs_e : List Value), va_P (dC, dI) vwCl [(h0, .inr (15, fs_e))] t.heap ∧ va_K (dC, dI) vwCl [] t ∧ va_D (va_A [(h0, .inr (15, fs_h0))] sz) [(h0, .inr (15, fs_e))] ∧ mF 89 [(0, .int 2)] fs_e) (va_A [(h0, .inr (15, fs_h0))] sz)) 0 0 (va_A [(h0, .inr (15, fs_h0))] sz) := by
  refine Met.ofW (cc := cX15_wave) (maxL := 6) (ret := (some .int)) (by decide) rfl ?_
  intro p e s m args below meth c s₁ B hml hv
  obtain ⟨rfl, hsz, hP, hK, hD0, hN⟩ := hv
  have hx := B.exec
  have hb := B.bytes
  have hr := B.returns
  have hts := atoms_spec (ws := wv_m_wave) B.pre
  have hown : s.vm.findClass RX15 = some m.cls := findClass_of_methodNamed B.named
  have hlocks := B.notSynchronized
  subst hsz
  have hD := hD0.self (sz := s.heap.size)
  generalize hAe : va_A [(h0, .inr (15, fs_h0))] s.heap.size = A at hD ⊢
  have hA : ∀ q : Nat, s.heap.size ≤ q → A q := fun q h => by rw [← hAe]; exact Or.inr h
  obtain ⟨H, hHe, hP, hS⟩ : ∃ H : Heap, H = s.heap ∧ va_P (dC, dI) vwCl [(h0, .inr (15, fs_h0))] H ∧ va_S A s.heap H [] := ⟨s.heap, rfl, hP, va_S.rf⟩
  have hl := lv_entry ([.ref h0, .int x0, .int x1]) (n := 6) (Nat.le_of_ble_eq_true rfl)
  rw [lg_entry_eq]
  generalize (lg_sl ([.ref h0, .int x0, .int x1]) ++ List.replicate (6 - (lg_sl ([.ref h0, .int x0, .int x1])).length) Slot.unset).toArray = ls at hl ⊢
  have hl : lv_has ls 6 [(0, .ref h0), (1, .int x0), (2, .int x1)] := hl
  rw [← hHe]; clear hHe
  refine lv_aload_n hx hb dX15_wave_0 rfl (lv_at hl 0 rfl) ?_
  refine lv_iconst (v := 0) hx hb dX15_wave_1 (by decide) ?_
  refine va_put (D := (dC, dI)) (ci := 15) (v := .int 0) (ty := .int) (C := RX15) (T := TX15) (N := 89) hx hb hts (in_m_wave_X15) tyX15 tyX15_ok nmX15 hown hK hP hD hS 0 rfl rfl 0 (by decide) (hts (.fieldLink RX15 296 "MotionSignsModel" "thrown" "I") (List.mem_of_getElem? (i := 1) rfl)) (fun _ h9 => h9) rfl (tyX15_ok 0 (by decide)) rfl rfl (mF.lt hF_h0 (by decide)) dX15_wave_2 ?_
  clear hP hD hS; try clear H
  intro H locs hP hD hS
  have hF0 := mF.sub (L' := [(18, .int 0), (19, .int 0), (20, .int (-1)), (21, .int 0), (22, .int 0), (23, .int 0), (24, .int 0), (25, .int 0), (27, .int 0), (28, .int 0), (29, .int 0), (35, .int 0), (17, .int (-1)), (26, .ref qfed), (30, .ref qf), (31, .ref qfd), (33, .ref qs), (36, .ref qk)]) hF_h0 [1, 2, 3, 4, 5, 6, 7, 8, 9, 10, 11, 12, 13, 14, 15, 16, 17, 18] rfl
  have hF1 := mF.put hF0 0 (.int 0) (by decide) rfl
  replace hP : va_P (dC, dI) vwCl [(h0, .inr (15, (fs_h0.set 0 (.int 0))))] H := hP
  replace hD : va_D A [(h0, .inr (15, (fs_h0.set 0 (.int 0))))] := hD
  generalize fs_h0.set 0 (.int 0) = fs_1 at hP hD hF1
  replace hF_h0 : mF 89 [(0, .int 0), (18, .int 0), (19, .int 0), (20, .int (-1)), (21, .int 0), (22, .int 0), (23, .int 0), (24, .int 0), (25, .int 0), (27, .int 0), (28, .int 0), (29, .int 0), (35, .int 0), (17, .int (-1)), (26, .ref qfed), (30, .ref qf), (31, .ref qfd), (33, .ref qs), (36, .ref qk)] fs_1 := hF1
  clear hF1 hF0
  replace hP : va_P (dC, dI) vwCl [(h0, .inr (15, fs_1))] H := hP
  replace hD : va_D A [(h0, .inr (15, fs_1))] := hD
  refine lv_aload_n hx hb dX15_wave_5 rfl (lv_at hl 0 rfl) ?_
  refine lv_aload_n hx hb dX15_wave_6 rfl (lv_at hl 0 rfl) ?_
  refine va_get (D := (dC, dI)) (ci := 15) (v := .int 0) (C := RX15) (T := TX15) (N := 89) hx hb hts (in_m_wave_X15) hown hK hP 0 rfl rfl 28 (by decide) (hts (.fieldLink RX15 443 "MotionSignsModel" "kind" "I") (List.mem_of_getElem? (i := 2) rfl)) (fun _ h9 => h9) (mF.get hF_h0 10 rfl) dX15_wave_7 ?_
  refine lv_if_ne (tgt := 17) hx hb dX15_wave_10 (by decide) (fun hc => absurd (by decide) hc) (fun _ => ?_)
  refine lv_iconst (v := 1) hx hb dX15_wave_13 (by decide) ?_
  refine lv_goto (tgt := 18) hx hb dX15_wave_14 (by decide) ?_
  refine lv_iconst (v := 2) hx hb dX15_wave_18 (by decide) ?_
  have hPc := hP.sub (ws' := [(h0, .inr (15, fs_1))]) [0] rfl
  have hDc := hD.sub (ws' := [(h0, .inr (15, fs_1))]) [0] (by decide) rfl
  have hKc := hK.sub (tys' := []) [] rfl
  have hFc := va_free (wc := [(h0, .inr (15, fs_1))]) hD hS hA [0] rfl
  refine va_calli (va_runV (As := [.int 1, .int 2]) (rest := []) ⟨hx, hb, hml, hown, hts⟩ (c_m_bad2 l dC dI h0 qfed qf qfd qs qk fs_1 (mF.sub hF_h0 [0, 1, 2, 3, 4, 5, 6, 7, 8, 9, 10, 11, 12, 13, 14, 15, 16, 17, 18] rfl) H.size) (cwV 2 hts g_m_wave_m_bad2_424 rfl rfl rfl hv_X15_bad ⟨Nat.le_of_ble_eq_true rfl, Nat.le_of_ble_eq_true rfl⟩) ⟨fun a U g mk q => by obtain ⟨q0, q1, qP, qK, qD, qE0⟩ := q; exact ⟨q0, q1, qP, va_K.moved (u := U) (U := U.calling g mk a) (Vm.Alike.refl U.vm) qK, qD, w_N.same rfl qE0⟩, va_recv hKc hPc (ci := 15) (q0 := 0) rfl rfl, fun U hU hW => ⟨rfl, by rw [hU], by rw [hU]; exact hPc, va_K.moved hW.alike hKc, hDc.weaken (fun _ _ _ _ => trivial), w_N.warm hW hN⟩⟩ rfl rfl hl.1 rfl (lv_room (Nat.le_of_ble_eq_true rfl)) dX15_wave_19 ⟨(Nat.le_of_ble_eq_true rfl), (Nat.le_of_ble_eq_true rfl)⟩) hS (fun q _ h => hFc q h) hFc (fun r_2 u t H1 locs1 ht hvm hw hB hz1 hk1 hS1 => ?_)
  obtain ⟨fs_3, hP1, hK1, hD1, hp_4⟩ := hB
  rw [ht] at hP1
  have hK1 := va_K.moved hvm.symm hK1
  have hJ := va_join (wr := []) (w1 := [(h0, .inr (15, fs_3))]) hP hD [0] [] rfl rfl (by decide) (by decide) hk1 hFc hP1 hD1
  clear hP hD hPc hDc hKc hFc hz1; try clear hk1
  obtain ⟨hP, hD⟩ := hJ
  replace hK := (hK.sub (tys' := []) [] rfl).app (hK1.sub (tys' := []) [] rfl)
  clear hP1 hK1 hD1 hvm ht hS; try clear t
  try clear H
  revert hS1
  intro hS
  generalize H1 = H at hP hS ⊢; try clear H1
  replace hP : va_P (dC, dI) vwCl [(h0, .inr (15, fs_3))] H := hP
  replace hD : va_D A [(h0, .inr (15, fs_3))] := hD
  replace hK : va_K (dC, dI) vwCl [] s := hK
  have hw_5 : r_2 = 1 := hw; clear hw
  subst hw_5
  refine lv_if_eq (tgt := 27) hx hb dX15_wave_22 (by decide) (fun hc => absurd hc (by decide)) (fun _ => ?_)
  refine lv_iconst (v := 0) hx hb dX15_wave_25 (by decide) ?_
  have hP9 := hP.sub (ws' := [(h0, .inr (15, fs_3))]) [0] rfl
  have hD9 := hD.sub (ws' := [(h0, .inr (15, fs_3))]) [0] (by decide) rfl
  have hK9 := hK.sub (tys' := []) [] rfl
  rw [← hAe] at hD9
  refine W.widen (k := 0) (n := 0) (Nat.le_of_ble_eq_true rfl) (Nat.le_of_ble_eq_true rfl) ?_
  subst hAe
  exact (W.iret (v := 0) hx hb hr (fun t ht hW => ⟨⟨0, (), rfl, trivial, fs_3, by rw [ht]; exact hP9, va_K.moved hW.alike hK9, hD9, (mF.sub hp_4 [0] rfl)⟩, hS.F ht⟩) hS.2.2 dX15_wave_26)
def wv_m_lines : List Cond := .code yX15_lines cX15_lines 4 (some .int) :: ([.fieldLink RX15 296 "MotionSignsModel" "thrown" "I", .fieldLink RX15 443 "MotionSignsModel" "kind" "I", .methodLink RX15 424 yX15_bad, .instanceMethod yX15_bad, .selects RX15 yX15_bad yX15_bad, .initialized RX15] ++ (wsX150 ++ (wv_m_bad2 ++ ([]))))
theorem gw_m_lines : wv_m_lines.all goodWord = true := by decide +kernel
theorem in_m_lines_X15 : ∀ w ∈ wsX150, w ∈ wv_m_lines := fun _ h => List.mem_cons_of_mem _ (List.mem_append_right _ (List.mem_append_left _ h))
theorem g_m_lines_m_bad2_424 : GoodIn wv_m_lines (wsV RX15 424 RX15 yX15_bad wv_m_bad2) := goodIn_app (goodIn_of _ (by decide +kernel)) (goodIn_sub (fun _ h => List.mem_cons_of_mem _ (List.mem_append_right _ (List.mem_append_right _ (List.mem_append_left _ h)))) gw_m_bad2)
set_option maxHeartbeats 4000000 in
set_option maxRecDepth 100000 in
/-- the reference: lines on a fresh object -/
theorem c_m_lines (l : Launch) (dC : Nat → ClassId) (dI : Nat → Nat → Nat) (h0 : Nat) (qfed : Nat) (qf : Nat) (qfd : Nat) (qs : Nat) (qk : Nat) (x0 : Int32) (fs_h0 : List Value) (hF_h0 : mF 89 [(0, .int 0), (18, .int 0), (19, .int 0), (20, .int (-1)), (21, .int 0), (22, .int 0), (23, .int 0), (24, .int 0), (25, .int 0), (27, .int 0), (28, .int 0), (29, .int 0), (35, .int 0), (17, .int (-1)), (26, .ref qfed), (30, .ref qf), (31, .ref qfd), (33, .ref qs), (36, .ref qk)] fs_h0) (sz : Nat) : Met l yX15_lines wv_m_lines ({ frames := 1, cells := 0, slots := 0, locals := 22 }) (va_Pc [.ref h0, .int x0] (fun U => U.heap.size = sz ∧ va_P (dC, dI) vwCl [(h0, .inr (15, fs_h0))] U.heap ∧ va_K (dC, dI) vwCl [] U ∧ va_D (fun _ => True) [(h0, .inr (15, fs_h0))] ∧ w_N U)) (va_Qi (fun (r : Int32) (_ : Unit) => True) (fun _ t => ∃ (fs_e : List Value), va_P (dC, dI) vwCl [(h0, .inr (15, fs_e))] t.heap ∧ va_K (dC, dI) vwCl [] t ∧ va_D (va_A [(h0, .inr (15, fs_h0))] sz) [(h0, .inr (15, fs_e))] ∧ mF 89 [(0, .int 2)] fs_e) (va_A [(h0, .inr (15, fs_h0))] sz)) 0 0 (va_A [(h0, .inr (15, fs_h0))] sz) := by
  refine Met.ofW (cc := cX15_lines) (maxL := 4) (ret := (some .int)) (by decide) rfl ?_
  intro p e s m args below meth c s₁ B hml hv
  obtain ⟨rfl, hsz, hP, hK, hD0, hN⟩ := hv
  have hx := B.exec
  have hb := B.bytes
  have hr := B.returns
  have hts := atoms_spec (ws := wv_m_lines) B.pre
  have hown : s.vm.findClass RX15 = some m.cls := findClass_of_methodNamed B.named
  have hlocks := B.notSynchronized
  subst hsz
  have hD := hD0.self (sz := s.heap.size)
  generalize hAe : va_A [(h0, .inr (15, fs_h0))] s.heap.size = A at hD ⊢
  have hA : ∀ q : Nat, s.heap.size ≤ q → A q := fun q h => by rw [← hAe]; exact Or.inr h
  obtain ⟨H, hHe, hP, hS⟩ : ∃ H : Heap, H = s.heap ∧ va_P (dC, dI) vwCl [(h0, .inr (15, fs_h0))] H ∧ va_S A s.heap H [] := ⟨s.heap, rfl, hP, va_S.rf⟩
  have hl := lv_entry ([.ref h0, .int x0]) (n := 4) (Nat.le_of_ble_eq_true rfl)
  rw [lg_entry_eq]
  generalize (lg_sl ([.ref h0, .int x0]) ++ List.replicate (4 - (lg_sl ([.ref h0, .int x0])).length) Slot.unset).toArray = ls at hl ⊢
  have hl : lv_has ls 4 [(0, .ref h0), (1, .int x0)] := hl
  rw [← hHe]; clear hHe
  refine lv_aload_n hx hb dX15_lines_0 rfl (lv_at hl 0 rfl) ?_
  refine lv_iconst (v := 0) hx hb dX15_lines_1 (by decide) ?_
  refine va_put (D := (dC, dI)) (ci := 15) (v := .int 0) (ty := .int) (C := RX15) (T := TX15) (N := 89) hx hb hts (in_m_lines_X15) tyX15 tyX15_ok nmX15 hown hK hP hD hS 0 rfl rfl 0 (by decide) (hts (.fieldLink RX15 296 "MotionSignsModel" "thrown" "I") (List.mem_of_getElem? (i := 1) rfl)) (fun _ h9 => h9) rfl (tyX15_ok 0 (by decide)) rfl rfl (mF.lt hF_h0 (by decide)) dX15_lines_2 ?_
  clear hP hD hS; try clear H
  intro H locs hP hD hS
  have hF0 := mF.sub (L' := [(18, .int 0), (19, .int 0), (20, .int (-1)), (21, .int 0), (22, .int 0), (23, .int 0), (24, .int 0), (25, .int 0), (27, .int 0), (28, .int 0), (29, .int 0), (35, .int 0), (17, .int (-1)), (26, .ref qfed), (30, .ref qf), (31, .ref qfd), (33, .ref qs), (36, .ref qk)]) hF_h0 [1, 2, 3, 4, 5, 6, 7, 8, 9, 10, 11, 12, 13, 14, 15, 16, 17, 18] rfl
  have hF1 := mF.put hF0 0 (.int 0) (by decide) rfl
  replace hP : va_P (dC, dI) vwCl [(h0, .inr (15, (fs_h0.set 0 (.int 0))))] H := hP
  replace hD : va_D A [(h0, .inr (15, (fs_h0.set 0 (.int 0))))] := hD
  generalize fs_h0.set 0 (.int 0) = fs_1 at hP hD hF1
  replace hF_h0 : mF 89 [(0, .int 0), (18, .int 0), (19, .int 0), (20, .int (-1)), (21, .int 0), (22, .int 0), (23, .int 0), (24, .int 0), (25, .int 0), (27, .int 0), (28, .int 0), (29, .int 0), (35, .int 0), (17, .int (-1)), (26, .ref qfed), (30, .ref qf), (31, .ref qfd), (33, .ref qs), (36, .ref qk)] fs_1 := hF1
  clear hF1 hF0
  replace hP : va_P (dC, dI) vwCl [(h0, .inr (15, fs_1))] H := hP
  replace hD : va_D A [(h0, .inr (15, fs_1))] := hD
  refine lv_aload_n hx hb dX15_lines_5 rfl (lv_at hl 0 rfl) ?_
  refine lv_aload_n hx hb dX15_lines_6 rfl (lv_at hl 0 rfl) ?_
  refine va_get (D := (dC, dI)) (ci := 15) (v := .int 0) (C := RX15) (T := TX15) (N := 89) hx hb hts (in_m_lines_X15) hown hK hP 0 rfl rfl 28 (by decide) (hts (.fieldLink RX15 443 "MotionSignsModel" "kind" "I") (List.mem_of_getElem? (i := 2) rfl)) (fun _ h9 => h9) (mF.get hF_h0 10 rfl) dX15_lines_7 ?_
  refine lv_if_ne (tgt := 17) hx hb dX15_lines_10 (by decide) (fun hc => absurd (by decide) hc) (fun _ => ?_)
  refine lv_iconst (v := 1) hx hb dX15_lines_13 (by decide) ?_
  refine lv_goto (tgt := 18) hx hb dX15_lines_14 (by decide) ?_
  refine lv_iconst (v := 2) hx hb dX15_lines_18 (by decide) ?_
  have hPc := hP.sub (ws' := [(h0, .inr (15, fs_1))]) [0] rfl
  have hDc := hD.sub (ws' := [(h0, .inr (15, fs_1))]) [0] (by decide) rfl
  have hKc := hK.sub (tys' := []) [] rfl
  have hFc := va_free (wc := [(h0, .inr (15, fs_1))]) hD hS hA [0] rfl
  refine va_calli (va_runV (As := [.int 1, .int 2]) (rest := []) ⟨hx, hb, hml, hown, hts⟩ (c_m_bad2 l dC dI h0 qfed qf qfd qs qk fs_1 (mF.sub hF_h0 [0, 1, 2, 3, 4, 5, 6, 7, 8, 9, 10, 11, 12, 13, 14, 15, 16, 17, 18] rfl) H.size) (cwV 2 hts g_m_lines_m_bad2_424 rfl rfl rfl hv_X15_bad ⟨Nat.le_of_ble_eq_true rfl, Nat.le_of_ble_eq_true rfl⟩) ⟨fun a U g mk q => by obtain ⟨q0, q1, qP, qK, qD, qE0⟩ := q; exact ⟨q0, q1, qP, va_K.moved (u := U) (U := U.calling g mk a) (Vm.Alike.refl U.vm) qK, qD, w_N.same rfl qE0⟩, va_recv hKc hPc (ci := 15) (q0 := 0) rfl rfl, fun U hU hW => ⟨rfl, by rw [hU], by rw [hU]; exact hPc, va_K.moved hW.alike hKc, hDc.weaken (fun _ _ _ _ => trivial), w_N.warm hW hN⟩⟩ rfl rfl hl.1 rfl (lv_room (Nat.le_of_ble_eq_true rfl)) dX15_lines_19 ⟨(Nat.le_of_ble_eq_true rfl), (Nat.le_of_ble_eq_true rfl)⟩) hS (fun q _ h => hFc q h) hFc (fun r_2 u t H1 locs1 ht hvm hw hB hz1 hk1 hS1 => ?_)
  obtain ⟨fs_3, hP1, hK1, hD1, hp_4⟩ := hB
  rw [ht] at hP1
  have hK1 := va_K.moved hvm.symm hK1
  have hJ := va_join (wr := []) (w1 := [(h0, .inr (15, fs_3))]) hP hD [0] [] rfl rfl (by decide) (by decide) hk1 hFc hP1 hD1
  clear hP hD hPc hDc hKc hFc hz1; try clear hk1
  obtain ⟨hP, hD⟩ := hJ
  replace hK := (hK.sub (tys' := []) [] rfl).app (hK1.sub (tys' := []) [] rfl)
  clear hP1 hK1 hD1 hvm ht hS; try clear t
  try clear H
  revert hS1
  intro hS
  generalize H1 = H at hP hS ⊢; try clear H1
  replace hP : va_P (dC, dI) vwCl [(h0, .inr (15, fs_3))] H := hP
  replace hD : va_D A [(h0, .inr (15, fs_3))] := hD
  replace hK : va_K (dC, dI) vwCl [] s := hK
  have hw_5 : r_2 = 1 := hw; clear hw
  subst hw_5
  refine lv_if_ne (tgt := 55) hx hb dX15_lines_22 (by decide) (fun _ => ?_) (fun hc => absurd hc (by decide))
  refine lv_iconst (v := 0) hx hb dX15_lines_55 (by decide) ?_
  have hP9 := hP.sub (ws' := [(h0, .inr (15, fs_3))]) [0] rfl
  have hD9 := hD.sub (ws' := [(h0, .inr (15, fs_3))]) [0] (by decide) rfl
  have hK9 := hK.sub (tys' := []) [] rfl
  rw [← hAe] at hD9
  refine W.widen (k := 0) (n := 0) (Nat.le_of_ble_eq_true rfl) (Nat.le_of_ble_eq_true rfl) ?_
  subst hAe
  exact (W.iret (v := 0) hx hb hr (fun t ht hW => ⟨⟨0, (), rfl, trivial, fs_3, by rw [ht]; exact hP9, va_K.moved hW.alike hK9, hD9, (mF.sub hp_4 [0] rfl)⟩, hS.F ht⟩) hS.2.2 dX15_lines_56)
def wv_m_field : List Cond := .code yX15_field cX15_field 5 (some .int) :: ([.fieldLink RX15 296 "MotionSignsModel" "thrown" "I", .fieldLink RX15 443 "MotionSignsModel" "kind" "I", .methodLink RX15 424 yX15_bad, .instanceMethod yX15_bad, .selects RX15 yX15_bad yX15_bad, .initialized RX15] ++ (wsX150 ++ (wv_m_bad2 ++ ([]))))
theorem gw_m_field : wv_m_field.all goodWord = true := by decide +kernel
theorem in_m_field_X15 : ∀ w ∈ wsX150, w ∈ wv_m_field := fun _ h => List.mem_cons_of_mem _ (List.mem_append_right _ (List.mem_append_left _ h))
theorem g_m_field_m_bad2_424 : GoodIn wv_m_field (wsV RX15 424 RX15 yX15_bad wv_m_bad2) := goodIn_app (goodIn_of _ (by decide +kernel)) (goodIn_sub (fun _ h => List.mem_cons_of_mem _ (List.mem_append_right _ (List.mem_append_right _ (List.mem_append_left _ h)))) gw_m_bad2)
set_option maxHeartbeats 4000000 in
set_option maxRecDepth 100000 in
/-- the reference: field on a fresh object -/
theorem c_m_field (l : Launch) (dC : Nat → ClassId) (dI : Nat → Nat → Nat) (h0 : Nat) (qfed : Nat) (qf : Nat) (qfd : Nat) (qs : Nat) (qk : Nat) (x0 : Int32) (fs_h0 : List Value) (hF_h0 : mF 89 [(0, .int 0), (18, .int 0), (19, .int 0), (20, .int (-1)), (21, .int 0), (22, .int 0), (23, .int 0), (24, .int 0), (25, .int 0), (27, .int 0), (28, .int 0), (29, .int 0), (35, .int 0), (17, .int (-1)), (26, .ref qfed), (30, .ref qf), (31, .ref qfd), (33, .ref qs), (36, .ref qk)] fs_h0) (sz : Nat) : Met l yX15_field wv_m_field ({ frames := 1, cells := 0, slots := 0, locals := 22 }) (va_Pc [.ref h0, .int x0] (fun U => U.heap.size = sz ∧ va_P (dC, dI) vwCl [(h0, .inr (15, fs_h0))] U.heap ∧ va_K (dC, dI) vwCl [] U ∧ va_D (fun _ => True) [(h0, .inr (15, fs_h0))] ∧ w_N U)) (va_Qi (fun (r : Int32) (_ : Unit) => True) (fun _ t => ∃ (fs_e : List Value), va_P (dC, dI) vwCl [(h0, .inr (15, fs_e))] t.heap ∧ va_K (dC, dI) vwCl [] t ∧ va_D (va_A [(h0, .inr (15, fs_h0))] sz) [(h0, .inr (15, fs_e))] ∧ mF 89 [(0, .int 2)] fs_e) (va_A [(h0, .inr (15, fs_h0))] sz)) 0 0 (va_A [(h0, .inr (15, fs_h0))] sz) := by
  refine Met.ofW (cc := cX15_field) (maxL := 5) (ret := (some .int)) (by decide) rfl ?_
  intro p e s m args below meth c s₁ B hml hv
  obtain ⟨rfl, hsz, hP, hK, hD0, hN⟩ := hv
  have hx := B.exec
  have hb := B.bytes
  have hr := B.returns
  have hts := atoms_spec (ws := wv_m_field) B.pre
  have hown : s.vm.findClass RX15 = some m.cls := findClass_of_methodNamed B.named
  have hlocks := B.notSynchronized
  subst hsz
  have hD := hD0.self (sz := s.heap.size)
  generalize hAe : va_A [(h0, .inr (15, fs_h0))] s.heap.size = A at hD ⊢
  have hA : ∀ q : Nat, s.heap.size ≤ q → A q := fun q h => by rw [← hAe]; exact Or.inr h
  obtain ⟨H, hHe, hP, hS⟩ : ∃ H : Heap, H = s.heap ∧ va_P (dC, dI) vwCl [(h0, .inr (15, fs_h0))] H ∧ va_S A s.heap H [] := ⟨s.heap, rfl, hP, va_S.rf⟩
  have hl := lv_entry ([.ref h0, .int x0]) (n := 5) (Nat.le_of_ble_eq_true rfl)
  rw [lg_entry_eq]
  generalize (lg_sl ([.ref h0, .int x0]) ++ List.replicate (5 - (lg_sl ([.ref h0, .int x0])).length) Slot.unset).toArray = ls at hl ⊢
  have hl : lv_has ls 5 [(0, .ref h0), (1, .int x0)] := hl
  rw [← hHe]; clear hHe
  refine lv_aload_n hx hb dX15_field_0 rfl (lv_at hl 0 rfl) ?_
  refine lv_iconst (v := 0) hx hb dX15_field_1 (by decide) ?_
  refine va_put (D := (dC, dI)) (ci := 15) (v := .int 0) (ty := .int) (C := RX15) (T := TX15) (N := 89) hx hb hts (in_m_field_X15) tyX15 tyX15_ok nmX15 hown hK hP hD hS 0 rfl rfl 0 (by decide) (hts (.fieldLink RX15 296 "MotionSignsModel" "thrown" "I") (List.mem_of_getElem? (i := 1) rfl)) (fun _ h9 => h9) rfl (tyX15_ok 0 (by decide)) rfl rfl (mF.lt hF_h0 (by decide)) dX15_field_2 ?_
  clear hP hD hS; try clear H
  intro H locs hP hD hS
  have hF0 := mF.sub (L' := [(18, .int 0), (19, .int 0), (20, .int (-1)), (21, .int 0), (22, .int 0), (23, .int 0), (24, .int 0), (25, .int 0), (27, .int 0), (28, .int 0), (29, .int 0), (35, .int 0), (17, .int (-1)), (26, .ref qfed), (30, .ref qf), (31, .ref qfd), (33, .ref qs), (36, .ref qk)]) hF_h0 [1, 2, 3, 4, 5, 6, 7, 8, 9, 10, 11, 12, 13, 14, 15, 16, 17, 18] rfl
  have hF1 := mF.put hF0 0 (.int 0) (by decide) rfl
  replace hP : va_P (dC, dI) vwCl [(h0, .inr (15, (fs_h0.set 0 (.int 0))))] H := hP
  replace hD : va_D A [(h0, .inr (15, (fs_h0.set 0 (.int 0))))] := hD
  generalize fs_h0.set 0 (.int 0) = fs_1 at hP hD hF1
  replace hF_h0 : mF 89 [(0, .int 0), (18, .int 0), (19, .int 0), (20, .int (-1)), (21, .int 0), (22, .int 0), (23, .int 0), (24, .int 0), (25, .int 0), (27, .int 0), (28, .int 0), (29, .int 0), (35, .int 0), (17, .int (-1)), (26, .ref qfed), (30, .ref qf), (31, .ref qfd), (33, .ref qs), (36, .ref qk)] fs_1 := hF1
  clear hF1 hF0
  replace hP : va_P (dC, dI) vwCl [(h0, .inr (15, fs_1))] H := hP
  replace hD : va_D A [(h0, .inr (15, fs_1))] := hD
  refine lv_aload_n hx hb dX15_field_5 rfl (lv_at hl 0 rfl) ?_
  refine lv_aload_n hx hb dX15_field_6 rfl (lv_at hl 0 rfl) ?_
  refine va_get (D := (dC, dI)) (ci := 15) (v := .int 0) (C := RX15) (T := TX15) (N := 89) hx hb hts (in_m_field_X15) hown hK hP 0 rfl rfl 28 (by decide) (hts (.fieldLink RX15 443 "MotionSignsModel" "kind" "I") (List.mem_of_getElem? (i := 2) rfl)) (fun _ h9 => h9) (mF.get hF_h0 10 rfl) dX15_field_7 ?_
  refine lv_if_ne (tgt := 17) hx hb dX15_field_10 (by decide) (fun hc => absurd (by decide) hc) (fun _ => ?_)
  refine lv_iconst (v := 1) hx hb dX15_field_13 (by decide) ?_
  refine lv_goto (tgt := 18) hx hb dX15_field_14 (by decide) ?_
  refine lv_iconst (v := 2) hx hb dX15_field_18 (by decide) ?_
  have hPc := hP.sub (ws' := [(h0, .inr (15, fs_1))]) [0] rfl
  have hDc := hD.sub (ws' := [(h0, .inr (15, fs_1))]) [0] (by decide) rfl
  have hKc := hK.sub (tys' := []) [] rfl
  have hFc := va_free (wc := [(h0, .inr (15, fs_1))]) hD hS hA [0] rfl
  refine va_calli (va_runV (As := [.int 1, .int 2]) (rest := []) ⟨hx, hb, hml, hown, hts⟩ (c_m_bad2 l dC dI h0 qfed qf qfd qs qk fs_1 (mF.sub hF_h0 [0, 1, 2, 3, 4, 5, 6, 7, 8, 9, 10, 11, 12, 13, 14, 15, 16, 17, 18] rfl) H.size) (cwV 2 hts g_m_field_m_bad2_424 rfl rfl rfl hv_X15_bad ⟨Nat.le_of_ble_eq_true rfl, Nat.le_of_ble_eq_true rfl⟩) ⟨fun a U g mk q => by obtain ⟨q0, q1, qP, qK, qD, qE0⟩ := q; exact ⟨q0, q1, qP, va_K.moved (u := U) (U := U.calling g mk a) (Vm.Alike.refl U.vm) qK, qD, w_N.same rfl qE0⟩, va_recv hKc hPc (ci := 15) (q0 := 0) rfl rfl, fun U hU hW => ⟨rfl, by rw [hU], by rw [hU]; exact hPc, va_K.moved hW.alike hKc, hDc.weaken (fun _ _ _ _ => trivial), w_N.warm hW hN⟩⟩ rfl rfl hl.1 rfl (lv_room (Nat.le_of_ble_eq_true rfl)) dX15_field_19 ⟨(Nat.le_of_ble_eq_true rfl), (Nat.le_of_ble_eq_true rfl)⟩) hS (fun q _ h => hFc q h) hFc (fun r_2 u t H1 locs1 ht hvm hw hB hz1 hk1 hS1 => ?_)
  obtain ⟨fs_3, hP1, hK1, hD1, hp_4⟩ := hB
  rw [ht] at hP1
  have hK1 := va_K.moved hvm.symm hK1
  have hJ := va_join (wr := []) (w1 := [(h0, .inr (15, fs_3))]) hP hD [0] [] rfl rfl (by decide) (by decide) hk1 hFc hP1 hD1
  clear hP hD hPc hDc hKc hFc hz1; try clear hk1
  obtain ⟨hP, hD⟩ := hJ
  replace hK := (hK.sub (tys' := []) [] rfl).app (hK1.sub (tys' := []) [] rfl)
  clear hP1 hK1 hD1 hvm ht hS; try clear t
  try clear H
  revert hS1
  intro hS
  generalize H1 = H at hP hS ⊢; try clear H1
  replace hP : va_P (dC, dI) vwCl [(h0, .inr (15, fs_3))] H := hP
  replace hD : va_D A [(h0, .inr (15, fs_3))] := hD
  replace hK : va_K (dC, dI) vwCl [] s := hK
  have hw_5 : r_2 = 1 := hw; clear hw
  subst hw_5
  refine lv_if_ne (tgt := 50) hx hb dX15_field_22 (by decide) (fun _ => ?_) (fun hc => absurd hc (by decide))
  refine lv_iconst (v := 0) hx hb dX15_field_50 (by decide) ?_
  have hP9 := hP.sub (ws' := [(h0, .inr (15, fs_3))]) [0] rfl
  have hD9 := hD.sub (ws' := [(h0, .inr (15, fs_3))]) [0] (by decide) rfl
  have hK9 := hK.sub (tys' := []) [] rfl
  rw [← hAe] at hD9
  refine W.widen (k := 0) (n := 0) (Nat.le_of_ble_eq_true rfl) (Nat.le_of_ble_eq_true rfl) ?_
  subst hAe
  exact (W.iret (v := 0) hx hb hr (fun t ht hW => ⟨⟨0, (), rfl, trivial, fs_3, by rw [ht]; exact hP9, va_K.moved hW.alike hK9, hD9, (mF.sub hp_4 [0] rfl)⟩, hS.F ht⟩) hS.2.2 dX15_field_51)
def wv_m_solution : List Cond := .code yX15_solution cX15_solution 2 (some .int) :: ([.fieldLink RX15 296 "MotionSignsModel" "thrown" "I", .fieldLink RX15 443 "MotionSignsModel" "kind" "I", .methodLink RX15 424 yX15_bad, .instanceMethod yX15_bad, .selects RX15 yX15_bad yX15_bad, .initialized RX15] ++ (wsX150 ++ (wv_m_bad2 ++ ([]))))
theorem gw_m_solution : wv_m_solution.all goodWord = true := by decide +kernel
theorem in_m_solution_X15 : ∀ w ∈ wsX150, w ∈ wv_m_solution := fun _ h => List.mem_cons_of_mem _ (List.mem_append_right _ (List.mem_append_left _ h))
theorem g_m_solution_m_bad2_424 : GoodIn wv_m_solution (wsV RX15 424 RX15 yX15_bad wv_m_bad2) := goodIn_app (goodIn_of _ (by decide +kernel)) (goodIn_sub (fun _ h => List.mem_cons_of_mem _ (List.mem_append_right _ (List.mem_append_right _ (List.mem_append_left _ h)))) gw_m_bad2)
set_option maxHeartbeats 4000000 in
set_option maxRecDepth 100000 in
/-- the reference: solution on a fresh object -/
theorem c_m_solution (l : Launch) (dC : Nat → ClassId) (dI : Nat → Nat → Nat) (h0 : Nat) (qfed : Nat) (qf : Nat) (qfd : Nat) (qs : Nat) (qk : Nat) (x0 : Int32) (fs_h0 : List Value) (hF_h0 : mF 89 [(0, .int 0), (18, .int 0), (19, .int 0), (20, .int (-1)), (21, .int 0), (22, .int 0), (23, .int 0), (24, .int 0), (25, .int 0), (27, .int 0), (28, .int 0), (29, .int 0), (35, .int 0), (17, .int (-1)), (26, .ref qfed), (30, .ref qf), (31, .ref qfd), (33, .ref qs), (36, .ref qk)] fs_h0) (sz : Nat) : Met l yX15_solution wv_m_solution ({ frames := 1, cells := 0, slots := 0, locals := 22 }) (va_Pc [.ref h0, .int x0] (fun U => U.heap.size = sz ∧ va_P (dC, dI) vwCl [(h0, .inr (15, fs_h0))] U.heap ∧ va_K (dC, dI) vwCl [] U ∧ va_D (fun _ => True) [(h0, .inr (15, fs_h0))] ∧ w_N U)) (va_Qi (fun (r : Int32) (_ : Unit) => True) (fun _ t => ∃ (fs_e : List Value), va_P (dC, dI) vwCl [(h0, .inr (15, fs_e))] t.heap ∧ va_K (dC, dI) vwCl [] t ∧ va_D (va_A [(h0, .inr (15, fs_h0))] sz) [(h0, .inr (15, fs_e))] ∧ mF 89 [(0, .int 2)] fs_e) (va_A [(h0, .inr (15, fs_h0))] sz)) 0 0 (va_A [(h0, .inr (15, fs_h0))] sz) := by
  refine Met.ofW (cc := cX15_solution) (maxL := 2) (ret := (some .int)) (by decide) rfl ?_
  intro p e s m args below meth c s₁ B hml hv
  obtain ⟨rfl, hsz, hP, hK, hD0, hN⟩ := hv
  have hx := B.exec
  have hb := B.bytes
  have hr := B.returns
  have hts := atoms_spec (ws := wv_m_solution) B.pre
  have hown : s.vm.findClass RX15 = some m.cls := findClass_of_methodNamed B.named
  have hlocks := B.notSynchronized
  subst hsz
  have hD := hD0.self (sz := s.heap.size)
  generalize hAe : va_A [(h0, .inr (15, fs_h0))] s.heap.size = A at hD ⊢
  have hA : ∀ q : Nat, s.heap.size ≤ q → A q := fun q h => by rw [← hAe]; exact Or.inr h
  obtain ⟨H, hHe, hP, hS⟩ : ∃ H : Heap, H = s.heap ∧ va_P (dC, dI) vwCl [(h0, .inr (15, fs_h0))] H ∧ va_S A s.heap H [] := ⟨s.heap, rfl, hP, va_S.rf⟩
  have hl := lv_entry ([.ref h0, .int x0]) (n := 2) (Nat.le_of_ble_eq_true rfl)
  rw [lg_entry_eq]
  generalize (lg_sl ([.ref h0, .int x0]) ++ List.replicate (2 - (lg_sl ([.ref h0, .int x0])).length) Slot.unset).toArray = ls at hl ⊢
  have hl : lv_has ls 2 [(0, .ref h0), (1, .int x0)] := hl
  rw [← hHe]; clear hHe
  refine lv_aload_n hx hb dX15_solution_0 rfl (lv_at hl 0 rfl) ?_
  refine lv_iconst (v := 0) hx hb dX15_solution_1 (by decide) ?_
  refine va_put (D := (dC, dI)) (ci := 15) (v := .int 0) (ty := .int) (C := RX15) (T := TX15) (N := 89) hx hb hts (in_m_solution_X15) tyX15 tyX15_ok nmX15 hown hK hP hD hS 0 rfl rfl 0 (by decide) (hts (.fieldLink RX15 296 "MotionSignsModel" "thrown" "I") (List.mem_of_getElem? (i := 1) rfl)) (fun _ h9 => h9) rfl (tyX15_ok 0 (by decide)) rfl rfl (mF.lt hF_h0 (by decide)) dX15_solution_2 ?_
  clear hP hD hS; try clear H
  intro H locs hP hD hS
  have hF0 := mF.sub (L' := [(18, .int 0), (19, .int 0), (20, .int (-1)), (21, .int 0), (22, .int 0), (23, .int 0), (24, .int 0), (25, .int 0), (27, .int 0), (28, .int 0), (29, .int 0), (35, .int 0), (17, .int (-1)), (26, .ref qfed), (30, .ref qf), (31, .ref qfd), (33, .ref qs), (36, .ref qk)]) hF_h0 [1, 2, 3, 4, 5, 6, 7, 8, 9, 10, 11, 12, 13, 14, 15, 16, 17, 18] rfl
  have hF1 := mF.put hF0 0 (.int 0) (by decide) rfl
  replace hP : va_P (dC, dI) vwCl [(h0, .inr (15, (fs_h0.set 0 (.int 0))))] H := hP
  replace hD : va_D A [(h0, .inr (15, (fs_h0.set 0 (.int 0))))] := hD
  generalize fs_h0.set 0 (.int 0) = fs_1 at hP hD hF1
  replace hF_h0 : mF 89 [(0, .int 0), (18, .int 0), (19, .int 0), (20, .int (-1)), (21, .int 0), (22, .int 0), (23, .int 0), (24, .int 0), (25, .int 0), (27, .int 0), (28, .int 0), (29, .int 0), (35, .int 0), (17, .int (-1)), (26, .ref qfed), (30, .ref qf), (31, .ref qfd), (33, .ref qs), (36, .ref qk)] fs_1 := hF1
  clear hF1 hF0
  replace hP : va_P (dC, dI) vwCl [(h0, .inr (15, fs_1))] H := hP
  replace hD : va_D A [(h0, .inr (15, fs_1))] := hD
  refine lv_aload_n hx hb dX15_solution_5 rfl (lv_at hl 0 rfl) ?_
  refine lv_aload_n hx hb dX15_solution_6 rfl (lv_at hl 0 rfl) ?_
  refine va_get (D := (dC, dI)) (ci := 15) (v := .int 0) (C := RX15) (T := TX15) (N := 89) hx hb hts (in_m_solution_X15) hown hK hP 0 rfl rfl 28 (by decide) (hts (.fieldLink RX15 443 "MotionSignsModel" "kind" "I") (List.mem_of_getElem? (i := 2) rfl)) (fun _ h9 => h9) (mF.get hF_h0 10 rfl) dX15_solution_7 ?_
  refine lv_if_ne (tgt := 17) hx hb dX15_solution_10 (by decide) (fun hc => absurd (by decide) hc) (fun _ => ?_)
  refine lv_iconst (v := 1) hx hb dX15_solution_13 (by decide) ?_
  refine lv_goto (tgt := 18) hx hb dX15_solution_14 (by decide) ?_
  refine lv_iconst (v := 2) hx hb dX15_solution_18 (by decide) ?_
  have hPc := hP.sub (ws' := [(h0, .inr (15, fs_1))]) [0] rfl
  have hDc := hD.sub (ws' := [(h0, .inr (15, fs_1))]) [0] (by decide) rfl
  have hKc := hK.sub (tys' := []) [] rfl
  have hFc := va_free (wc := [(h0, .inr (15, fs_1))]) hD hS hA [0] rfl
  refine va_calli (va_runV (As := [.int 1, .int 2]) (rest := []) ⟨hx, hb, hml, hown, hts⟩ (c_m_bad2 l dC dI h0 qfed qf qfd qs qk fs_1 (mF.sub hF_h0 [0, 1, 2, 3, 4, 5, 6, 7, 8, 9, 10, 11, 12, 13, 14, 15, 16, 17, 18] rfl) H.size) (cwV 2 hts g_m_solution_m_bad2_424 rfl rfl rfl hv_X15_bad ⟨Nat.le_of_ble_eq_true rfl, Nat.le_of_ble_eq_true rfl⟩) ⟨fun a U g mk q => by obtain ⟨q0, q1, qP, qK, qD, qE0⟩ := q; exact ⟨q0, q1, qP, va_K.moved (u := U) (U := U.calling g mk a) (Vm.Alike.refl U.vm) qK, qD, w_N.same rfl qE0⟩, va_recv hKc hPc (ci := 15) (q0 := 0) rfl rfl, fun U hU hW => ⟨rfl, by rw [hU], by rw [hU]; exact hPc, va_K.moved hW.alike hKc, hDc.weaken (fun _ _ _ _ => trivial), w_N.warm hW hN⟩⟩ rfl rfl hl.1 rfl (lv_room (Nat.le_of_ble_eq_true rfl)) dX15_solution_19 ⟨(Nat.le_of_ble_eq_true rfl), (Nat.le_of_ble_eq_true rfl)⟩) hS (fun q _ h => hFc q h) hFc (fun r_2 u t H1 locs1 ht hvm hw hB hz1 hk1 hS1 => ?_)
  obtain ⟨fs_3, hP1, hK1, hD1, hp_4⟩ := hB
  rw [ht] at hP1
  have hK1 := va_K.moved hvm.symm hK1
  have hJ := va_join (wr := []) (w1 := [(h0, .inr (15, fs_3))]) hP hD [0] [] rfl rfl (by decide) (by decide) hk1 hFc hP1 hD1
  clear hP hD hPc hDc hKc hFc hz1; try clear hk1
  obtain ⟨hP, hD⟩ := hJ
  replace hK := (hK.sub (tys' := []) [] rfl).app (hK1.sub (tys' := []) [] rfl)
  clear hP1 hK1 hD1 hvm ht hS; try clear t
  try clear H
  revert hS1
  intro hS
  generalize H1 = H at hP hS ⊢; try clear H1
  replace hP : va_P (dC, dI) vwCl [(h0, .inr (15, fs_3))] H := hP
  replace hD : va_D A [(h0, .inr (15, fs_3))] := hD
  replace hK : va_K (dC, dI) vwCl [] s := hK
  have hw_5 : r_2 = 1 := hw; clear hw
  subst hw_5
  refine lv_if_ne (tgt := 50) hx hb dX15_solution_22 (by decide) (fun _ => ?_) (fun hc => absurd hc (by decide))
  refine lv_iconst (v := 0) hx hb dX15_solution_50 (by decide) ?_
  have hP9 := hP.sub (ws' := [(h0, .inr (15, fs_3))]) [0] rfl
  have hD9 := hD.sub (ws' := [(h0, .inr (15, fs_3))]) [0] (by decide) rfl
  have hK9 := hK.sub (tys' := []) [] rfl
  rw [← hAe] at hD9
  refine W.widen (k := 0) (n := 0) (Nat.le_of_ble_eq_true rfl) (Nat.le_of_ble_eq_true rfl) ?_
  subst hAe
  exact (W.iret (v := 0) hx hb hr (fun t ht hW => ⟨⟨0, (), rfl, trivial, fs_3, by rw [ht]; exact hP9, va_K.moved hW.alike hK9, hD9, (mF.sub hp_4 [0] rfl)⟩, hS.F ht⟩) hS.2.2 dX15_solution_51)
def wv_m_fault : List Cond := .code yX15_fault cX15_fault 1 (some .int) :: ([.fieldLink RX15 296 "MotionSignsModel" "thrown" "I", .fieldLink RX15 121 "MotionSignsModel" "place" "I"] ++ (wsX150 ++ ([])))
theorem gw_m_fault : wv_m_fault.all goodWord = true := by decide +kernel
theorem in_m_fault_X15 : ∀ w ∈ wsX150, w ∈ wv_m_fault := fun _ h => List.mem_cons_of_mem _ (List.mem_append_right _ (List.mem_append_left _ h))
set_option maxHeartbeats 4000000 in
set_option maxRecDepth 100000 in
/-- the reference: fault on a fresh object -/
theorem c_m_fault (l : Launch) (dC : Nat → ClassId) (dI : Nat → Nat → Nat) (h0 : Nat) (qfed : Nat) (qf : Nat) (qfd : Nat) (qs : Nat) (qk : Nat) (fs_h0 : List Value) (hF_h0 : mF 89 [(0, .int 0), (18, .int 0), (19, .int 0), (20, .int (-1)), (21, .int 0), (22, .int 0), (23, .int 0), (24, .int 0), (25, .int 0), (27, .int 0), (28, .int 0), (29, .int 0), (35, .int 0), (17, .int (-1)), (26, .ref qfed), (30, .ref qf), (31, .ref qfd), (33, .ref qs), (36, .ref qk)] fs_h0) (sz : Nat) : Met l yX15_fault wv_m_fault ({ frames := 0, cells := 0, slots := 0, locals := 0 }) (va_Pc [.ref h0] (fun U => U.heap.size = sz ∧ va_P (dC, dI) vwCl [(h0, .inr (15, fs_h0))] U.heap ∧ va_K (dC, dI) vwCl [] U ∧ va_D (fun _ => True) [(h0, .inr (15, fs_h0))] ∧ w_N U)) (va_Qi (fun (r : Int32) (_ : Unit) => r = (-1)) (fun _ t => ∃ (fs_e : List Value), va_P (dC, dI) vwCl [(h0, .inr (15, fs_e))] t.heap ∧ va_K (dC, dI) vwCl [] t ∧ va_D (va_A [(h0, .inr (15, fs_h0))] sz) [(h0, .inr (15, fs_e))] ∧ mF 89 [(0, .int 0)] fs_e) (va_A [(h0, .inr (15, fs_h0))] sz)) 0 0 (va_A [(h0, .inr (15, fs_h0))] sz) := by
  refine Met.ofW (cc := cX15_fault) (maxL := 1) (ret := (some .int)) (by decide) rfl ?_
  intro p e s m args below meth c s₁ B hml hv
  obtain ⟨rfl, hsz, hP, hK, hD0, hN⟩ := hv
  have hx := B.exec
  have hb := B.bytes
  have hr := B.returns
  have hts := atoms_spec (ws := wv_m_fault) B.pre
  have hown : s.vm.findClass RX15 = some m.cls := findClass_of_methodNamed B.named
  have hlocks := B.notSynchronized
  subst hsz
  have hD := hD0.self (sz := s.heap.size)
  generalize hAe : va_A [(h0, .inr (15, fs_h0))] s.heap.size = A at hD ⊢
  have hA : ∀ q : Nat, s.heap.size ≤ q → A q := fun q h => by rw [← hAe]; exact Or.inr h
  obtain ⟨H, hHe, hP, hS⟩ : ∃ H : Heap, H = s.heap ∧ va_P (dC, dI) vwCl [(h0, .inr (15, fs_h0))] H ∧ va_S A s.heap H [] := ⟨s.heap, rfl, hP, va_S.rf⟩
  have hl := lv_entry ([.ref h0]) (n := 1) (Nat.le_of_ble_eq_true rfl)
  rw [lg_entry_eq]
  generalize (lg_sl ([.ref h0]) ++ List.replicate (1 - (lg_sl ([.ref h0])).length) Slot.unset).toArray = ls at hl ⊢
  have hl : lv_has ls 1 [(0, .ref h0)] := hl
  rw [← hHe]; clear hHe
  refine lv_aload_n hx hb dX15_fault_0 rfl (lv_at hl 0 rfl) ?_
  refine lv_iconst (v := 0) hx hb dX15_fault_1 (by decide) ?_
  refine va_put (D := (dC, dI)) (ci := 15) (v := .int 0) (ty := .int) (C := RX15) (T := TX15) (N := 89) hx hb hts (in_m_fault_X15) tyX15 tyX15_ok nmX15 hown hK hP hD hS 0 rfl rfl 0 (by decide) (hts (.fieldLink RX15 296 "MotionSignsModel" "thrown" "I") (List.mem_of_getElem? (i := 1) rfl)) (fun _ h9 => h9) rfl (tyX15_ok 0 (by decide)) rfl rfl (mF.lt hF_h0 (by decide)) dX15_fault_2 ?_
  clear hP hD hS; try clear H
  intro H locs hP hD hS
  have hF0 := mF.sub (L' := [(18, .int 0), (19, .int 0), (20, .int (-1)), (21, .int 0), (22, .int 0), (23, .int 0), (24, .int 0), (25, .int 0), (27, .int 0), (28, .int 0), (29, .int 0), (35, .int 0), (17, .int (-1)), (26, .ref qfed), (30, .ref qf), (31, .ref qfd), (33, .ref qs), (36, .ref qk)]) hF_h0 [1, 2, 3, 4, 5, 6, 7, 8, 9, 10, 11, 12, 13, 14, 15, 16, 17, 18] rfl
  have hF1 := mF.put hF0 0 (.int 0) (by decide) rfl
  replace hP : va_P (dC, dI) vwCl [(h0, .inr (15, (fs_h0.set 0 (.int 0))))] H := hP
  replace hD : va_D A [(h0, .inr (15, (fs_h0.set 0 (.int 0))))] := hD
  generalize fs_h0.set 0 (.int 0) = fs_1 at hP hD hF1
  replace hF_h0 : mF 89 [(0, .int 0), (18, .int 0), (19, .int 0), (20, .int (-1)), (21, .int 0), (22, .int 0), (23, .int 0), (24, .int 0), (25, .int 0), (27, .int 0), (28, .int 0), (29, .int 0), (35, .int 0), (17, .int (-1)), (26, .ref qfed), (30, .ref qf), (31, .ref qfd), (33, .ref qs), (36, .ref qk)] fs_1 := hF1
  clear hF1 hF0
  replace hP : va_P (dC, dI) vwCl [(h0, .inr (15, fs_1))] H := hP
  replace hD : va_D A [(h0, .inr (15, fs_1))] := hD
  refine lv_aload_n hx hb dX15_fault_5 rfl (lv_at hl 0 rfl) ?_
  refine va_get (D := (dC, dI)) (ci := 15) (v := .int (-1)) (C := RX15) (T := TX15) (N := 89) hx hb hts (in_m_fault_X15) hown hK hP 0 rfl rfl 20 (by decide) (hts (.fieldLink RX15 121 "MotionSignsModel" "place" "I") (List.mem_of_getElem? (i := 2) rfl)) (fun _ h9 => h9) (mF.get hF_h0 3 rfl) dX15_fault_6 ?_
  have hP9 := hP.sub (ws' := [(h0, .inr (15, fs_1))]) [0] rfl
  have hD9 := hD.sub (ws' := [(h0, .inr (15, fs_1))]) [0] (by decide) rfl
  have hK9 := hK.sub (tys' := []) [] rfl
  rw [← hAe] at hD9
  refine W.widen (k := 0) (n := 0) (Nat.le_of_ble_eq_true rfl) (Nat.le_of_ble_eq_true rfl) ?_
  subst hAe
  exact (W.iret (v := (-1)) hx hb hr (fun t ht hW => ⟨⟨(-1), (), rfl, rfl, fs_1, by rw [ht]; exact hP9, va_K.moved hW.alike hK9, hD9, (mF.sub hF_h0 [0] rfl)⟩, hS.F ht⟩) hS.2.2 dX15_fault_9)
def wv_m_restore : List Cond := .code yX15_restore cX15_restore 2 (some .int) :: ([.fieldLink RX15 296 "MotionSignsModel" "thrown" "I", .fieldLink RX15 450 "MotionSignsModel" "images" "I"] ++ (wsX150 ++ ([])))
theorem gw_m_restore : wv_m_restore.all goodWord = true := by decide +kernel
theorem in_m_restore_X15 : ∀ w ∈ wsX150, w ∈ wv_m_restore := fun _ h => List.mem_cons_of_mem _ (List.mem_append_right _ (List.mem_append_left _ h))
set_option maxHeartbeats 4000000 in
set_option maxRecDepth 100000 in
/-- the reference: restore on a fresh object -/
theorem c_m_restore (l : Launch) (dC : Nat → ClassId) (dI : Nat → Nat → Nat) (h0 : Nat) (qfed : Nat) (qf : Nat) (qfd : Nat) (qs : Nat) (qk : Nat) (fs_h0 : List Value) (hF_h0 : mF 89 [(0, .int 0), (18, .int 0), (19, .int 0), (20, .int (-1)), (21, .int 0), (22, .int 0), (23, .int 0), (24, .int 0), (25, .int 0), (27, .int 0), (28, .int 0), (29, .int 0), (35, .int 0), (17, .int (-1)), (26, .ref qfed), (30, .ref qf), (31, .ref qfd), (33, .ref qs), (36, .ref qk)] fs_h0) (sz : Nat) : Met l yX15_restore wv_m_restore ({ frames := 0, cells := 0, slots := 0, locals := 0 }) (va_Pc [.ref h0] (fun U => U.heap.size = sz ∧ va_P (dC, dI) vwCl [(h0, .inr (15, fs_h0))] U.heap ∧ va_K (dC, dI) vwCl [] U ∧ va_D (fun _ => True) [(h0, .inr (15, fs_h0))] ∧ w_N U)) (va_Qi (fun (r : Int32) (_ : Unit) => r = (-1)) (fun _ t => ∃ (fs_e : List Value), va_P (dC, dI) vwCl [(h0, .inr (15, fs_e))] t.heap ∧ va_K (dC, dI) vwCl [] t ∧ va_D (va_A [(h0, .inr (15, fs_h0))] sz) [(h0, .inr (15, fs_e))] ∧ mF 89 [(0, .int 0)] fs_e) (va_A [(h0, .inr (15, fs_h0))] sz)) 0 0 (va_A [(h0, .inr (15, fs_h0))] sz) := by
  refine Met.ofW (cc := cX15_restore) (maxL := 2) (ret := (some .int)) (by decide) rfl ?_
  intro p e s m args below meth c s₁ B hml hv
  obtain ⟨rfl, hsz, hP, hK, hD0, hN⟩ := hv
  have hx := B.exec
  have hb := B.bytes
  have hr := B.returns
  have hts := atoms_spec (ws := wv_m_restore) B.pre
  have hown : s.vm.findClass RX15 = some m.cls := findClass_of_methodNamed B.named
  have hlocks := B.notSynchronized
  subst hsz
  have hD := hD0.self (sz := s.heap.size)
  generalize hAe : va_A [(h0, .inr (15, fs_h0))] s.heap.size = A at hD ⊢
  have hA : ∀ q : Nat, s.heap.size ≤ q → A q := fun q h => by rw [← hAe]; exact Or.inr h
  obtain ⟨H, hHe, hP, hS⟩ : ∃ H : Heap, H = s.heap ∧ va_P (dC, dI) vwCl [(h0, .inr (15, fs_h0))] H ∧ va_S A s.heap H [] := ⟨s.heap, rfl, hP, va_S.rf⟩
  have hl := lv_entry ([.ref h0]) (n := 2) (Nat.le_of_ble_eq_true rfl)
  rw [lg_entry_eq]
  generalize (lg_sl ([.ref h0]) ++ List.replicate (2 - (lg_sl ([.ref h0])).length) Slot.unset).toArray = ls at hl ⊢
  have hl : lv_has ls 2 [(0, .ref h0)] := hl
  rw [← hHe]; clear hHe
  refine lv_aload_n hx hb dX15_restore_0 rfl (lv_at hl 0 rfl) ?_
  refine lv_iconst (v := 0) hx hb dX15_restore_1 (by decide) ?_
  refine va_put (D := (dC, dI)) (ci := 15) (v := .int 0) (ty := .int) (C := RX15) (T := TX15) (N := 89) hx hb hts (in_m_restore_X15) tyX15 tyX15_ok nmX15 hown hK hP hD hS 0 rfl rfl 0 (by decide) (hts (.fieldLink RX15 296 "MotionSignsModel" "thrown" "I") (List.mem_of_getElem? (i := 1) rfl)) (fun _ h9 => h9) rfl (tyX15_ok 0 (by decide)) rfl rfl (mF.lt hF_h0 (by decide)) dX15_restore_2 ?_
  clear hP hD hS; try clear H
  intro H locs hP hD hS
  have hF0 := mF.sub (L' := [(18, .int 0), (19, .int 0), (20, .int (-1)), (21, .int 0), (22, .int 0), (23, .int 0), (24, .int 0), (25, .int 0), (27, .int 0), (28, .int 0), (29, .int 0), (35, .int 0), (17, .int (-1)), (26, .ref qfed), (30, .ref qf), (31, .ref qfd), (33, .ref qs), (36, .ref qk)]) hF_h0 [1, 2, 3, 4, 5, 6, 7, 8, 9, 10, 11, 12, 13, 14, 15, 16, 17, 18] rfl
  have hF1 := mF.put hF0 0 (.int 0) (by decide) rfl
  replace hP : va_P (dC, dI) vwCl [(h0, .inr (15, (fs_h0.set 0 (.int 0))))] H := hP
  replace hD : va_D A [(h0, .inr (15, (fs_h0.set 0 (.int 0))))] := hD
  generalize fs_h0.set 0 (.int 0) = fs_1 at hP hD hF1
  replace hF_h0 : mF 89 [(0, .int 0), (18, .int 0), (19, .int 0), (20, .int (-1)), (21, .int 0), (22, .int 0), (23, .int 0), (24, .int 0), (25, .int 0), (27, .int 0), (28, .int 0), (29, .int 0), (35, .int 0), (17, .int (-1)), (26, .ref qfed), (30, .ref qf), (31, .ref qfd), (33, .ref qs), (36, .ref qk)] fs_1 := hF1
  clear hF1 hF0
  replace hP : va_P (dC, dI) vwCl [(h0, .inr (15, fs_1))] H := hP
  replace hD : va_D A [(h0, .inr (15, fs_1))] := hD
  refine lv_aload_n hx hb dX15_restore_5 rfl (lv_at hl 0 rfl) ?_
  refine va_get (D := (dC, dI)) (ci := 15) (v := .int 0) (C := RX15) (T := TX15) (N := 89) hx hb hts (in_m_restore_X15) hown hK hP 0 rfl rfl 35 (by decide) (hts (.fieldLink RX15 450 "MotionSignsModel" "images" "I") (List.mem_of_getElem? (i := 2) rfl)) (fun _ h9 => h9) (mF.get hF_h0 12 rfl) dX15_restore_6 ?_
  refine lv_if_ne (tgt := 14) hx hb dX15_restore_9 (by decide) (fun hc => absurd (by decide) hc) (fun _ => ?_)
  refine lv_iconst (v := -1) hx hb dX15_restore_12 (by decide) ?_
  have hP9 := hP.sub (ws' := [(h0, .inr (15, fs_1))]) [0] rfl
  have hD9 := hD.sub (ws' := [(h0, .inr (15, fs_1))]) [0] (by decide) rfl
  have hK9 := hK.sub (tys' := []) [] rfl
  rw [← hAe] at hD9
  refine W.widen (k := 0) (n := 0) (Nat.le_of_ble_eq_true rfl) (Nat.le_of_ble_eq_true rfl) ?_
  subst hAe
  exact (W.iret (v := (-1)) hx hb hr (fun t ht hW => ⟨⟨(-1), (), rfl, rfl, fs_1, by rw [ht]; exact hP9, va_K.moved hW.alike hK9, hD9, (mF.sub hF_h0 [0] rfl)⟩, hS.F ht⟩) hS.2.2 dX15_restore_13)
def wv_m_count : List Cond := .code yX15_count cX15_count 2 (some .int) :: ([.fieldLink RX15 296 "MotionSignsModel" "thrown" "I", .fieldLink RX15 299 "MotionSignsModel" "tape" "I", .fieldLink RX15 450 "MotionSignsModel" "images" "I"] ++ (wsX150 ++ ([])))
theorem gw_m_count : wv_m_count.all goodWord = true := by decide +kernel
theorem in_m_count_X15 : ∀ w ∈ wsX150, w ∈ wv_m_count := fun _ h => List.mem_cons_of_mem _ (List.mem_append_right _ (List.mem_append_left _ h))
set_option maxHeartbeats 4000000 in
set_option maxRecDepth 100000 in
/-- the reference: count on a fresh object -/
theorem c_m_count (l : Launch) (dC : Nat → ClassId) (dI : Nat → Nat → Nat) (h0 : Nat) (qfed : Nat) (qf : Nat) (qfd : Nat) (qs : Nat) (qk : Nat) (x0 : Int32) (fs_h0 : List Value) (hF_h0 : mF 89 [(0, .int 0), (18, .int 0), (19, .int 0), (20, .int (-1)), (21, .int 0), (22, .int 0), (23, .int 0), (24, .int 0), (25, .int 0), (27, .int 0), (28, .int 0), (29, .int 0), (35, .int 0), (17, .int (-1)), (26, .ref qfed), (30, .ref qf), (31, .ref qfd), (33, .ref qs), (36, .ref qk)] fs_h0) (sz : Nat) : Met l yX15_count wv_m_count ({ frames := 0, cells := 0, slots := 0, locals := 0 }) (va_Pc [.ref h0, .int x0] (fun U => U.heap.size = sz ∧ va_P (dC, dI) vwCl [(h0, .inr (15, fs_h0))] U.heap ∧ va_K (dC, dI) vwCl [] U ∧ va_D (fun _ => True) [(h0, .inr (15, fs_h0))] ∧ w_N U)) (va_Qi (fun (r : Int32) (_ : Unit) => r = kCount x0) (fun _ t => ∃ (fs_e : List Value), va_P (dC, dI) vwCl [(h0, .inr (15, fs_e))] t.heap ∧ va_K (dC, dI) vwCl [] t ∧ va_D (va_A [(h0, .inr (15, fs_h0))] sz) [(h0, .inr (15, fs_e))] ∧ mF 89 [(0, .int 0)] fs_e) (va_A [(h0, .inr (15, fs_h0))] sz)) 0 0 (va_A [(h0, .inr (15, fs_h0))] sz) := by
  refine Met.ofW (cc := cX15_count) (maxL := 2) (ret := (some .int)) (by decide) rfl ?_
  intro p e s m args below meth c s₁ B hml hv
  obtain ⟨rfl, hsz, hP, hK, hD0, hN⟩ := hv
  have hx := B.exec
  have hb := B.bytes
  have hr := B.returns
  have hts := atoms_spec (ws := wv_m_count) B.pre
  have hown : s.vm.findClass RX15 = some m.cls := findClass_of_methodNamed B.named
  have hlocks := B.notSynchronized
  subst hsz
  have hD := hD0.self (sz := s.heap.size)
  generalize hAe : va_A [(h0, .inr (15, fs_h0))] s.heap.size = A at hD ⊢
  have hA : ∀ q : Nat, s.heap.size ≤ q → A q := fun q h => by rw [← hAe]; exact Or.inr h
  obtain ⟨H, hHe, hP, hS⟩ : ∃ H : Heap, H = s.heap ∧ va_P (dC, dI) vwCl [(h0, .inr (15, fs_h0))] H ∧ va_S A s.heap H [] := ⟨s.heap, rfl, hP, va_S.rf⟩
  have hl := lv_entry ([.ref h0, .int x0]) (n := 2) (Nat.le_of_ble_eq_true rfl)
  rw [lg_entry_eq]
  generalize (lg_sl ([.ref h0, .int x0]) ++ List.replicate (2 - (lg_sl ([.ref h0, .int x0])).length) Slot.unset).toArray = ls at hl ⊢
  have hl : lv_has ls 2 [(0, .ref h0), (1, .int x0)] := hl
  rw [← hHe]; clear hHe
  refine lv_aload_n hx hb dX15_count_0 rfl (lv_at hl 0 rfl) ?_
  refine lv_iconst (v := 0) hx hb dX15_count_1 (by decide) ?_
  refine va_put (D := (dC, dI)) (ci := 15) (v := .int 0) (ty := .int) (C := RX15) (T := TX15) (N := 89) hx hb hts (in_m_count_X15) tyX15 tyX15_ok nmX15 hown hK hP hD hS 0 rfl rfl 0 (by decide) (hts (.fieldLink RX15 296 "MotionSignsModel" "thrown" "I") (List.mem_of_getElem? (i := 1) rfl)) (fun _ h9 => h9) rfl (tyX15_ok 0 (by decide)) rfl rfl (mF.lt hF_h0 (by decide)) dX15_count_2 ?_
  clear hP hD hS; try clear H
  intro H locs hP hD hS
  have hF0 := mF.sub (L' := [(18, .int 0), (19, .int 0), (20, .int (-1)), (21, .int 0), (22, .int 0), (23, .int 0), (24, .int 0), (25, .int 0), (27, .int 0), (28, .int 0), (29, .int 0), (35, .int 0), (17, .int (-1)), (26, .ref qfed), (30, .ref qf), (31, .ref qfd), (33, .ref qs), (36, .ref qk)]) hF_h0 [1, 2, 3, 4, 5, 6, 7, 8, 9, 10, 11, 12, 13, 14, 15, 16, 17, 18] rfl
  have hF1 := mF.put hF0 0 (.int 0) (by decide) rfl
  replace hP : va_P (dC, dI) vwCl [(h0, .inr (15, (fs_h0.set 0 (.int 0))))] H := hP
  replace hD : va_D A [(h0, .inr (15, (fs_h0.set 0 (.int 0))))] := hD
  generalize fs_h0.set 0 (.int 0) = fs_1 at hP hD hF1
  replace hF_h0 : mF 89 [(0, .int 0), (18, .int 0), (19, .int 0), (20, .int (-1)), (21, .int 0), (22, .int 0), (23, .int 0), (24, .int 0), (25, .int 0), (27, .int 0), (28, .int 0), (29, .int 0), (35, .int 0), (17, .int (-1)), (26, .ref qfed), (30, .ref qf), (31, .ref qfd), (33, .ref qs), (36, .ref qk)] fs_1 := hF1
  clear hF1 hF0
  replace hP : va_P (dC, dI) vwCl [(h0, .inr (15, fs_1))] H := hP
  replace hD : va_D A [(h0, .inr (15, fs_1))] := hD
  refine lv_iload_n hx hb dX15_count_5 rfl (lv_at hl 1 rfl) ?_
  refine lv_if_ne (tgt := 16) hx hb dX15_count_6 (by decide) (fun hc_2 => ?_) (fun hc_2 => ?_)
  · skip
    refine lv_iload_n hx hb dX15_count_16 rfl (lv_at hl 1 rfl) ?_
    refine lv_iconst (v := 1) hx hb dX15_count_17 (by decide) ?_
    refine lv_icmp_ne (tgt := 28) hx hb dX15_count_18 (by decide) (fun hc_3 => ?_) (fun hc_3 => ?_)
    · skip
      refine lv_iconst (v := -1) hx hb dX15_count_28 (by decide) ?_
      have hP9 := hP.sub (ws' := [(h0, .inr (15, fs_1))]) [0] rfl
      have hD9 := hD.sub (ws' := [(h0, .inr (15, fs_1))]) [0] (by decide) rfl
      have hK9 := hK.sub (tys' := []) [] rfl
      rw [← hAe] at hD9
      refine W.widen (k := 0) (n := 0) (Nat.le_of_ble_eq_true rfl) (Nat.le_of_ble_eq_true rfl) ?_
      subst hAe
      exact (W.iret (v := (-1)) hx hb hr (fun t ht hW => ⟨⟨(-1), (), rfl, (by simp [kCount, hc_2, hc_3]), fs_1, by rw [ht]; exact hP9, va_K.moved hW.alike hK9, hD9, (mF.sub hF_h0 [0] rfl)⟩, hS.F ht⟩) hS.2.2 dX15_count_29)
    · skip
      refine lv_aload_n hx hb dX15_count_21 rfl (lv_at hl 0 rfl) ?_
      refine va_get (D := (dC, dI)) (ci := 15) (v := .int 0) (C := RX15) (T := TX15) (N := 89) hx hb hts (in_m_count_X15) hown hK hP 0 rfl rfl 18 (by decide) (hts (.fieldLink RX15 299 "MotionSignsModel" "tape" "I") (List.mem_of_getElem? (i := 2) rfl)) (fun _ h9 => h9) (mF.get hF_h0 1 rfl) dX15_count_22 ?_
      refine lv_goto (tgt := 29) hx hb dX15_count_25 (by decide) ?_
      have hP9 := hP.sub (ws' := [(h0, .inr (15, fs_1))]) [0] rfl
      have hD9 := hD.sub (ws' := [(h0, .inr (15, fs_1))]) [0] (by decide) rfl
      have hK9 := hK.sub (tys' := []) [] rfl
      rw [← hAe] at hD9
      refine W.widen (k := 0) (n := 0) (Nat.le_of_ble_eq_true rfl) (Nat.le_of_ble_eq_true rfl) ?_
      subst hAe
      exact (W.iret (v := 0) hx hb hr (fun t ht hW => ⟨⟨0, (), rfl, (by simp [kCount, hc_2, hc_3]), fs_1, by rw [ht]; exact hP9, va_K.moved hW.alike hK9, hD9, (mF.sub hF_h0 [0] rfl)⟩, hS.F ht⟩) hS.2.2 dX15_count_29)
  · skip
    refine lv_aload_n hx hb dX15_count_9 rfl (lv_at hl 0 rfl) ?_
    refine va_get (D := (dC, dI)) (ci := 15) (v := .int 0) (C := RX15) (T := TX15) (N := 89) hx hb hts (in_m_count_X15) hown hK hP 0 rfl rfl 35 (by decide) (hts (.fieldLink RX15 450 "MotionSignsModel" "images" "I") (List.mem_of_getElem? (i := 3) rfl)) (fun _ h9 => h9) (mF.get hF_h0 12 rfl) dX15_count_10 ?_
    refine lv_goto (tgt := 29) hx hb dX15_count_13 (by decide) ?_
    have hP9 := hP.sub (ws' := [(h0, .inr (15, fs_1))]) [0] rfl
    have hD9 := hD.sub (ws' := [(h0, .inr (15, fs_1))]) [0] (by decide) rfl
    have hK9 := hK.sub (tys' := []) [] rfl
    rw [← hAe] at hD9
    refine W.widen (k := 0) (n := 0) (Nat.le_of_ble_eq_true rfl) (Nat.le_of_ble_eq_true rfl) ?_
    subst hAe
    exact (W.iret (v := 0) hx hb hr (fun t ht hW => ⟨⟨0, (), rfl, (by simp [kCount, hc_2]), fs_1, by rw [ht]; exact hP9, va_K.moved hW.alike hK9, hD9, (mF.sub hF_h0 [0] rfl)⟩, hS.F ht⟩) hS.2.2 dX15_count_29)
def wv_q_terms : List Cond := .code yX13_terms cX13_terms 3 (some .int) :: ([.fieldLink RX13 25 "MotionSignsModel$Poly" "many" "I"] ++ (wsX130 ++ ([])))
theorem gw_q_terms : wv_q_terms.all goodWord = true := by decide +kernel
theorem in_q_terms_X13 : ∀ w ∈ wsX130, w ∈ wv_q_terms := fun _ h => List.mem_cons_of_mem _ (List.mem_append_right _ (List.mem_append_left _ h))
set_option maxHeartbeats 4000000 in
set_option maxRecDepth 100000 in
/-- terms -/
theorem c_q_terms (l : Launch) (dC : Nat → ClassId) (dI : Nat → Nat → Nat) (h0 : Nat) (fs_h0 : List Value) (hF_h0 : mF 5 [(4, .int 0)] fs_h0) (sz : Nat) : Met l yX13_terms wv_q_terms ({ frames := 0, cells := 0, slots := 0, locals := 0 }) (va_Pc [.ref h0] (fun U => U.heap.size = sz ∧ va_P (dC, dI) vwCl [(h0, .inr (13, fs_h0))] U.heap ∧ va_K (dC, dI) vwCl [] U ∧ va_D (fun _ => True) [(h0, .inr (13, fs_h0))] ∧ w_N U)) (va_Qi (fun (r : Int32) (_ : Unit) => r = 0) (fun _ t => va_P (dC, dI) vwCl [(h0, .inr (13, fs_h0))] t.heap ∧ va_K (dC, dI) vwCl [] t ∧ va_D (va_A [(h0, .inr (13, fs_h0))] sz) [(h0, .inr (13, fs_h0))]) (va_A [(h0, .inr (13, fs_h0))] sz)) 0 0 (va_A [(h0, .inr (13, fs_h0))] sz) := by
  refine Met.ofW (cc := cX13_terms) (maxL := 3) (ret := (some .int)) (by decide) rfl ?_
  intro p e s m args below meth c s₁ B hml hv
  obtain ⟨rfl, hsz, hP, hK, hD0, hN⟩ := hv
  have hx := B.exec
  have hb := B.bytes
  have hr := B.returns
  have hts := atoms_spec (ws := wv_q_terms) B.pre
  have hown : s.vm.findClass RX13 = some m.cls := findClass_of_methodNamed B.named
  have hlocks := B.notSynchronized
  subst hsz
  have hD := hD0.self (sz := s.heap.size)
  generalize hAe : va_A [(h0, .inr (13, fs_h0))] s.heap.size = A at hD ⊢
  have hA : ∀ q : Nat, s.heap.size ≤ q → A q := fun q h => by rw [← hAe]; exact Or.inr h
  obtain ⟨H, hHe, hP, hS⟩ : ∃ H : Heap, H = s.heap ∧ va_P (dC, dI) vwCl [(h0, .inr (13, fs_h0))] H ∧ va_S A s.heap H [] := ⟨s.heap, rfl, hP, va_S.rf⟩
  have hl := lv_entry ([.ref h0]) (n := 3) (Nat.le_of_ble_eq_true rfl)
  rw [lg_entry_eq]
  generalize (lg_sl ([.ref h0]) ++ List.replicate (3 - (lg_sl ([.ref h0])).length) Slot.unset).toArray = ls at hl ⊢
  have hl : lv_has ls 3 [(0, .ref h0)] := hl
  rw [← hHe]; clear hHe
  refine lv_iconst (v := 0) hx hb dX13_terms_0 (by decide) ?_
  refine lv_istore_n (lv' := [(1, .int 0), (0, .ref h0)]) hx hb dX13_terms_1 rfl hl (by decide) rfl (fun ls hl => ?_)
  refine lv_iconst (v := 0) hx hb dX13_terms_2 (by decide) ?_
  refine lv_istore_n (lv' := [(2, .int 0), (1, .int 0), (0, .ref h0)]) hx hb dX13_terms_3 rfl hl (by decide) rfl (fun ls hl => ?_)
  refine lv_iload_n hx hb dX13_terms_4 rfl (lv_at hl 0 rfl) ?_
  refine lv_aload_n hx hb dX13_terms_5 rfl (lv_at hl 2 rfl) ?_
  refine va_get (D := (dC, dI)) (ci := 13) (v := .int 0) (C := RX13) (T := TX13) (N := 5) hx hb hts (in_q_terms_X13) hown hK hP 0 rfl rfl 4 (by decide) (hts (.fieldLink RX13 25 "MotionSignsModel$Poly" "many" "I") (List.mem_of_getElem? (i := 1) rfl)) (fun _ h9 => h9) (mF.get hF_h0 0 rfl) dX13_terms_6 ?_
  refine lv_icmp_ge (tgt := 37) hx hb dX13_terms_9 (by decide) (fun _ => ?_) (fun hc => absurd (by decide) hc)
  refine lv_iload_n hx hb dX13_terms_37 rfl (lv_at hl 1 rfl) ?_
  have hP9 := hP.sub (ws' := [(h0, .inr (13, fs_h0))]) [0] rfl
  have hD9 := hD.sub (ws' := [(h0, .inr (13, fs_h0))]) [0] (by decide) rfl
  have hK9 := hK.sub (tys' := []) [] rfl
  rw [← hAe] at hD9
  refine W.widen (k := 0) (n := 0) (Nat.le_of_ble_eq_true rfl) (Nat.le_of_ble_eq_true rfl) ?_
  subst hAe
  exact (W.iret (v := 0) hx hb hr (fun t ht hW => ⟨⟨0, (), rfl, rfl, by rw [ht]; exact hP9, va_K.moved hW.alike hK9, hD9⟩, hS.F ht⟩) hS.2.2 dX13_terms_38)
def wv_m_highest : List Cond := .code yX15_highest cX15_highest 4 (some .int) :: ([.fieldLink RX15 130 "MotionSignsModel" "f" "LMotionSignsModel$Poly;"] ++ (wsX150 ++ (wsX130 ++ ([]))))
theorem gw_m_highest : wv_m_highest.all goodWord = true := by decide +kernel
theorem in_m_highest_X15 : ∀ w ∈ wsX150, w ∈ wv_m_highest := fun _ h => List.mem_cons_of_mem _ (List.mem_append_right _ (List.mem_append_left _ h))
theorem in_m_highest_X13 : ∀ w ∈ wsX130, w ∈ wv_m_highest := fun _ h => List.mem_cons_of_mem _ (List.mem_append_right _ (List.mem_append_right _ (List.mem_append_left _ h)))
set_option maxHeartbeats 4000000 in
set_option maxRecDepth 100000 in
/-- highest -/
theorem c_m_highest (l : Launch) (dC : Nat → ClassId) (dI : Nat → Nat → Nat) (h0 : Nat) (qf : Nat) (fs_h0 : List Value) (fs_qf : List Value) (hF_h0 : mF 89 [(30, .ref qf)] fs_h0) (hF_qf : mF 5 [(4, .int 0)] fs_qf) (sz : Nat) : Met l yX15_highest wv_m_highest ({ frames := 0, cells := 0, slots := 0, locals := 0 }) (va_Pc [.ref h0] (fun U => U.heap.size = sz ∧ va_P (dC, dI) vwCl [(h0, .inr (15, fs_h0)), (qf, .inr (13, fs_qf))] U.heap ∧ va_K (dC, dI) vwCl [] U ∧ va_D (fun _ => True) [(h0, .inr (15, fs_h0)), (qf, .inr (13, fs_qf))] ∧ w_N U)) (va_Qi (fun (r : Int32) (_ : Unit) => r = 0) (fun _ t => va_P (dC, dI) vwCl [(h0, .inr (15, fs_h0)), (qf, .inr (13, fs_qf))] t.heap ∧ va_K (dC, dI) vwCl [] t ∧ va_D (va_A [(h0, .inr (15, fs_h0)), (qf, .inr (13, fs_qf))] sz) [(h0, .inr (15, fs_h0)), (qf, .inr (13, fs_qf))]) (va_A [(h0, .inr (15, fs_h0)), (qf, .inr (13, fs_qf))] sz)) 0 0 (va_A [(h0, .inr (15, fs_h0)), (qf, .inr (13, fs_qf))] sz) := by
  refine Met.ofW (cc := cX15_highest) (maxL := 4) (ret := (some .int)) (by decide) rfl ?_
  intro p e s m args below meth c s₁ B hml hv
  obtain ⟨rfl, hsz, hP, hK, hD0, hN⟩ := hv
  have hx := B.exec
  have hb := B.bytes
  have hr := B.returns
  have hts := atoms_spec (ws := wv_m_highest) B.pre
  have hown : s.vm.findClass RX15 = some m.cls := findClass_of_methodNamed B.named
  have hlocks := B.notSynchronized
  subst hsz
  have hD := hD0.self (sz := s.heap.size)
  generalize hAe : va_A [(h0, .inr (15, fs_h0)), (qf, .inr (13, fs_qf))] s.heap.size = A at hD ⊢
  have hA : ∀ q : Nat, s.heap.size ≤ q → A q := fun q h => by rw [← hAe]; exact Or.inr h
  obtain ⟨H, hHe, hP, hS⟩ : ∃ H : Heap, H = s.heap ∧ va_P (dC, dI) vwCl [(h0, .inr (15, fs_h0)), (qf, .inr (13, fs_qf))] H ∧ va_S A s.heap H [] := ⟨s.heap, rfl, hP, va_S.rf⟩
  have hl := lv_entry ([.ref h0]) (n := 4) (Nat.le_of_ble_eq_true rfl)
  rw [lg_entry_eq]
  generalize (lg_sl ([.ref h0]) ++ List.replicate (4 - (lg_sl ([.ref h0])).length) Slot.unset).toArray = ls at hl ⊢
  have hl : lv_has ls 4 [(0, .ref h0)] := hl
  rw [← hHe]; clear hHe
  refine lv_iconst (v := 0) hx hb dX15_highest_0 (by decide) ?_
  refine lv_istore_n (lv' := [(1, .int 0), (0, .ref h0)]) hx hb dX15_highest_1 rfl hl (by decide) rfl (fun ls hl => ?_)
  refine lv_iconst (v := 0) hx hb dX15_highest_2 (by decide) ?_
  refine lv_istore_n (lv' := [(2, .int 0), (1, .int 0), (0, .ref h0)]) hx hb dX15_highest_3 rfl hl (by decide) rfl (fun ls hl => ?_)
  refine lv_iload_n hx hb dX15_highest_4 rfl (lv_at hl 0 rfl) ?_
  refine lv_aload_n hx hb dX15_highest_5 rfl (lv_at hl 2 rfl) ?_
  refine va_get (D := (dC, dI)) (ci := 15) (v := .ref qf) (C := RX15) (T := TX15) (N := 89) hx hb hts (in_m_highest_X15) hown hK hP 0 rfl rfl 30 (by decide) (hts (.fieldLink RX15 130 "MotionSignsModel" "f" "LMotionSignsModel$Poly;") (List.mem_of_getElem? (i := 1) rfl)) (fun _ h9 => h9) (mF.get hF_h0 0 rfl) dX15_highest_6 ?_
  refine va_getN (D := (dC, dI)) (ci := 13) (v := .int 0) (C := RX13) (T := TX13) (N := 5) hx hb hts (in_m_highest_X13) hown hK hP 1 rfl rfl 4 (by decide) (va_Nw.use rfl (hN.2.1 (RX15, 347, RX13, "many", "I", RX15) (List.mem_of_getElem? (i := 46) rfl))) (fun _ h9 => h9) (mF.get hF_qf 0 rfl) dX15_highest_9 ?_
  refine lv_icmp_ge (tgt := 76) hx hb dX15_highest_12 (by decide) (fun _ => ?_) (fun hc => absurd (by decide) hc)
  refine lv_iload_n hx hb dX15_highest_76 rfl (lv_at hl 1 rfl) ?_
  have hP9 := hP.sub (ws' := [(h0, .inr (15, fs_h0)), (qf, .inr (13, fs_qf))]) [0, 1] rfl
  have hD9 := hD.sub (ws' := [(h0, .inr (15, fs_h0)), (qf, .inr (13, fs_qf))]) [0, 1] (by decide) rfl
  have hK9 := hK.sub (tys' := []) [] rfl
  rw [← hAe] at hD9
  refine W.widen (k := 0) (n := 0) (Nat.le_of_ble_eq_true rfl) (Nat.le_of_ble_eq_true rfl) ?_
  subst hAe
  exact (W.iret (v := 0) hx hb hr (fun t ht hW => ⟨⟨0, (), rfl, rfl, by rw [ht]; exact hP9, va_K.moved hW.alike hK9, hD9⟩, hS.F ht⟩) hS.2.2 dX15_highest_77)
def wv_m_told : List Cond := .code yX15_told cX15_told 2 (some .int) :: ([.fieldLink RX15 296 "MotionSignsModel" "thrown" "I", .methodLink RX15 420 yX15_in, .static yX15_in, .initialized RX15, .methodLink RX15 424 yX15_bad, .instanceMethod yX15_bad, .selects RX15 yX15_bad yX15_bad, .methodLink RX15 456 yX15_highest, .instanceMethod yX15_highest, .selects RX15 yX15_highest yX15_highest, .fieldLink RX15 130 "MotionSignsModel" "f" "LMotionSignsModel$Poly;", .initialized RX13, .instanceMethod yX13_terms, .selects RX13 yX13_terms yX13_terms, .fieldLink RX15 443 "MotionSignsModel" "kind" "I"] ++ (wsX150 ++ (wv_m_in ++ (wv_m_bad0 ++ (wv_m_highest ++ (wv_q_terms ++ (wv_m_bad1 ++ ([]))))))))
theorem gw_m_told : wv_m_told.all goodWord = true := by decide +kernel
theorem in_m_told_X15 : ∀ w ∈ wsX150, w ∈ wv_m_told := fun _ h => List.mem_cons_of_mem _ (List.mem_append_right _ (List.mem_append_left _ h))
theorem g_m_told_m_in_420 : GoodIn wv_m_told (va_wsS RX15 420 yX15_in wv_m_in) := goodIn_app (goodIn_of _ (by decide +kernel)) (goodIn_sub (fun _ h => List.mem_cons_of_mem _ (List.mem_append_right _ (List.mem_append_right _ (List.mem_append_left _ h)))) gw_m_in)
theorem g_m_told_m_bad0_424 : GoodIn wv_m_told (wsV RX15 424 RX15 yX15_bad wv_m_bad0) := goodIn_app (goodIn_of _ (by decide +kernel)) (goodIn_sub (fun _ h => List.mem_cons_of_mem _ (List.mem_append_right _ (List.mem_append_right _ (List.mem_append_right _ (List.mem_append_left _ h))))) gw_m_bad0)
theorem g_m_told_m_highest_456 : GoodIn wv_m_told (wsV RX15 456 RX15 yX15_highest wv_m_highest) := goodIn_app (goodIn_of _ (by decide +kernel)) (goodIn_sub (fun _ h => List.mem_cons_of_mem _ (List.mem_append_right _ (List.mem_append_right _ (List.mem_append_right _ (List.mem_append_right _ (List.mem_append_left _ h)))))) gw_m_highest)
theorem g_m_told_q_terms_344 : GoodIn wv_m_told wv_q_terms := goodIn_sub (fun _ h => List.mem_cons_of_mem _ (List.mem_append_right _ (List.mem_append_right _ (List.mem_append_right _ (List.mem_append_right _ (List.mem_append_right _ (List.mem_append_left _ h))))))) gw_q_terms
theorem g_m_told_m_bad1_424 : GoodIn wv_m_told (wsV RX15 424 RX15 yX15_bad wv_m_bad1) := goodIn_app (goodIn_of _ (by decide +kernel)) (goodIn_sub (fun _ h => List.mem_cons_of_mem _ (List.mem_append_right _ (List.mem_append_right _ (List.mem_append_right _ (List.mem_append_right _ (List.mem_append_right _ (List.mem_append_right _ (List.mem_append_left _ h)))))))) gw_m_bad1)
set_option maxHeartbeats 4000000 in
set_option maxRecDepth 100000 in
/-- the reference: told on a fresh object -/
theorem c_m_told (l : Launch) (dC : Nat → ClassId) (dI : Nat → Nat → Nat) (h0 : Nat) (qfed : Nat) (qf : Nat) (qfd : Nat) (qs : Nat) (qk : Nat) (x0 : Int32) (fs_h0 : List Value) (fs_qf : List Value) (hF_h0 : mF 89 [(0, .int 0), (18, .int 0), (19, .int 0), (20, .int (-1)), (21, .int 0), (22, .int 0), (23, .int 0), (24, .int 0), (25, .int 0), (27, .int 0), (28, .int 0), (29, .int 0), (35, .int 0), (17, .int (-1)), (26, .ref qfed), (30, .ref qf), (31, .ref qfd), (33, .ref qs), (36, .ref qk)] fs_h0) (hF_qf : mF 5 [(4, .int 0)] fs_qf) (sz : Nat) : Met l yX15_told wv_m_told ({ frames := 1, cells := 0, slots := 0, locals := 23 }) (va_Pc [.ref h0, .int x0] (fun U => U.heap.size = sz ∧ va_P (dC, dI) vwCl [(h0, .inr (15, fs_h0)), (qf, .inr (13, fs_qf))] U.heap ∧ va_K (dC, dI) vwCl [] U ∧ va_D (fun _ => True) [(h0, .inr (15, fs_h0)), (qf, .inr (13, fs_qf))] ∧ w_N U)) (va_Qi (fun (r : Int32) (th : Int32) => (th = 0 ∧ r = 0 ∧ kIn x0 0 2) ∨ (th = 1 ∧ ¬ kIn x0 0 2)) (fun th t => ∃ (fs_e : List Value), va_P (dC, dI) vwCl [(h0, .inr (15, fs_e))] t.heap ∧ va_K (dC, dI) vwCl [] t ∧ va_D (va_A [(h0, .inr (15, fs_h0)), (qf, .inr (13, fs_qf))] sz) [(h0, .inr (15, fs_e))] ∧ mF 89 [(0, .int th)] fs_e) (va_A [(h0, .inr (15, fs_h0)), (qf, .inr (13, fs_qf))] sz)) 0 0 (va_A [(h0, .inr (15, fs_h0)), (qf, .inr (13, fs_qf))] sz) := by
  refine Met.ofW (cc := cX15_told) (maxL := 2) (ret := (some .int)) (by decide) rfl ?_
  intro p e s m args below meth c s₁ B hml hv
  obtain ⟨rfl, hsz, hP, hK, hD0, hN⟩ := hv
  have hx := B.exec
  have hb := B.bytes
  have hr := B.returns
  have hts := atoms_spec (ws := wv_m_told) B.pre
  have hown : s.vm.findClass RX15 = some m.cls := findClass_of_methodNamed B.named
  have hlocks := B.notSynchronized
  subst hsz
  have hD := hD0.self (sz := s.heap.size)
  generalize hAe : va_A [(h0, .inr (15, fs_h0)), (qf, .inr (13, fs_qf))] s.heap.size = A at hD ⊢
  have hA : ∀ q : Nat, s.heap.size ≤ q → A q := fun q h => by rw [← hAe]; exact Or.inr h
  obtain ⟨H, hHe, hP, hS⟩ : ∃ H : Heap, H = s.heap ∧ va_P (dC, dI) vwCl [(h0, .inr (15, fs_h0)), (qf, .inr (13, fs_qf))] H ∧ va_S A s.heap H [] := ⟨s.heap, rfl, hP, va_S.rf⟩
  have hl := lv_entry ([.ref h0, .int x0]) (n := 2) (Nat.le_of_ble_eq_true rfl)
  rw [lg_entry_eq]
  generalize (lg_sl ([.ref h0, .int x0]) ++ List.replicate (2 - (lg_sl ([.ref h0, .int x0])).length) Slot.unset).toArray = ls at hl ⊢
  have hl : lv_has ls 2 [(0, .ref h0), (1, .int x0)] := hl
  rw [← hHe]; clear hHe
  refine lv_aload_n hx hb dX15_told_0 rfl (lv_at hl 0 rfl) ?_
  refine lv_iconst (v := 0) hx hb dX15_told_1 (by decide) ?_
  refine va_put (D := (dC, dI)) (ci := 15) (v := .int 0) (ty := .int) (C := RX15) (T := TX15) (N := 89) hx hb hts (in_m_told_X15) tyX15 tyX15_ok nmX15 hown hK hP hD hS 0 rfl rfl 0 (by decide) (hts (.fieldLink RX15 296 "MotionSignsModel" "thrown" "I") (List.mem_of_getElem? (i := 1) rfl)) (fun _ h9 => h9) rfl (tyX15_ok 0 (by decide)) rfl rfl (mF.lt hF_h0 (by decide)) dX15_told_2 ?_
  clear hP hD hS; try clear H
  intro H locs hP hD hS
  have hF0 := mF.sub (L' := [(18, .int 0), (19, .int 0), (20, .int (-1)), (21, .int 0), (22, .int 0), (23, .int 0), (24, .int 0), (25, .int 0), (27, .int 0), (28, .int 0), (29, .int 0), (35, .int 0), (17, .int (-1)), (26, .ref qfed), (30, .ref qf), (31, .ref qfd), (33, .ref qs), (36, .ref qk)]) hF_h0 [1, 2, 3, 4, 5, 6, 7, 8, 9, 10, 11, 12, 13, 14, 15, 16, 17, 18] rfl
  have hF1 := mF.put hF0 0 (.int 0) (by decide) rfl
  replace hP : va_P (dC, dI) vwCl [(h0, .inr (15, (fs_h0.set 0 (.int 0)))), (qf, .inr (13, fs_qf))] H := hP
  replace hD : va_D A [(h0, .inr (15, (fs_h0.set 0 (.int 0)))), (qf, .inr (13, fs_qf))] := hD
  generalize fs_h0.set 0 (.int 0) = fs_1 at hP hD hF1
  replace hF_h0 : mF 89 [(0, .int 0), (18, .int 0), (19, .int 0), (20, .int (-1)), (21, .int 0), (22, .int 0), (23, .int 0), (24, .int 0), (25, .int 0), (27, .int 0), (28, .int 0), (29, .int 0), (35, .int 0), (17, .int (-1)), (26, .ref qfed), (30, .ref qf), (31, .ref qfd), (33, .ref qs), (36, .ref qk)] fs_1 := hF1
  clear hF1 hF0
  replace hP : va_P (dC, dI) vwCl [(h0, .inr (15, fs_1)), (qf, .inr (13, fs_qf))] H := hP
  replace hD : va_D A [(h0, .inr (15, fs_1)), (qf, .inr (13, fs_qf))] := hD
  refine lv_aload_n hx hb dX15_told_5 rfl (lv_at hl 0 rfl) ?_
  refine lv_iload_n hx hb dX15_told_6 rfl (lv_at hl 1 rfl) ?_
  refine lv_iconst (v := 0) hx hb dX15_told_7 (by decide) ?_
  refine lv_iconst (v := 2) hx hb dX15_told_8 (by decide) ?_
  have hPc := hP.sub (ws' := []) [] rfl
  have hDc := hD.sub (ws' := []) [] (by decide) rfl
  have hKc := hK.sub (tys' := []) [] rfl
  have hFc := va_free (wc := []) hD hS hA [] rfl
  refine va_calli (va_runS (As := [.int x0, .int 0, .int 2]) (rest := [.ref h0]) ⟨hx, hb, hml, hown, hts⟩ (c_m_in l dC dI x0 0 2 H.size) (va_cwS 3 hts g_m_told_m_in_420 rfl rfl rfl hd_X15_in ⟨Nat.le_of_ble_eq_true rfl, Nat.le_of_ble_eq_true rfl⟩) ⟨fun a U g mk q => by obtain ⟨q0, q1, qP, qK, qD, qE0⟩ := q; exact ⟨q0, q1, qP, va_K.moved (u := U) (U := U.calling g mk a) (Vm.Alike.refl U.vm) qK, qD, w_N.same rfl qE0⟩, fun U hU hW => ⟨rfl, by rw [hU], by rw [hU]; exact hPc, va_K.moved hW.alike hKc, hDc.weaken (fun _ _ _ _ => trivial), w_N.warm hW hN⟩⟩ rfl rfl hl.1 rfl (lv_room (Nat.le_of_ble_eq_true rfl)) dX15_told_9 ⟨(Nat.le_of_ble_eq_true rfl), (Nat.le_of_ble_eq_true rfl)⟩) hS (fun q _ h => hFc q h) hFc (fun r_2 u t H1 locs1 ht hvm hw hB hz1 hk1 hS1 => ?_)
  obtain ⟨hP1, hK1, hD1⟩ := hB
  rw [ht] at hP1
  have hK1 := va_K.moved hvm.symm hK1
  have hJ := va_join (wr := [(h0, .inr (15, fs_1)), (qf, .inr (13, fs_qf))]) (w1 := []) hP hD [] [0, 1] rfl rfl (by decide) (by decide) hk1 hFc hP1 hD1
  clear hP hD hPc hDc hKc hFc hz1; try clear hk1
  obtain ⟨hP, hD⟩ := hJ
  replace hK := (hK.sub (tys' := []) [] rfl).app (hK1.sub (tys' := []) [] rfl)
  clear hP1 hK1 hD1 hvm ht hS; try clear t
  try clear H
  revert hS1
  intro hS
  generalize H1 = H at hP hS ⊢; try clear H1
  replace hP : va_P (dC, dI) vwCl [(h0, .inr (15, fs_1)), (qf, .inr (13, fs_qf))] H := hP
  replace hD : va_D A [(h0, .inr (15, fs_1)), (qf, .inr (13, fs_qf))] := hD
  replace hK : va_K (dC, dI) vwCl [] s := hK
  have hw_3 : (r_2 = 1 ∧ kIn x0 0 2) ∨ (r_2 = 0 ∧ ¬ kIn x0 0 2) := hw; clear hw
  rcases hw_3 with ⟨ehw_3, hw_3⟩ | ⟨ehw_3, hw_3⟩
  · skip
    subst ehw_3
    refine lv_if_ne (tgt := 19) hx hb dX15_told_12 (by decide) (fun _ => ?_) (fun hc => absurd hc (by decide))
    refine lv_iconst (v := 0) hx hb dX15_told_19 (by decide) ?_
    refine lv_iconst (v := 1) hx hb dX15_told_20 (by decide) ?_
    have hPc := hP.sub (ws' := [(h0, .inr (15, fs_1))]) [0] rfl
    have hDc := hD.sub (ws' := [(h0, .inr (15, fs_1))]) [0] (by decide) rfl
    have hKc := hK.sub (tys' := []) [] rfl
    have hFc := va_free (wc := [(h0, .inr (15, fs_1))]) hD hS hA [0] rfl
    refine va_calli (va_runV (As := [.int 0, .int 1]) (rest := []) ⟨hx, hb, hml, hown, hts⟩ (c_m_bad0 l dC dI h0 1 fs_1 (mF.sub hF_h0 [0] rfl) H.size) (cwV 2 hts g_m_told_m_bad0_424 rfl rfl rfl hv_X15_bad ⟨Nat.le_of_ble_eq_true rfl, Nat.le_of_ble_eq_true rfl⟩) ⟨fun a U g mk q => by obtain ⟨q0, q1, qP, qK, qD, qE0⟩ := q; exact ⟨q0, q1, qP, va_K.moved (u := U) (U := U.calling g mk a) (Vm.Alike.refl U.vm) qK, qD, w_N.same rfl qE0⟩, va_recv hKc hPc (ci := 15) (q0 := 0) rfl rfl, fun U hU hW => ⟨rfl, by rw [hU], by rw [hU]; exact hPc, va_K.moved hW.alike hKc, hDc.weaken (fun _ _ _ _ => trivial), w_N.warm hW hN⟩⟩ rfl rfl hl.1 rfl (lv_room (Nat.le_of_ble_eq_true rfl)) dX15_told_21 ⟨(Nat.le_of_ble_eq_true rfl), (Nat.le_of_ble_eq_true rfl)⟩) hS (fun q _ h => hFc q h) hFc (fun r_4 u t H1 locs1 ht hvm hw hB hz1 hk1 hS1 => ?_)
    obtain ⟨hP1, hK1, hD1⟩ := hB
    rw [ht] at hP1
    have hK1 := va_K.moved hvm.symm hK1
    have hJ := va_join (wr := [(qf, .inr (13, fs_qf))]) (w1 := [(h0, .inr (15, fs_1))]) hP hD [0] [1] rfl rfl (by decide) (by decide) hk1 hFc hP1 hD1
    clear hP hD hPc hDc hKc hFc hz1; try clear hk1
    obtain ⟨hP, hD⟩ := hJ
    replace hK := (hK.sub (tys' := []) [] rfl).app (hK1.sub (tys' := []) [] rfl)
    clear hP1 hK1 hD1 hvm ht hS; try clear t
    try clear H
    revert hS1
    intro hS
    generalize H1 = H at hP hS ⊢; try clear H1
    replace hP : va_P (dC, dI) vwCl [(qf, .inr (13, fs_qf)), (h0, .inr (15, fs_1))] H := hP
    replace hD : va_D A [(qf, .inr (13, fs_qf)), (h0, .inr (15, fs_1))] := hD
    replace hK : va_K (dC, dI) vwCl [] s := hK
    have hw_5 : r_4 = 0 := hw; clear hw
    subst hw_5
    refine lv_if_eq (tgt := 29) hx hb dX15_told_24 (by decide) (fun _ => ?_) (fun hc => absurd (by decide) hc)
    refine lv_iload_n hx hb dX15_told_29 rfl (lv_at hl 1 rfl) ?_
    refine lv_if_ne (tgt := 40) hx hb dX15_told_30 (by decide) (fun hc_6 => ?_) (fun hc_6 => ?_)
    · skip
      refine lv_iload_n hx hb dX15_told_40 rfl (lv_at hl 1 rfl) ?_
      refine lv_iconst (v := 1) hx hb dX15_told_41 (by decide) ?_
      refine lv_icmp_ne (tgt := 55) hx hb dX15_told_42 (by decide) (fun hc_7 => ?_) (fun hc_7 => ?_)
      · skip
        refine lv_aload_n hx hb dX15_told_55 rfl (lv_at hl 0 rfl) ?_
        have hPc := hP.sub (ws' := [(h0, .inr (15, fs_1)), (qf, .inr (13, fs_qf))]) [1, 0] rfl
        have hDc := hD.sub (ws' := [(h0, .inr (15, fs_1)), (qf, .inr (13, fs_qf))]) [1, 0] (by decide) rfl
        have hKc := hK.sub (tys' := []) [] rfl
        have hFc := va_free (wc := [(h0, .inr (15, fs_1)), (qf, .inr (13, fs_qf))]) hD hS hA [1, 0] rfl
        refine va_calli (va_runV (As := []) (rest := []) ⟨hx, hb, hml, hown, hts⟩ (c_m_highest l dC dI h0 qf fs_1 fs_qf (mF.sub hF_h0 [15] rfl) (mF.sub hF_qf [0] rfl) H.size) (cwV 0 hts g_m_told_m_highest_456 rfl rfl rfl hv_X15_highest ⟨Nat.le_of_ble_eq_true rfl, Nat.le_of_ble_eq_true rfl⟩) ⟨fun a U g mk q => by obtain ⟨q0, q1, qP, qK, qD, qE0⟩ := q; exact ⟨q0, q1, qP, va_K.moved (u := U) (U := U.calling g mk a) (Vm.Alike.refl U.vm) qK, qD, w_N.same rfl qE0⟩, va_recv hKc hPc (ci := 15) (q0 := 0) rfl rfl, fun U hU hW => ⟨rfl, by rw [hU], by rw [hU]; exact hPc, va_K.moved hW.alike hKc, hDc.weaken (fun _ _ _ _ => trivial), w_N.warm hW hN⟩⟩ rfl rfl hl.1 rfl (lv_room (Nat.le_of_ble_eq_true rfl)) dX15_told_56 ⟨(Nat.le_of_ble_eq_true rfl), (Nat.le_of_ble_eq_true rfl)⟩) hS (fun q _ h => hFc q h) hFc (fun r_8 u t H1 locs1 ht hvm hw hB hz1 hk1 hS1 => ?_)
        obtain ⟨hP1, hK1, hD1⟩ := hB
        rw [ht] at hP1
        have hK1 := va_K.moved hvm.symm hK1
        have hJ := va_join (wr := []) (w1 := [(h0, .inr (15, fs_1)), (qf, .inr (13, fs_qf))]) hP hD [1, 0] [] rfl rfl (by decide) (by decide) hk1 hFc hP1 hD1
        clear hP hD hPc hDc hKc hFc hz1; try clear hk1
        obtain ⟨hP, hD⟩ := hJ
        replace hK := (hK.sub (tys' := []) [] rfl).app (hK1.sub (tys' := []) [] rfl)
        clear hP1 hK1 hD1 hvm ht hS; try clear t
        try clear H
        revert hS1
        intro hS
        generalize H1 = H at hP hS ⊢; try clear H1
        replace hP : va_P (dC, dI) vwCl [(h0, .inr (15, fs_1)), (qf, .inr (13, fs_qf))] H := hP
        replace hD : va_D A [(h0, .inr (15, fs_1)), (qf, .inr (13, fs_qf))] := hD
        replace hK : va_K (dC, dI) vwCl [] s := hK
        have hw_9 : r_8 = 0 := hw; clear hw
        subst hw_9
        have hP9 := hP.sub (ws' := [(h0, .inr (15, fs_1))]) [0] rfl
        have hD9 := hD.sub (ws' := [(h0, .inr (15, fs_1))]) [0] (by decide) rfl
        have hK9 := hK.sub (tys' := []) [] rfl
        rw [← hAe] at hD9
        refine W.widen (k := 0) (n := 0) (Nat.le_of_ble_eq_true rfl) (Nat.le_of_ble_eq_true rfl) ?_
        subst hAe
        exact (W.iret (v := 0) hx hb hr (fun t ht hW => ⟨⟨0, 0, rfl, Or.inl ⟨rfl, rfl, hw_3⟩, fs_1, by rw [ht]; exact hP9, va_K.moved hW.alike hK9, hD9, (mF.sub hF_h0 [0] rfl)⟩, hS.F ht⟩) hS.2.2 dX15_told_59)
      · skip
        refine lv_aload_n hx hb dX15_told_45 rfl (lv_at hl 0 rfl) ?_
        refine va_get (D := (dC, dI)) (ci := 15) (v := .ref qf) (C := RX15) (T := TX15) (N := 89) hx hb hts (in_m_told_X15) hown hK hP 1 rfl rfl 30 (by decide) (hts (.fieldLink RX15 130 "MotionSignsModel" "f" "LMotionSignsModel$Poly;") (List.mem_of_getElem? (i := 11) rfl)) (fun _ h9 => h9) (mF.get hF_h0 15 rfl) dX15_told_46 ?_
        have hPc := hP.sub (ws' := [(qf, .inr (13, fs_qf))]) [0] rfl
        have hDc := hD.sub (ws' := [(qf, .inr (13, fs_qf))]) [0] (by decide) rfl
        have hKc := hK.sub (tys' := []) [] rfl
        have hFc := va_free (wc := [(qf, .inr (13, fs_qf))]) hD hS hA [0] rfl
        refine va_calli (va_runVN (As := []) (rest := []) ⟨hx, hb, hml, hown, hts⟩ (c_q_terms l dC dI qf fs_qf (mF.sub hF_qf [0] rfl) H.size) ⟨va_cnB 0 hts g_m_told_q_terms_344 rfl rfl rfl (hN.1 (RX15, 344, yX13_terms, RX15) (List.mem_of_getElem? (i := 33) rfl)) (hts (.initialized RX13) (List.mem_of_getElem? (i := 12) rfl)) hd_X13_terms ⟨Nat.le_of_ble_eq_true rfl, Nat.le_of_ble_eq_true rfl⟩, (hts (.instanceMethod yX13_terms) (List.mem_of_getElem? (i := 13) rfl)), (hts (.selects RX13 yX13_terms yX13_terms) (List.mem_of_getElem? (i := 14) rfl))⟩ ⟨fun a U g mk q => by obtain ⟨q0, q1, qP, qK, qD, qE0⟩ := q; exact ⟨q0, q1, qP, va_K.moved (u := U) (U := U.calling g mk a) (Vm.Alike.refl U.vm) qK, qD, w_N.same rfl qE0⟩, va_recv hKc hPc (ci := 13) (q0 := 0) rfl rfl, fun U hU hW => ⟨rfl, by rw [hU], by rw [hU]; exact hPc, va_K.moved hW.alike hKc, hDc.weaken (fun _ _ _ _ => trivial), w_N.warm hW hN⟩⟩ rfl rfl hl.1 rfl (lv_room (Nat.le_of_ble_eq_true rfl)) dX15_told_49 ⟨(Nat.le_of_ble_eq_true rfl), (Nat.le_of_ble_eq_true rfl)⟩) hS (fun q _ h => hFc q h) hFc (fun r_10 u t H1 locs1 ht hvm hw hB hz1 hk1 hS1 => ?_)
        obtain ⟨hP1, hK1, hD1⟩ := hB
        rw [ht] at hP1
        have hK1 := va_K.moved hvm.symm hK1
        have hJ := va_join (wr := [(h0, .inr (15, fs_1))]) (w1 := [(qf, .inr (13, fs_qf))]) hP hD [0] [1] rfl rfl (by decide) (by decide) hk1 hFc hP1 hD1
        clear hP hD hPc hDc hKc hFc hz1; try clear hk1
        obtain ⟨hP, hD⟩ := hJ
        replace hK := (hK.sub (tys' := []) [] rfl).app (hK1.sub (tys' := []) [] rfl)
        clear hP1 hK1 hD1 hvm ht hS; try clear t
        try clear H
        revert hS1
        intro hS
        generalize H1 = H at hP hS ⊢; try clear H1
        replace hP : va_P (dC, dI) vwCl [(h0, .inr (15, fs_1)), (qf, .inr (13, fs_qf))] H := hP
        replace hD : va_D A [(h0, .inr (15, fs_1)), (qf, .inr (13, fs_qf))] := hD
        replace hK : va_K (dC, dI) vwCl [] s := hK
        have hw_11 : r_10 = 0 := hw; clear hw
        subst hw_11
        refine lv_goto (tgt := 59) hx hb dX15_told_52 (by decide) ?_
        have hP9 := hP.sub (ws' := [(h0, .inr (15, fs_1))]) [0] rfl
        have hD9 := hD.sub (ws' := [(h0, .inr (15, fs_1))]) [0] (by decide) rfl
        have hK9 := hK.sub (tys' := []) [] rfl
        rw [← hAe] at hD9
        refine W.widen (k := 0) (n := 0) (Nat.le_of_ble_eq_true rfl) (Nat.le_of_ble_eq_true rfl) ?_
        subst hAe
        exact (W.iret (v := 0) hx hb hr (fun t ht hW => ⟨⟨0, 0, rfl, Or.inl ⟨rfl, rfl, hw_3⟩, fs_1, by rw [ht]; exact hP9, va_K.moved hW.alike hK9, hD9, (mF.sub hF_h0 [0] rfl)⟩, hS.F ht⟩) hS.2.2 dX15_told_59)
    · skip
      refine lv_aload_n hx hb dX15_told_33 rfl (lv_at hl 0 rfl) ?_
      refine va_get (D := (dC, dI)) (ci := 15) (v := .int 0) (C := RX15) (T := TX15) (N := 89) hx hb hts (in_m_told_X15) hown hK hP 1 rfl rfl 28 (by decide) (hts (.fieldLink RX15 443 "MotionSignsModel" "kind" "I") (List.mem_of_getElem? (i := 15) rfl)) (fun _ h9 => h9) (mF.get hF_h0 10 rfl) dX15_told_34 ?_
      refine lv_goto (tgt := 59) hx hb dX15_told_37 (by decide) ?_
      have hP9 := hP.sub (ws' := [(h0, .inr (15, fs_1))]) [1] rfl
      have hD9 := hD.sub (ws' := [(h0, .inr (15, fs_1))]) [1] (by decide) rfl
      have hK9 := hK.sub (tys' := []) [] rfl
      rw [← hAe] at hD9
      refine W.widen (k := 0) (n := 0) (Nat.le_of_ble_eq_true rfl) (Nat.le_of_ble_eq_true rfl) ?_
      subst hAe
      exact (W.iret (v := 0) hx hb hr (fun t ht hW => ⟨⟨0, 0, rfl, Or.inl ⟨rfl, rfl, hw_3⟩, fs_1, by rw [ht]; exact hP9, va_K.moved hW.alike hK9, hD9, (mF.sub hF_h0 [0] rfl)⟩, hS.F ht⟩) hS.2.2 dX15_told_59)
  · skip
    subst ehw_3
    refine lv_if_ne (tgt := 19) hx hb dX15_told_12 (by decide) (fun hc => absurd (by decide) hc) (fun _ => ?_)
    refine lv_iconst (v := 1) hx hb dX15_told_15 (by decide) ?_
    refine lv_goto (tgt := 20) hx hb dX15_told_16 (by decide) ?_
    refine lv_iconst (v := 1) hx hb dX15_told_20 (by decide) ?_
    have hPc := hP.sub (ws' := [(h0, .inr (15, fs_1))]) [0] rfl
    have hDc := hD.sub (ws' := [(h0, .inr (15, fs_1))]) [0] (by decide) rfl
    have hKc := hK.sub (tys' := []) [] rfl
    have hFc := va_free (wc := [(h0, .inr (15, fs_1))]) hD hS hA [0] rfl
    refine va_calli (va_runV (As := [.int 1, .int 1]) (rest := []) ⟨hx, hb, hml, hown, hts⟩ (c_m_bad1 l dC dI h0 qfed qf qfd qs qk fs_1 (mF.sub hF_h0 [0, 1, 2, 3, 4, 5, 6, 7, 8, 9, 10, 11, 12, 13, 14, 15, 16, 17, 18] rfl) H.size) (cwV 2 hts g_m_told_m_bad1_424 rfl rfl rfl hv_X15_bad ⟨Nat.le_of_ble_eq_true rfl, Nat.le_of_ble_eq_true rfl⟩) ⟨fun a U g mk q => by obtain ⟨q0, q1, qP, qK, qD, qE0⟩ := q; exact ⟨q0, q1, qP, va_K.moved (u := U) (U := U.calling g mk a) (Vm.Alike.refl U.vm) qK, qD, w_N.same rfl qE0⟩, va_recv hKc hPc (ci := 15) (q0 := 0) rfl rfl, fun U hU hW => ⟨rfl, by rw [hU], by rw [hU]; exact hPc, va_K.moved hW.alike hKc, hDc.weaken (fun _ _ _ _ => trivial), w_N.warm hW hN⟩⟩ rfl rfl hl.1 rfl (lv_room (Nat.le_of_ble_eq_true rfl)) dX15_told_21 ⟨(Nat.le_of_ble_eq_true rfl), (Nat.le_of_ble_eq_true rfl)⟩) hS (fun q _ h => hFc q h) hFc (fun r_12 u t H1 locs1 ht hvm hw hB hz1 hk1 hS1 => ?_)
    obtain ⟨fs_13, hP1, hK1, hD1, hp_14⟩ := hB
    rw [ht] at hP1
    have hK1 := va_K.moved hvm.symm hK1
    have hJ := va_join (wr := [(qf, .inr (13, fs_qf))]) (w1 := [(h0, .inr (15, fs_13))]) hP hD [0] [1] rfl rfl (by decide) (by decide) hk1 hFc hP1 hD1
    clear hP hD hPc hDc hKc hFc hz1; try clear hk1
    obtain ⟨hP, hD⟩ := hJ
    replace hK := (hK.sub (tys' := []) [] rfl).app (hK1.sub (tys' := []) [] rfl)
    clear hP1 hK1 hD1 hvm ht hS; try clear t
    try clear H
    revert hS1
    intro hS
    generalize H1 = H at hP hS ⊢; try clear H1
    replace hP : va_P (dC, dI) vwCl [(qf, .inr (13, fs_qf)), (h0, .inr (15, fs_13))] H := hP
    replace hD : va_D A [(qf, .inr (13, fs_qf)), (h0, .inr (15, fs_13))] := hD
    replace hK : va_K (dC, dI) vwCl [] s := hK
    have hw_15 : r_12 = 1 := hw; clear hw
    subst hw_15
    refine lv_if_eq (tgt := 29) hx hb dX15_told_24 (by decide) (fun hc => absurd hc (by decide)) (fun _ => ?_)
    refine lv_iconst (v := 0) hx hb dX15_told_27 (by decide) ?_
    have hP9 := hP.sub (ws' := [(h0, .inr (15, fs_13))]) [1] rfl
    have hD9 := hD.sub (ws' := [(h0, .inr (15, fs_13))]) [1] (by decide) rfl
    have hK9 := hK.sub (tys' := []) [] rfl
    rw [← hAe] at hD9
    refine W.widen (k := 0) (n := 0) (Nat.le_of_ble_eq_true rfl) (Nat.le_of_ble_eq_true rfl) ?_
    subst hAe
    exact (W.iret (v := 0) hx hb hr (fun t ht hW => ⟨⟨0, 1, rfl, Or.inr ⟨rfl, hw_3⟩, fs_13, by rw [ht]; exact hP9, va_K.moved hW.alike hK9, hD9, (mF.sub hp_14 [0] rfl)⟩, hS.F ht⟩) hS.2.2 dX15_told_28)
def wv_m_one0 : List Cond := .code yX15_one cX15_one 1 (some .long) :: ([] ++ ([]))
theorem gw_m_one0 : wv_m_one0.all goodWord = true := by decide +kernel
set_option maxHeartbeats 4000000 in
set_option maxRecDepth 100000 in
/-- one -/
theorem c_m_one0 (l : Launch) (dC : Nat → ClassId) (dI : Nat → Nat → Nat) (sz : Nat) : Met l yX15_one wv_m_one0 ({ frames := 0, cells := 0, slots := 0, locals := 0 }) (va_Pc [.int 0] (fun U => U.heap.size = sz ∧ va_P (dC, dI) vwCl [] U.heap ∧ va_K (dC, dI) vwCl [] U ∧ va_D (fun _ => True) [] ∧ w_N U)) (va_Ql (fun (r : Int64) (_ : Unit) => r = 1) (fun _ t => va_P (dC, dI) vwCl [] t.heap ∧ va_K (dC, dI) vwCl [] t ∧ va_D (va_A [] sz) []) (va_A [] sz)) 0 0 (va_A [] sz) := by
  refine Met.ofW (cc := cX15_one) (maxL := 1) (ret := (some .long)) (by decide) rfl ?_
  intro p e s m args below meth c s₁ B hml hv
  obtain ⟨rfl, hsz, hP, hK, hD0, hN⟩ := hv
  have hx := B.exec
  have hb := B.bytes
  have hr := B.returns
  have hts := atoms_spec (ws := wv_m_one0) B.pre
  have hown : s.vm.findClass RX15 = some m.cls := findClass_of_methodNamed B.named
  have hlocks := B.notSynchronized
  subst hsz
  have hD := hD0.self (sz := s.heap.size)
  generalize hAe : va_A [] s.heap.size = A at hD ⊢
  have hA : ∀ q : Nat, s.heap.size ≤ q → A q := fun q h => by rw [← hAe]; exact Or.inr h
  obtain ⟨H, hHe, hP, hS⟩ : ∃ H : Heap, H = s.heap ∧ va_P (dC, dI) vwCl [] H ∧ va_S A s.heap H [] := ⟨s.heap, rfl, hP, va_S.rf⟩
  have hl := lv_entry ([.int 0]) (n := 1) (Nat.le_of_ble_eq_true rfl)
  rw [lg_entry_eq]
  generalize (lg_sl ([.int 0]) ++ List.replicate (1 - (lg_sl ([.int 0])).length) Slot.unset).toArray = ls at hl ⊢
  have hl : lv_has ls 1 [(0, .int 0)] := hl
  rw [← hHe]; clear hHe
  refine lv_lconst (v := 1) hx hb dX15_one_0 (by decide) ?_
  refine lv_bipush (v := 6) hx hb dX15_one_1 (by decide) ?_
  refine lv_iload_n hx hb dX15_one_3 rfl (lv_at hl 0 rfl) ?_
  refine lv_imul hx hb dX15_one_4 ?_
  refine lv_topi (fun v_1 ev_1 => ?_)
  have ev_1 : v_1 = 0 := ev_1.trans (by decide)
  subst ev_1
  refine lv_lshl (v := 1) hx hb dX15_one_5 (by decide) ?_
  have hP9 := hP.sub (ws' := []) [] rfl
  have hD9 := hD.sub (ws' := []) [] (by decide) rfl
  have hK9 := hK.sub (tys' := []) [] rfl
  rw [← hAe] at hD9
  refine W.widen (k := 0) (n := 0) (Nat.le_of_ble_eq_true rfl) (Nat.le_of_ble_eq_true rfl) ?_
  subst hAe
  exact (W.lret (v := 1) hx hb hr (fun t ht hW => ⟨⟨1, (), rfl, rfl, by rw [ht]; exact hP9, va_K.moved hW.alike hK9, hD9⟩, hS.F ht⟩) hS.2.2 dX15_one_6)
def wv_m_one1 : List Cond := .code yX15_one cX15_one 1 (some .long) :: ([] ++ ([]))
theorem gw_m_one1 : wv_m_one1.all goodWord = true := by decide +kernel
set_option maxHeartbeats 4000000 in
set_option maxRecDepth 100000 in
/-- one -/
theorem c_m_one1 (l : Launch) (dC : Nat → ClassId) (dI : Nat → Nat → Nat) (sz : Nat) : Met l yX15_one wv_m_one1 ({ frames := 0, cells := 0, slots := 0, locals := 0 }) (va_Pc [.int 1] (fun U => U.heap.size = sz ∧ va_P (dC, dI) vwCl [] U.heap ∧ va_K (dC, dI) vwCl [] U ∧ va_D (fun _ => True) [] ∧ w_N U)) (va_Ql (fun (r : Int64) (_ : Unit) => r = 64) (fun _ t => va_P (dC, dI) vwCl [] t.heap ∧ va_K (dC, dI) vwCl [] t ∧ va_D (va_A [] sz) []) (va_A [] sz)) 0 0 (va_A [] sz) := by
  refine Met.ofW (cc := cX15_one) (maxL := 1) (ret := (some .long)) (by decide) rfl ?_
  intro p e s m args below meth c s₁ B hml hv
  obtain ⟨rfl, hsz, hP, hK, hD0, hN⟩ := hv
  have hx := B.exec
  have hb := B.bytes
  have hr := B.returns
  have hts := atoms_spec (ws := wv_m_one1) B.pre
  have hown : s.vm.findClass RX15 = some m.cls := findClass_of_methodNamed B.named
  have hlocks := B.notSynchronized
  subst hsz
  have hD := hD0.self (sz := s.heap.size)
  generalize hAe : va_A [] s.heap.size = A at hD ⊢
  have hA : ∀ q : Nat, s.heap.size ≤ q → A q := fun q h => by rw [← hAe]; exact Or.inr h
  obtain ⟨H, hHe, hP, hS⟩ : ∃ H : Heap, H = s.heap ∧ va_P (dC, dI) vwCl [] H ∧ va_S A s.heap H [] := ⟨s.heap, rfl, hP, va_S.rf⟩
  have hl := lv_entry ([.int 1]) (n := 1) (Nat.le_of_ble_eq_true rfl)
  rw [lg_entry_eq]
  generalize (lg_sl ([.int 1]) ++ List.replicate (1 - (lg_sl ([.int 1])).length) Slot.unset).toArray = ls at hl ⊢
  have hl : lv_has ls 1 [(0, .int 1)] := hl
  rw [← hHe]; clear hHe
  refine lv_lconst (v := 1) hx hb dX15_one_0 (by decide) ?_
  refine lv_bipush (v := 6) hx hb dX15_one_1 (by decide) ?_
  refine lv_iload_n hx hb dX15_one_3 rfl (lv_at hl 0 rfl) ?_
  refine lv_imul hx hb dX15_one_4 ?_
  refine lv_topi (fun v_1 ev_1 => ?_)
  have ev_1 : v_1 = 6 := ev_1.trans (by decide)
  subst ev_1
  refine lv_lshl (v := 64) hx hb dX15_one_5 (by decide) ?_
  have hP9 := hP.sub (ws' := []) [] rfl
  have hD9 := hD.sub (ws' := []) [] (by decide) rfl
  have hK9 := hK.sub (tys' := []) [] rfl
  rw [← hAe] at hD9
  refine W.widen (k := 0) (n := 0) (Nat.le_of_ble_eq_true rfl) (Nat.le_of_ble_eq_true rfl) ?_
  subst hAe
  exact (W.lret (v := 64) hx hb hr (fun t ht hW => ⟨⟨64, (), rfl, rfl, by rw [ht]; exact hP9, va_K.moved hW.alike hK9, hD9⟩, hS.F ht⟩) hS.2.2 dX15_one_6)
def wv_m_one2 : List Cond := .code yX15_one cX15_one 1 (some .long) :: ([] ++ ([]))
theorem gw_m_one2 : wv_m_one2.all goodWord = true := by decide +kernel
set_option maxHeartbeats 4000000 in
set_option maxRecDepth 100000 in
/-- one -/
theorem c_m_one2 (l : Launch) (dC : Nat → ClassId) (dI : Nat → Nat → Nat) (sz : Nat) : Met l yX15_one wv_m_one2 ({ frames := 0, cells := 0, slots := 0, locals := 0 }) (va_Pc [.int 2] (fun U => U.heap.size = sz ∧ va_P (dC, dI) vwCl [] U.heap ∧ va_K (dC, dI) vwCl [] U ∧ va_D (fun _ => True) [] ∧ w_N U)) (va_Ql (fun (r : Int64) (_ : Unit) => r = 4096) (fun _ t => va_P (dC, dI) vwCl [] t.heap ∧ va_K (dC, dI) vwCl [] t ∧ va_D (va_A [] sz) []) (va_A [] sz)) 0 0 (va_A [] sz) := by
  refine Met.ofW (cc := cX15_one) (maxL := 1) (ret := (some .long)) (by decide) rfl ?_
  intro p e s m args below meth c s₁ B hml hv
  obtain ⟨rfl, hsz, hP, hK, hD0, hN⟩ := hv
  have hx := B.exec
  have hb := B.bytes
  have hr := B.returns
  have hts := atoms_spec (ws := wv_m_one2) B.pre
  have hown : s.vm.findClass RX15 = some m.cls := findClass_of_methodNamed B.named
  have hlocks := B.notSynchronized
  subst hsz
  have hD := hD0.self (sz := s.heap.size)
  generalize hAe : va_A [] s.heap.size = A at hD ⊢
  have hA : ∀ q : Nat, s.heap.size ≤ q → A q := fun q h => by rw [← hAe]; exact Or.inr h
  obtain ⟨H, hHe, hP, hS⟩ : ∃ H : Heap, H = s.heap ∧ va_P (dC, dI) vwCl [] H ∧ va_S A s.heap H [] := ⟨s.heap, rfl, hP, va_S.rf⟩
  have hl := lv_entry ([.int 2]) (n := 1) (Nat.le_of_ble_eq_true rfl)
  rw [lg_entry_eq]
  generalize (lg_sl ([.int 2]) ++ List.replicate (1 - (lg_sl ([.int 2])).length) Slot.unset).toArray = ls at hl ⊢
  have hl : lv_has ls 1 [(0, .int 2)] := hl
  rw [← hHe]; clear hHe
  refine lv_lconst (v := 1) hx hb dX15_one_0 (by decide) ?_
  refine lv_bipush (v := 6) hx hb dX15_one_1 (by decide) ?_
  refine lv_iload_n hx hb dX15_one_3 rfl (lv_at hl 0 rfl) ?_
  refine lv_imul hx hb dX15_one_4 ?_
  refine lv_topi (fun v_1 ev_1 => ?_)
  have ev_1 : v_1 = 12 := ev_1.trans (by decide)
  subst ev_1
  refine lv_lshl (v := 4096) hx hb dX15_one_5 (by decide) ?_
  have hP9 := hP.sub (ws' := []) [] rfl
  have hD9 := hD.sub (ws' := []) [] (by decide) rfl
  have hK9 := hK.sub (tys' := []) [] rfl
  rw [← hAe] at hD9
  refine W.widen (k := 0) (n := 0) (Nat.le_of_ble_eq_true rfl) (Nat.le_of_ble_eq_true rfl) ?_
  subst hAe
  exact (W.lret (v := 4096) hx hb hr (fun t ht hW => ⟨⟨4096, (), rfl, rfl, by rw [ht]; exact hP9, va_K.moved hW.alike hK9, hD9⟩, hS.F ht⟩) hS.2.2 dX15_one_6)
def wv_m_one3 : List Cond := .code yX15_one cX15_one 1 (some .long) :: ([] ++ ([]))
theorem gw_m_one3 : wv_m_one3.all goodWord = true := by decide +kernel
set_option maxHeartbeats 4000000 in
set_option maxRecDepth 100000 in
/-- one -/
theorem c_m_one3 (l : Launch) (dC : Nat → ClassId) (dI : Nat → Nat → Nat) (sz : Nat) : Met l yX15_one wv_m_one3 ({ frames := 0, cells := 0, slots := 0, locals := 0 }) (va_Pc [.int 3] (fun U => U.heap.size = sz ∧ va_P (dC, dI) vwCl [] U.heap ∧ va_K (dC, dI) vwCl [] U ∧ va_D (fun _ => True) [] ∧ w_N U)) (va_Ql (fun (r : Int64) (_ : Unit) => r = 262144) (fun _ t => va_P (dC, dI) vwCl [] t.heap ∧ va_K (dC, dI) vwCl [] t ∧ va_D (va_A [] sz) []) (va_A [] sz)) 0 0 (va_A [] sz) := by
  refine Met.ofW (cc := cX15_one) (maxL := 1) (ret := (some .long)) (by decide) rfl ?_
  intro p e s m args below meth c s₁ B hml hv
  obtain ⟨rfl, hsz, hP, hK, hD0, hN⟩ := hv
  have hx := B.exec
  have hb := B.bytes
  have hr := B.returns
  have hts := atoms_spec (ws := wv_m_one3) B.pre
  have hown : s.vm.findClass RX15 = some m.cls := findClass_of_methodNamed B.named
  have hlocks := B.notSynchronized
  subst hsz
  have hD := hD0.self (sz := s.heap.size)
  generalize hAe : va_A [] s.heap.size = A at hD ⊢
  have hA : ∀ q : Nat, s.heap.size ≤ q → A q := fun q h => by rw [← hAe]; exact Or.inr h
  obtain ⟨H, hHe, hP, hS⟩ : ∃ H : Heap, H = s.heap ∧ va_P (dC, dI) vwCl [] H ∧ va_S A s.heap H [] := ⟨s.heap, rfl, hP, va_S.rf⟩
  have hl := lv_entry ([.int 3]) (n := 1) (Nat.le_of_ble_eq_true rfl)
  rw [lg_entry_eq]
  generalize (lg_sl ([.int 3]) ++ List.replicate (1 - (lg_sl ([.int 3])).length) Slot.unset).toArray = ls at hl ⊢
  have hl : lv_has ls 1 [(0, .int 3)] := hl
  rw [← hHe]; clear hHe
  refine lv_lconst (v := 1) hx hb dX15_one_0 (by decide) ?_
  refine lv_bipush (v := 6) hx hb dX15_one_1 (by decide) ?_
  refine lv_iload_n hx hb dX15_one_3 rfl (lv_at hl 0 rfl) ?_
  refine lv_imul hx hb dX15_one_4 ?_
  refine lv_topi (fun v_1 ev_1 => ?_)
  have ev_1 : v_1 = 18 := ev_1.trans (by decide)
  subst ev_1
  refine lv_lshl (v := 262144) hx hb dX15_one_5 (by decide) ?_
  have hP9 := hP.sub (ws' := []) [] rfl
  have hD9 := hD.sub (ws' := []) [] (by decide) rfl
  have hK9 := hK.sub (tys' := []) [] rfl
  rw [← hAe] at hD9
  refine W.widen (k := 0) (n := 0) (Nat.le_of_ble_eq_true rfl) (Nat.le_of_ble_eq_true rfl) ?_
  subst hAe
  exact (W.lret (v := 262144) hx hb hr (fun t ht hW => ⟨⟨262144, (), rfl, rfl, by rw [ht]; exact hP9, va_K.moved hW.alike hK9, hD9⟩, hS.F ht⟩) hS.2.2 dX15_one_6)
def wv_m_one4 : List Cond := .code yX15_one cX15_one 1 (some .long) :: ([] ++ ([]))
theorem gw_m_one4 : wv_m_one4.all goodWord = true := by decide +kernel
set_option maxHeartbeats 4000000 in
set_option maxRecDepth 100000 in
/-- one -/
theorem c_m_one4 (l : Launch) (dC : Nat → ClassId) (dI : Nat → Nat → Nat) (sz : Nat) : Met l yX15_one wv_m_one4 ({ frames := 0, cells := 0, slots := 0, locals := 0 }) (va_Pc [.int 4] (fun U => U.heap.size = sz ∧ va_P (dC, dI) vwCl [] U.heap ∧ va_K (dC, dI) vwCl [] U ∧ va_D (fun _ => True) [] ∧ w_N U)) (va_Ql (fun (r : Int64) (_ : Unit) => r = 16777216) (fun _ t => va_P (dC, dI) vwCl [] t.heap ∧ va_K (dC, dI) vwCl [] t ∧ va_D (va_A [] sz) []) (va_A [] sz)) 0 0 (va_A [] sz) := by
  refine Met.ofW (cc := cX15_one) (maxL := 1) (ret := (some .long)) (by decide) rfl ?_
  intro p e s m args below meth c s₁ B hml hv
  obtain ⟨rfl, hsz, hP, hK, hD0, hN⟩ := hv
  have hx := B.exec
  have hb := B.bytes
  have hr := B.returns
  have hts := atoms_spec (ws := wv_m_one4) B.pre
  have hown : s.vm.findClass RX15 = some m.cls := findClass_of_methodNamed B.named
  have hlocks := B.notSynchronized
  subst hsz
  have hD := hD0.self (sz := s.heap.size)
  generalize hAe : va_A [] s.heap.size = A at hD ⊢
  have hA : ∀ q : Nat, s.heap.size ≤ q → A q := fun q h => by rw [← hAe]; exact Or.inr h
  obtain ⟨H, hHe, hP, hS⟩ : ∃ H : Heap, H = s.heap ∧ va_P (dC, dI) vwCl [] H ∧ va_S A s.heap H [] := ⟨s.heap, rfl, hP, va_S.rf⟩
  have hl := lv_entry ([.int 4]) (n := 1) (Nat.le_of_ble_eq_true rfl)
  rw [lg_entry_eq]
  generalize (lg_sl ([.int 4]) ++ List.replicate (1 - (lg_sl ([.int 4])).length) Slot.unset).toArray = ls at hl ⊢
  have hl : lv_has ls 1 [(0, .int 4)] := hl
  rw [← hHe]; clear hHe
  refine lv_lconst (v := 1) hx hb dX15_one_0 (by decide) ?_
  refine lv_bipush (v := 6) hx hb dX15_one_1 (by decide) ?_
  refine lv_iload_n hx hb dX15_one_3 rfl (lv_at hl 0 rfl) ?_
  refine lv_imul hx hb dX15_one_4 ?_
  refine lv_topi (fun v_1 ev_1 => ?_)
  have ev_1 : v_1 = 24 := ev_1.trans (by decide)
  subst ev_1
  refine lv_lshl (v := 16777216) hx hb dX15_one_5 (by decide) ?_
  have hP9 := hP.sub (ws' := []) [] rfl
  have hD9 := hD.sub (ws' := []) [] (by decide) rfl
  have hK9 := hK.sub (tys' := []) [] rfl
  rw [← hAe] at hD9
  refine W.widen (k := 0) (n := 0) (Nat.le_of_ble_eq_true rfl) (Nat.le_of_ble_eq_true rfl) ?_
  subst hAe
  exact (W.lret (v := 16777216) hx hb hr (fun t ht hW => ⟨⟨16777216, (), rfl, rfl, by rw [ht]; exact hP9, va_K.moved hW.alike hK9, hD9⟩, hS.F ht⟩) hS.2.2 dX15_one_6)
def wv_m_one5 : List Cond := .code yX15_one cX15_one 1 (some .long) :: ([] ++ ([]))
theorem gw_m_one5 : wv_m_one5.all goodWord = true := by decide +kernel
set_option maxHeartbeats 4000000 in
set_option maxRecDepth 100000 in
/-- one -/
theorem c_m_one5 (l : Launch) (dC : Nat → ClassId) (dI : Nat → Nat → Nat) (sz : Nat) : Met l yX15_one wv_m_one5 ({ frames := 0, cells := 0, slots := 0, locals := 0 }) (va_Pc [.int 5] (fun U => U.heap.size = sz ∧ va_P (dC, dI) vwCl [] U.heap ∧ va_K (dC, dI) vwCl [] U ∧ va_D (fun _ => True) [] ∧ w_N U)) (va_Ql (fun (r : Int64) (_ : Unit) => r = 1073741824) (fun _ t => va_P (dC, dI) vwCl [] t.heap ∧ va_K (dC, dI) vwCl [] t ∧ va_D (va_A [] sz) []) (va_A [] sz)) 0 0 (va_A [] sz) := by
  refine Met.ofW (cc := cX15_one) (maxL := 1) (ret := (some .long)) (by decide) rfl ?_
  intro p e s m args below meth c s₁ B hml hv
  obtain ⟨rfl, hsz, hP, hK, hD0, hN⟩ := hv
  have hx := B.exec
  have hb := B.bytes
  have hr := B.returns
  have hts := atoms_spec (ws := wv_m_one5) B.pre
  have hown : s.vm.findClass RX15 = some m.cls := findClass_of_methodNamed B.named
  have hlocks := B.notSynchronized
  subst hsz
  have hD := hD0.self (sz := s.heap.size)
  generalize hAe : va_A [] s.heap.size = A at hD ⊢
  have hA : ∀ q : Nat, s.heap.size ≤ q → A q := fun q h => by rw [← hAe]; exact Or.inr h
  obtain ⟨H, hHe, hP, hS⟩ : ∃ H : Heap, H = s.heap ∧ va_P (dC, dI) vwCl [] H ∧ va_S A s.heap H [] := ⟨s.heap, rfl, hP, va_S.rf⟩
  have hl := lv_entry ([.int 5]) (n := 1) (Nat.le_of_ble_eq_true rfl)
  rw [lg_entry_eq]
  generalize (lg_sl ([.int 5]) ++ List.replicate (1 - (lg_sl ([.int 5])).length) Slot.unset).toArray = ls at hl ⊢
  have hl : lv_has ls 1 [(0, .int 5)] := hl
  rw [← hHe]; clear hHe
  refine lv_lconst (v := 1) hx hb dX15_one_0 (by decide) ?_
  refine lv_bipush (v := 6) hx hb dX15_one_1 (by decide) ?_
  refine lv_iload_n hx hb dX15_one_3 rfl (lv_at hl 0 rfl) ?_
  refine lv_imul hx hb dX15_one_4 ?_
  refine lv_topi (fun v_1 ev_1 => ?_)
  have ev_1 : v_1 = 30 := ev_1.trans (by decide)
  subst ev_1
  refine lv_lshl (v := 1073741824) hx hb dX15_one_5 (by decide) ?_
  have hP9 := hP.sub (ws' := []) [] rfl
  have hD9 := hD.sub (ws' := []) [] (by decide) rfl
  have hK9 := hK.sub (tys' := []) [] rfl
  rw [← hAe] at hD9
  refine W.widen (k := 0) (n := 0) (Nat.le_of_ble_eq_true rfl) (Nat.le_of_ble_eq_true rfl) ?_
  subst hAe
  exact (W.lret (v := 1073741824) hx hb hr (fun t ht hW => ⟨⟨1073741824, (), rfl, rfl, by rw [ht]; exact hP9, va_K.moved hW.alike hK9, hD9⟩, hS.F ht⟩) hS.2.2 dX15_one_6)
