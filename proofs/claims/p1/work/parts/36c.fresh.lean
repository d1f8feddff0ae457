def wv_m_keyOf : List Cond := .code yX15_keyOf cX15_keyOf 7 (some .long) :: ([.methodLink RX15 416 yX15_one, .static yX15_one, .initialized RX15, .constantLong RX15 389 (-1)] ++ (wv_m_one5 ++ (wv_m_one4 ++ (wv_m_one3 ++ (wv_m_one2 ++ (wv_m_one1 ++ (wv_m_one0 ++ ([]))))))))
theorem gw_m_keyOf : wv_m_keyOf.all goodWord = true := by decide +kernel
theorem g_m_keyOf_m_one5_416 : GoodIn wv_m_keyOf (va_wsS RX15 416 yX15_one wv_m_one5) := goodIn_app (goodIn_of _ (by decide +kernel)) (goodIn_sub (fun _ h => List.mem_cons_of_mem _ (List.mem_append_right _ (List.mem_append_left _ h))) gw_m_one5)
theorem g_m_keyOf_m_one4_416 : GoodIn wv_m_keyOf (va_wsS RX15 416 yX15_one wv_m_one4) := goodIn_app (goodIn_of _ (by decide +kernel)) (goodIn_sub (fun _ h => List.mem_cons_of_mem _ (List.mem_append_right _ (List.mem_append_right _ (List.mem_append_left _ h)))) gw_m_one4)
theorem g_m_keyOf_m_one3_416 : GoodIn wv_m_keyOf (va_wsS RX15 416 yX15_one wv_m_one3) := goodIn_app (goodIn_of _ (by decide +kernel)) (goodIn_sub (fun _ h => List.mem_cons_of_mem _ (List.mem_append_right _ (List.mem_append_right _ (List.mem_append_right _ (List.mem_append_left _ h))))) gw_m_one3)
theorem g_m_keyOf_m_one2_416 : GoodIn wv_m_keyOf (va_wsS RX15 416 yX15_one wv_m_one2) := goodIn_app (goodIn_of _ (by decide +kernel)) (goodIn_sub (fun _ h => List.mem_cons_of_mem _ (List.mem_append_right _ (List.mem_append_right _ (List.mem_append_right _ (List.mem_append_right _ (List.mem_append_left _ h)))))) gw_m_one2)
theorem g_m_keyOf_m_one1_416 : GoodIn wv_m_keyOf (va_wsS RX15 416 yX15_one wv_m_one1) := goodIn_app (goodIn_of _ (by decide +kernel)) (goodIn_sub (fun _ h => List.mem_cons_of_mem _ (List.mem_append_right _ (List.mem_append_right _ (List.mem_append_right _ (List.mem_append_right _ (List.mem_append_right _ (List.mem_append_left _ h))))))) gw_m_one1)
theorem g_m_keyOf_m_one0_416 : GoodIn wv_m_keyOf (va_wsS RX15 416 yX15_one wv_m_one0) := goodIn_app (goodIn_of _ (by decide +kernel)) (goodIn_sub (fun _ h => List.mem_cons_of_mem _ (List.mem_append_right _ (List.mem_append_right _ (List.mem_append_right _ (List.mem_append_right _ (List.mem_append_right _ (List.mem_append_right _ (List.mem_append_left _ h)))))))) gw_m_one0)
set_option maxHeartbeats 4000000 in
set_option maxRecDepth 100000 in
/-- keyOf -/
theorem c_m_keyOf (l : Launch) (dC : Nat → ClassId) (dI : Nat → Nat → Nat) (x0 : Int32) (sz : Nat) : Met l yX15_keyOf wv_m_keyOf ({ frames := 1, cells := 0, slots := 0, locals := 20 }) (va_Pc [.int x0, .int 6, .int 4] (fun U => U.heap.size = sz ∧ va_P (dC, dI) vwCl [] U.heap ∧ va_K (dC, dI) vwCl [] U ∧ va_D (fun _ => True) [] ∧ w_N U)) (va_Ql (fun (r : Int64) (_ : Unit) => (r = (-1) ∧ ¬ kKey x0) ∨ (¬ r = (-1) ∧ kKey x0)) (fun _ t => va_P (dC, dI) vwCl [] t.heap ∧ va_K (dC, dI) vwCl [] t ∧ va_D (va_A [] sz) []) (va_A [] sz)) 0 0 (va_A [] sz) := by
  refine Met.ofW (cc := cX15_keyOf) (maxL := 7) (ret := (some .long)) (by decide) rfl ?_
  intro p e s m args below meth c s₁ B hml hv
  obtain ⟨rfl, hsz, hP, hK, hD0, hN⟩ := hv
  have hx := B.exec
  have hb := B.bytes
  have hr := B.returns
  have hts := atoms_spec (ws := wv_m_keyOf) B.pre
  have hown : s.vm.findClass RX15 = some m.cls := findClass_of_methodNamed B.named
  have hlocks := B.notSynchronized
  subst hsz
  have hD := hD0.self (sz := s.heap.size)
  generalize hAe : va_A [] s.heap.size = A at hD ⊢
  have hA : ∀ q : Nat, s.heap.size ≤ q → A q := fun q h => by rw [← hAe]; exact Or.inr h
  obtain ⟨H, hHe, hP, hS⟩ : ∃ H : Heap, H = s.heap ∧ va_P (dC, dI) vwCl [] H ∧ va_S A s.heap H [] := ⟨s.heap, rfl, hP, va_S.rf⟩
  have hl := lv_entry ([.int x0, .int 6, .int 4]) (n := 7) (Nat.le_of_ble_eq_true rfl)
  rw [lg_entry_eq]
  generalize (lg_sl ([.int x0, .int 6, .int 4]) ++ List.replicate (7 - (lg_sl ([.int x0, .int 6, .int 4])).length) Slot.unset).toArray = ls at hl ⊢
  have hl : lv_has ls 7 [(0, .int x0), (1, .int 6), (2, .int 4)] := hl
  rw [← hHe]; clear hHe
  refine lv_lconst (v := 0) hx hb dX15_keyOf_0 (by decide) ?_
  refine lv_lstore_n (lv' := [(3, .long 0), (0, .int x0), (1, .int 6), (2, .int 4)]) hx hb dX15_keyOf_1 rfl hl (by decide) rfl (fun ls hl => ?_)
  refine lv_iload_n hx hb dX15_keyOf_2 rfl (lv_at hl 1 rfl) ?_
  refine lv_istore (lv' := [(5, .int x0), (3, .long 0), (0, .int x0), (1, .int 6), (2, .int 4)]) hx hb dX15_keyOf_3 hl (by decide) rfl (fun ls hl => ?_)
  refine lv_iload_n hx hb dX15_keyOf_5 rfl (lv_at hl 3 rfl) ?_
  refine lv_iconst (v := 1) hx hb dX15_keyOf_6 (by decide) ?_
  refine lv_isub hx hb dX15_keyOf_7 ?_
  refine lv_topi (fun v_1 ev_1 => ?_)
  have ev_1 : v_1 = 5 := ev_1.trans (by decide)
  subst ev_1
  refine lv_istore (lv' := [(6, .int 5), (5, .int x0), (3, .long 0), (0, .int x0), (1, .int 6), (2, .int 4)]) hx hb dX15_keyOf_8 hl (by decide) rfl (fun ls hl => ?_)
  refine lv_iload hx hb dX15_keyOf_10 (lv_at hl 0 rfl) ?_
  refine lv_if_lt (tgt := 56) hx hb dX15_keyOf_12 (by decide) (fun hc => absurd hc (by decide)) (fun _ => ?_)
  refine lv_iload hx hb dX15_keyOf_15 (lv_at hl 1 rfl) ?_
  refine lv_bipush (v := 10) hx hb dX15_keyOf_17 (by decide) ?_
  refine lv_irem hx hb dX15_keyOf_19 (by decide) ?_
  refine lv_iload_n hx hb dX15_keyOf_20 rfl (lv_at hl 5 rfl) ?_
  refine lv_icmp_le (tgt := 28) hx hb dX15_keyOf_21 (by decide) (fun hc_2 => ?_) (fun hc_2 => ?_)
  · skip
    refine lv_lload_n hx hb dX15_keyOf_28 rfl (lv_at hl 2 rfl) ?_
    refine lv_iload hx hb dX15_keyOf_29 (lv_at hl 1 rfl) ?_
    refine lv_bipush (v := 10) hx hb dX15_keyOf_31 (by decide) ?_
    refine lv_irem hx hb dX15_keyOf_33 (by decide) ?_
    refine lv_i2l (v := (((x0 - x0 / 10 * 10) : Int32).toInt64)) hx hb dX15_keyOf_34 rfl ?_
    refine lv_iload hx hb dX15_keyOf_35 (lv_at hl 0 rfl) ?_
    have hPc := hP.sub (ws' := []) [] rfl
    have hDc := hD.sub (ws' := []) [] (by decide) rfl
    have hKc := hK.sub (tys' := []) [] rfl
    have hFc := va_free (wc := []) hD hS hA [] rfl
    refine va_calll (va_runS (As := [.int 5]) (rest := [.long (((x0 - x0 / 10 * 10) : Int32).toInt64), .long 0]) ⟨hx, hb, hml, hown, hts⟩ (c_m_one5 l dC dI  H.size) (va_cwS 1 hts g_m_keyOf_m_one5_416 rfl rfl rfl hd_X15_one ⟨Nat.le_of_ble_eq_true rfl, Nat.le_of_ble_eq_true rfl⟩) ⟨fun a U g mk q => by obtain ⟨q0, q1, qP, qK, qD, qE0⟩ := q; exact ⟨q0, q1, qP, va_K.moved (u := U) (U := U.calling g mk a) (Vm.Alike.refl U.vm) qK, qD, w_N.same rfl qE0⟩, fun U hU hW => ⟨rfl, by rw [hU], by rw [hU]; exact hPc, va_K.moved hW.alike hKc, hDc.weaken (fun _ _ _ _ => trivial), w_N.warm hW hN⟩⟩ rfl rfl hl.1 rfl (lv_room (Nat.le_of_ble_eq_true rfl)) dX15_keyOf_37 ⟨(Nat.le_of_ble_eq_true rfl), (Nat.le_of_ble_eq_true rfl)⟩) hS (fun q _ h => hFc q h) hFc (fun r_3 u t H1 locs1 ht hvm hw hB hz1 hk1 hS1 => ?_)
    obtain ⟨hP1, hK1, hD1⟩ := hB
    rw [ht] at hP1
    have hK1 := va_K.moved hvm.symm hK1
    have hJ := va_join (wr := []) (w1 := []) hP hD [] [] rfl rfl (by decide) (by decide) hk1 hFc hP1 hD1
    clear hP hD hPc hDc hKc hFc hz1; try clear hk1
    obtain ⟨hP, hD⟩ := hJ
    replace hK := (hK.sub (tys' := []) [] rfl).app (hK1.sub (tys' := []) [] rfl)
    clear hP1 hK1 hD1 hvm ht hS; try clear t
    try clear H
    revert hS1
    intro hS
    generalize H1 = H at hP hS ⊢; try clear H1
    replace hP : va_P (dC, dI) vwCl [] H := hP
    replace hD : va_D A [] := hD
    replace hK : va_K (dC, dI) vwCl [] s := hK
    have hw_4 : r_3 = 1073741824 := hw; clear hw
    subst hw_4
    refine lv_lmul hx hb dX15_keyOf_40 ?_
    refine lv_ladd hx hb dX15_keyOf_41 ?_
    refine lv_lstore_n (lv' := [(3, .long (0 + ((((x0 - x0 / 10 * 10) : Int32).toInt64) * 1073741824))), (6, .int 5), (5, .int x0), (0, .int x0), (1, .int 6), (2, .int 4)]) hx hb dX15_keyOf_42 rfl hl (by decide) rfl (fun ls hl => ?_)
    refine lv_iload hx hb dX15_keyOf_43 (lv_at hl 2 rfl) ?_
    refine lv_bipush (v := 10) hx hb dX15_keyOf_45 (by decide) ?_
    refine lv_idiv hx hb dX15_keyOf_47 (by decide) ?_
    refine lv_istore (lv' := [(5, .int (x0 / 10)), (3, .long (0 + ((((x0 - x0 / 10 * 10) : Int32).toInt64) * 1073741824))), (6, .int 5), (0, .int x0), (1, .int 6), (2, .int 4)]) hx hb dX15_keyOf_48 hl (by decide) rfl (fun ls hl => ?_)
    refine lv_iinc (v := 4) (lv' := [(6, .int 4), (5, .int (x0 / 10)), (3, .long (0 + ((((x0 - x0 / 10 * 10) : Int32).toInt64) * 1073741824))), (0, .int x0), (1, .int 6), (2, .int 4)]) hx hb dX15_keyOf_50 hl (k := 2) rfl (by decide) (by decide) rfl (fun ls hl => ?_)
    refine lv_goto (tgt := 10) hx hb dX15_keyOf_53 (by decide) ?_
    refine lv_iload hx hb dX15_keyOf_10 (lv_at hl 0 rfl) ?_
    refine lv_if_lt (tgt := 56) hx hb dX15_keyOf_12 (by decide) (fun hc => absurd hc (by decide)) (fun _ => ?_)
    refine lv_iload hx hb dX15_keyOf_15 (lv_at hl 1 rfl) ?_
    refine lv_bipush (v := 10) hx hb dX15_keyOf_17 (by decide) ?_
    refine lv_irem hx hb dX15_keyOf_19 (by decide) ?_
    refine lv_iload_n hx hb dX15_keyOf_20 rfl (lv_at hl 5 rfl) ?_
    refine lv_icmp_le (tgt := 28) hx hb dX15_keyOf_21 (by decide) (fun hc_5 => ?_) (fun hc_5 => ?_)
    · skip
      refine lv_lload_n hx hb dX15_keyOf_28 rfl (lv_at hl 2 rfl) ?_
      refine lv_iload hx hb dX15_keyOf_29 (lv_at hl 1 rfl) ?_
      refine lv_bipush (v := 10) hx hb dX15_keyOf_31 (by decide) ?_
      refine lv_irem hx hb dX15_keyOf_33 (by decide) ?_
      refine lv_i2l (v := ((((x0 / 10) - (x0 / 10) / 10 * 10) : Int32).toInt64)) hx hb dX15_keyOf_34 rfl ?_
      refine lv_iload hx hb dX15_keyOf_35 (lv_at hl 0 rfl) ?_
      have hPc := hP.sub (ws' := []) [] rfl
      have hDc := hD.sub (ws' := []) [] (by decide) rfl
      have hKc := hK.sub (tys' := []) [] rfl
      have hFc := va_free (wc := []) hD hS hA [] rfl
      refine va_calll (va_runS (As := [.int 4]) (rest := [.long ((((x0 / 10) - (x0 / 10) / 10 * 10) : Int32).toInt64), .long (0 + ((((x0 - x0 / 10 * 10) : Int32).toInt64) * 1073741824))]) ⟨hx, hb, hml, hown, hts⟩ (c_m_one4 l dC dI  H.size) (va_cwS 1 hts g_m_keyOf_m_one4_416 rfl rfl rfl hd_X15_one ⟨Nat.le_of_ble_eq_true rfl, Nat.le_of_ble_eq_true rfl⟩) ⟨fun a U g mk q => by obtain ⟨q0, q1, qP, qK, qD, qE0⟩ := q; exact ⟨q0, q1, qP, va_K.moved (u := U) (U := U.calling g mk a) (Vm.Alike.refl U.vm) qK, qD, w_N.same rfl qE0⟩, fun U hU hW => ⟨rfl, by rw [hU], by rw [hU]; exact hPc, va_K.moved hW.alike hKc, hDc.weaken (fun _ _ _ _ => trivial), w_N.warm hW hN⟩⟩ rfl rfl hl.1 rfl (lv_room (Nat.le_of_ble_eq_true rfl)) dX15_keyOf_37 ⟨(Nat.le_of_ble_eq_true rfl), (Nat.le_of_ble_eq_true rfl)⟩) hS (fun q _ h => hFc q h) hFc (fun r_6 u t H1 locs1 ht hvm hw hB hz1 hk1 hS1 => ?_)
      obtain ⟨hP1, hK1, hD1⟩ := hB
      rw [ht] at hP1
      have hK1 := va_K.moved hvm.symm hK1
      have hJ := va_join (wr := []) (w1 := []) hP hD [] [] rfl rfl (by decide) (by decide) hk1 hFc hP1 hD1
      clear hP hD hPc hDc hKc hFc hz1; try clear hk1
      obtain ⟨hP, hD⟩ := hJ
      replace hK := (hK.sub (tys' := []) [] rfl).app (hK1.sub (tys' := []) [] rfl)
      clear hP1 hK1 hD1 hvm ht hS; try clear t
      try clear H
      revert hS1
      intro hS
      generalize H1 = H at hP hS ⊢; try clear H1
      replace hP : va_P (dC, dI) vwCl [] H := hP
      replace hD : va_D A [] := hD
      replace hK : va_K (dC, dI) vwCl [] s := hK
      have hw_7 : r_6 = 16777216 := hw; clear hw
      subst hw_7
      refine lv_lmul hx hb dX15_keyOf_40 ?_
      refine lv_ladd hx hb dX15_keyOf_41 ?_
      refine lv_lstore_n (lv' := [(3, .long ((0 + ((((x0 - x0 / 10 * 10) : Int32).toInt64) * 1073741824)) + (((((x0 / 10) - (x0 / 10) / 10 * 10) : Int32).toInt64) * 16777216))), (6, .int 4), (5, .int (x0 / 10)), (0, .int x0), (1, .int 6), (2, .int 4)]) hx hb dX15_keyOf_42 rfl hl (by decide) rfl (fun ls hl => ?_)
      refine lv_iload hx hb dX15_keyOf_43 (lv_at hl 2 rfl) ?_
      refine lv_bipush (v := 10) hx hb dX15_keyOf_45 (by decide) ?_
      refine lv_idiv hx hb dX15_keyOf_47 (by decide) ?_
      refine lv_istore (lv' := [(5, .int ((x0 / 10) / 10)), (3, .long ((0 + ((((x0 - x0 / 10 * 10) : Int32).toInt64) * 1073741824)) + (((((x0 / 10) - (x0 / 10) / 10 * 10) : Int32).toInt64) * 16777216))), (6, .int 4), (0, .int x0), (1, .int 6), (2, .int 4)]) hx hb dX15_keyOf_48 hl (by decide) rfl (fun ls hl => ?_)
      refine lv_iinc (v := 3) (lv' := [(6, .int 3), (5, .int ((x0 / 10) / 10)), (3, .long ((0 + ((((x0 - x0 / 10 * 10) : Int32).toInt64) * 1073741824)) + (((((x0 / 10) - (x0 / 10) / 10 * 10) : Int32).toInt64) * 16777216))), (0, .int x0), (1, .int 6), (2, .int 4)]) hx hb dX15_keyOf_50 hl (k := 2) rfl (by decide) (by decide) rfl (fun ls hl => ?_)
      refine lv_goto (tgt := 10) hx hb dX15_keyOf_53 (by decide) ?_
      refine lv_iload hx hb dX15_keyOf_10 (lv_at hl 0 rfl) ?_
      refine lv_if_lt (tgt := 56) hx hb dX15_keyOf_12 (by decide) (fun hc => absurd hc (by decide)) (fun _ => ?_)
      refine lv_iload hx hb dX15_keyOf_15 (lv_at hl 1 rfl) ?_
      refine lv_bipush (v := 10) hx hb dX15_keyOf_17 (by decide) ?_
      refine lv_irem hx hb dX15_keyOf_19 (by decide) ?_
      refine lv_iload_n hx hb dX15_keyOf_20 rfl (lv_at hl 5 rfl) ?_
      refine lv_icmp_le (tgt := 28) hx hb dX15_keyOf_21 (by decide) (fun hc_8 => ?_) (fun hc_8 => ?_)
      · skip
        refine lv_lload_n hx hb dX15_keyOf_28 rfl (lv_at hl 2 rfl) ?_
        refine lv_iload hx hb dX15_keyOf_29 (lv_at hl 1 rfl) ?_
        refine lv_bipush (v := 10) hx hb dX15_keyOf_31 (by decide) ?_
        refine lv_irem hx hb dX15_keyOf_33 (by decide) ?_
        refine lv_i2l (v := (((((x0 / 10) / 10) - ((x0 / 10) / 10) / 10 * 10) : Int32).toInt64)) hx hb dX15_keyOf_34 rfl ?_
        refine lv_iload hx hb dX15_keyOf_35 (lv_at hl 0 rfl) ?_
        have hPc := hP.sub (ws' := []) [] rfl
        have hDc := hD.sub (ws' := []) [] (by decide) rfl
        have hKc := hK.sub (tys' := []) [] rfl
        have hFc := va_free (wc := []) hD hS hA [] rfl
        refine va_calll (va_runS (As := [.int 3]) (rest := [.long (((((x0 / 10) / 10) - ((x0 / 10) / 10) / 10 * 10) : Int32).toInt64), .long ((0 + ((((x0 - x0 / 10 * 10) : Int32).toInt64) * 1073741824)) + (((((x0 / 10) - (x0 / 10) / 10 * 10) : Int32).toInt64) * 16777216))]) ⟨hx, hb, hml, hown, hts⟩ (c_m_one3 l dC dI  H.size) (va_cwS 1 hts g_m_keyOf_m_one3_416 rfl rfl rfl hd_X15_one ⟨Nat.le_of_ble_eq_true rfl, Nat.le_of_ble_eq_true rfl⟩) ⟨fun a U g mk q => by obtain ⟨q0, q1, qP, qK, qD, qE0⟩ := q; exact ⟨q0, q1, qP, va_K.moved (u := U) (U := U.calling g mk a) (Vm.Alike.refl U.vm) qK, qD, w_N.same rfl qE0⟩, fun U hU hW => ⟨rfl, by rw [hU], by rw [hU]; exact hPc, va_K.moved hW.alike hKc, hDc.weaken (fun _ _ _ _ => trivial), w_N.warm hW hN⟩⟩ rfl rfl hl.1 rfl (lv_room (Nat.le_of_ble_eq_true rfl)) dX15_keyOf_37 ⟨(Nat.le_of_ble_eq_true rfl), (Nat.le_of_ble_eq_true rfl)⟩) hS (fun q _ h => hFc q h) hFc (fun r_9 u t H1 locs1 ht hvm hw hB hz1 hk1 hS1 => ?_)
        obtain ⟨hP1, hK1, hD1⟩ := hB
        rw [ht] at hP1
        have hK1 := va_K.moved hvm.symm hK1
        have hJ := va_join (wr := []) (w1 := []) hP hD [] [] rfl rfl (by decide) (by decide) hk1 hFc hP1 hD1
        clear hP hD hPc hDc hKc hFc hz1; try clear hk1
        obtain ⟨hP, hD⟩ := hJ
        replace hK := (hK.sub (tys' := []) [] rfl).app (hK1.sub (tys' := []) [] rfl)
        clear hP1 hK1 hD1 hvm ht hS; try clear t
        try clear H
        revert hS1
        intro hS
        generalize H1 = H at hP hS ⊢; try clear H1
        replace hP : va_P (dC, dI) vwCl [] H := hP
        replace hD : va_D A [] := hD
        replace hK : va_K (dC, dI) vwCl [] s := hK
        have hw_10 : r_9 = 262144 := hw; clear hw
        subst hw_10
        refine lv_lmul hx hb dX15_keyOf_40 ?_
        refine lv_ladd hx hb dX15_keyOf_41 ?_
        refine lv_lstore_n (lv' := [(3, .long (((0 + ((((x0 - x0 / 10 * 10) : Int32).toInt64) * 1073741824)) + (((((x0 / 10) - (x0 / 10) / 10 * 10) : Int32).toInt64) * 16777216)) + ((((((x0 / 10) / 10) - ((x0 / 10) / 10) / 10 * 10) : Int32).toInt64) * 262144))), (6, .int 3), (5, .int ((x0 / 10) / 10)), (0, .int x0), (1, .int 6), (2, .int 4)]) hx hb dX15_keyOf_42 rfl hl (by decide) rfl (fun ls hl => ?_)
        refine lv_iload hx hb dX15_keyOf_43 (lv_at hl 2 rfl) ?_
        refine lv_bipush (v := 10) hx hb dX15_keyOf_45 (by decide) ?_
        refine lv_idiv hx hb dX15_keyOf_47 (by decide) ?_
        refine lv_istore (lv' := [(5, .int (((x0 / 10) / 10) / 10)), (3, .long (((0 + ((((x0 - x0 / 10 * 10) : Int32).toInt64) * 1073741824)) + (((((x0 / 10) - (x0 / 10) / 10 * 10) : Int32).toInt64) * 16777216)) + ((((((x0 / 10) / 10) - ((x0 / 10) / 10) / 10 * 10) : Int32).toInt64) * 262144))), (6, .int 3), (0, .int x0), (1, .int 6), (2, .int 4)]) hx hb dX15_keyOf_48 hl (by decide) rfl (fun ls hl => ?_)
        refine lv_iinc (v := 2) (lv' := [(6, .int 2), (5, .int (((x0 / 10) / 10) / 10)), (3, .long (((0 + ((((x0 - x0 / 10 * 10) : Int32).toInt64) * 1073741824)) + (((((x0 / 10) - (x0 / 10) / 10 * 10) : Int32).toInt64) * 16777216)) + ((((((x0 / 10) / 10) - ((x0 / 10) / 10) / 10 * 10) : Int32).toInt64) * 262144))), (0, .int x0), (1, .int 6), (2, .int 4)]) hx hb dX15_keyOf_50 hl (k := 2) rfl (by decide) (by decide) rfl (fun ls hl => ?_)
        refine lv_goto (tgt := 10) hx hb dX15_keyOf_53 (by decide) ?_
        refine lv_iload hx hb dX15_keyOf_10 (lv_at hl 0 rfl) ?_
        refine lv_if_lt (tgt := 56) hx hb dX15_keyOf_12 (by decide) (fun hc => absurd hc (by decide)) (fun _ => ?_)
        refine lv_iload hx hb dX15_keyOf_15 (lv_at hl 1 rfl) ?_
        refine lv_bipush (v := 10) hx hb dX15_keyOf_17 (by decide) ?_
        refine lv_irem hx hb dX15_keyOf_19 (by decide) ?_
        refine lv_iload_n hx hb dX15_keyOf_20 rfl (lv_at hl 5 rfl) ?_
        refine lv_icmp_le (tgt := 28) hx hb dX15_keyOf_21 (by decide) (fun hc_11 => ?_) (fun hc_11 => ?_)
        · skip
          refine lv_lload_n hx hb dX15_keyOf_28 rfl (lv_at hl 2 rfl) ?_
          refine lv_iload hx hb dX15_keyOf_29 (lv_at hl 1 rfl) ?_
          refine lv_bipush (v := 10) hx hb dX15_keyOf_31 (by decide) ?_
          refine lv_irem hx hb dX15_keyOf_33 (by decide) ?_
          refine lv_i2l (v := ((((((x0 / 10) / 10) / 10) - (((x0 / 10) / 10) / 10) / 10 * 10) : Int32).toInt64)) hx hb dX15_keyOf_34 rfl ?_
          refine lv_iload hx hb dX15_keyOf_35 (lv_at hl 0 rfl) ?_
          have hPc := hP.sub (ws' := []) [] rfl
          have hDc := hD.sub (ws' := []) [] (by decide) rfl
          have hKc := hK.sub (tys' := []) [] rfl
          have hFc := va_free (wc := []) hD hS hA [] rfl
          refine va_calll (va_runS (As := [.int 2]) (rest := [.long ((((((x0 / 10) / 10) / 10) - (((x0 / 10) / 10) / 10) / 10 * 10) : Int32).toInt64), .long (((0 + ((((x0 - x0 / 10 * 10) : Int32).toInt64) * 1073741824)) + (((((x0 / 10) - (x0 / 10) / 10 * 10) : Int32).toInt64) * 16777216)) + ((((((x0 / 10) / 10) - ((x0 / 10) / 10) / 10 * 10) : Int32).toInt64) * 262144))]) ⟨hx, hb, hml, hown, hts⟩ (c_m_one2 l dC dI  H.size) (va_cwS 1 hts g_m_keyOf_m_one2_416 rfl rfl rfl hd_X15_one ⟨Nat.le_of_ble_eq_true rfl, Nat.le_of_ble_eq_true rfl⟩) ⟨fun a U g mk q => by obtain ⟨q0, q1, qP, qK, qD, qE0⟩ := q; exact ⟨q0, q1, qP, va_K.moved (u := U) (U := U.calling g mk a) (Vm.Alike.refl U.vm) qK, qD, w_N.same rfl qE0⟩, fun U hU hW => ⟨rfl, by rw [hU], by rw [hU]; exact hPc, va_K.moved hW.alike hKc, hDc.weaken (fun _ _ _ _ => trivial), w_N.warm hW hN⟩⟩ rfl rfl hl.1 rfl (lv_room (Nat.le_of_ble_eq_true rfl)) dX15_keyOf_37 ⟨(Nat.le_of_ble_eq_true rfl), (Nat.le_of_ble_eq_true rfl)⟩) hS (fun q _ h => hFc q h) hFc (fun r_12 u t H1 locs1 ht hvm hw hB hz1 hk1 hS1 => ?_)
          obtain ⟨hP1, hK1, hD1⟩ := hB
          rw [ht] at hP1
          have hK1 := va_K.moved hvm.symm hK1
          have hJ := va_join (wr := []) (w1 := []) hP hD [] [] rfl rfl (by decide) (by decide) hk1 hFc hP1 hD1
          clear hP hD hPc hDc hKc hFc hz1; try clear hk1
          obtain ⟨hP, hD⟩ := hJ
          replace hK := (hK.sub (tys' := []) [] rfl).app (hK1.sub (tys' := []) [] rfl)
          clear hP1 hK1 hD1 hvm ht hS; try clear t
          try clear H
          revert hS1
          intro hS
          generalize H1 = H at hP hS ⊢; try clear H1
          replace hP : va_P (dC, dI) vwCl [] H := hP
          replace hD : va_D A [] := hD
          replace hK : va_K (dC, dI) vwCl [] s := hK
          have hw_13 : r_12 = 4096 := hw; clear hw
          subst hw_13
          refine lv_lmul hx hb dX15_keyOf_40 ?_
          refine lv_ladd hx hb dX15_keyOf_41 ?_
          refine lv_lstore_n (lv' := [(3, .long ((((0 + ((((x0 - x0 / 10 * 10) : Int32).toInt64) * 1073741824)) + (((((x0 / 10) - (x0 / 10) / 10 * 10) : Int32).toInt64) * 16777216)) + ((((((x0 / 10) / 10) - ((x0 / 10) / 10) / 10 * 10) : Int32).toInt64) * 262144)) + (((((((x0 / 10) / 10) / 10) - (((x0 / 10) / 10) / 10) / 10 * 10) : Int32).toInt64) * 4096))), (6, .int 2), (5, .int (((x0 / 10) / 10) / 10)), (0, .int x0), (1, .int 6), (2, .int 4)]) hx hb dX15_keyOf_42 rfl hl (by decide) rfl (fun ls hl => ?_)
          refine lv_iload hx hb dX15_keyOf_43 (lv_at hl 2 rfl) ?_
          refine lv_bipush (v := 10) hx hb dX15_keyOf_45 (by decide) ?_
          refine lv_idiv hx hb dX15_keyOf_47 (by decide) ?_
          refine lv_istore (lv' := [(5, .int ((((x0 / 10) / 10) / 10) / 10)), (3, .long ((((0 + ((((x0 - x0 / 10 * 10) : Int32).toInt64) * 1073741824)) + (((((x0 / 10) - (x0 / 10) / 10 * 10) : Int32).toInt64) * 16777216)) + ((((((x0 / 10) / 10) - ((x0 / 10) / 10) / 10 * 10) : Int32).toInt64) * 262144)) + (((((((x0 / 10) / 10) / 10) - (((x0 / 10) / 10) / 10) / 10 * 10) : Int32).toInt64) * 4096))), (6, .int 2), (0, .int x0), (1, .int 6), (2, .int 4)]) hx hb dX15_keyOf_48 hl (by decide) rfl (fun ls hl => ?_)
          refine lv_iinc (v := 1) (lv' := [(6, .int 1), (5, .int ((((x0 / 10) / 10) / 10) / 10)), (3, .long ((((0 + ((((x0 - x0 / 10 * 10) : Int32).toInt64) * 1073741824)) + (((((x0 / 10) - (x0 / 10) / 10 * 10) : Int32).toInt64) * 16777216)) + ((((((x0 / 10) / 10) - ((x0 / 10) / 10) / 10 * 10) : Int32).toInt64) * 262144)) + (((((((x0 / 10) / 10) / 10) - (((x0 / 10) / 10) / 10) / 10 * 10) : Int32).toInt64) * 4096))), (0, .int x0), (1, .int 6), (2, .int 4)]) hx hb dX15_keyOf_50 hl (k := 2) rfl (by decide) (by decide) rfl (fun ls hl => ?_)
          refine lv_goto (tgt := 10) hx hb dX15_keyOf_53 (by decide) ?_
          refine lv_iload hx hb dX15_keyOf_10 (lv_at hl 0 rfl) ?_
          refine lv_if_lt (tgt := 56) hx hb dX15_keyOf_12 (by decide) (fun hc => absurd hc (by decide)) (fun _ => ?_)
          refine lv_iload hx hb dX15_keyOf_15 (lv_at hl 1 rfl) ?_
          refine lv_bipush (v := 10) hx hb dX15_keyOf_17 (by decide) ?_
          refine lv_irem hx hb dX15_keyOf_19 (by decide) ?_
          refine lv_iload_n hx hb dX15_keyOf_20 rfl (lv_at hl 5 rfl) ?_
          refine lv_icmp_le (tgt := 28) hx hb dX15_keyOf_21 (by decide) (fun hc_14 => ?_) (fun hc_14 => ?_)
          · skip
            refine lv_lload_n hx hb dX15_keyOf_28 rfl (lv_at hl 2 rfl) ?_
            refine lv_iload hx hb dX15_keyOf_29 (lv_at hl 1 rfl) ?_
            refine lv_bipush (v := 10) hx hb dX15_keyOf_31 (by decide) ?_
            refine lv_irem hx hb dX15_keyOf_33 (by decide) ?_
            refine lv_i2l (v := (((((((x0 / 10) / 10) / 10) / 10) - ((((x0 / 10) / 10) / 10) / 10) / 10 * 10) : Int32).toInt64)) hx hb dX15_keyOf_34 rfl ?_
            refine lv_iload hx hb dX15_keyOf_35 (lv_at hl 0 rfl) ?_
            have hPc := hP.sub (ws' := []) [] rfl
            have hDc := hD.sub (ws' := []) [] (by decide) rfl
            have hKc := hK.sub (tys' := []) [] rfl
            have hFc := va_free (wc := []) hD hS hA [] rfl
            refine va_calll (va_runS (As := [.int 1]) (rest := [.long (((((((x0 / 10) / 10) / 10) / 10) - ((((x0 / 10) / 10) / 10) / 10) / 10 * 10) : Int32).toInt64), .long ((((0 + ((((x0 - x0 / 10 * 10) : Int32).toInt64) * 1073741824)) + (((((x0 / 10) - (x0 / 10) / 10 * 10) : Int32).toInt64) * 16777216)) + ((((((x0 / 10) / 10) - ((x0 / 10) / 10) / 10 * 10) : Int32).toInt64) * 262144)) + (((((((x0 / 10) / 10) / 10) - (((x0 / 10) / 10) / 10) / 10 * 10) : Int32).toInt64) * 4096))]) ⟨hx, hb, hml, hown, hts⟩ (c_m_one1 l dC dI  H.size) (va_cwS 1 hts g_m_keyOf_m_one1_416 rfl rfl rfl hd_X15_one ⟨Nat.le_of_ble_eq_true rfl, Nat.le_of_ble_eq_true rfl⟩) ⟨fun a U g mk q => by obtain ⟨q0, q1, qP, qK, qD, qE0⟩ := q; exact ⟨q0, q1, qP, va_K.moved (u := U) (U := U.calling g mk a) (Vm.Alike.refl U.vm) qK, qD, w_N.same rfl qE0⟩, fun U hU hW => ⟨rfl, by rw [hU], by rw [hU]; exact hPc, va_K.moved hW.alike hKc, hDc.weaken (fun _ _ _ _ => trivial), w_N.warm hW hN⟩⟩ rfl rfl hl.1 rfl (lv_room (Nat.le_of_ble_eq_true rfl)) dX15_keyOf_37 ⟨(Nat.le_of_ble_eq_true rfl), (Nat.le_of_ble_eq_true rfl)⟩) hS (fun q _ h => hFc q h) hFc (fun r_15 u t H1 locs1 ht hvm hw hB hz1 hk1 hS1 => ?_)
            obtain ⟨hP1, hK1, hD1⟩ := hB
            rw [ht] at hP1
            have hK1 := va_K.moved hvm.symm hK1
            have hJ := va_join (wr := []) (w1 := []) hP hD [] [] rfl rfl (by decide) (by decide) hk1 hFc hP1 hD1
            clear hP hD hPc hDc hKc hFc hz1; try clear hk1
            obtain ⟨hP, hD⟩ := hJ
            replace hK := (hK.sub (tys' := []) [] rfl).app (hK1.sub (tys' := []) [] rfl)
            clear hP1 hK1 hD1 hvm ht hS; try clear t
            try clear H
            revert hS1
            intro hS
            generalize H1 = H at hP hS ⊢; try clear H1
            replace hP : va_P (dC, dI) vwCl [] H := hP
            replace hD : va_D A [] := hD
            replace hK : va_K (dC, dI) vwCl [] s := hK
            have hw_16 : r_15 = 64 := hw; clear hw
            subst hw_16
            refine lv_lmul hx hb dX15_keyOf_40 ?_
            refine lv_ladd hx hb dX15_keyOf_41 ?_
            refine lv_lstore_n (lv' := [(3, .long (((((0 + ((((x0 - x0 / 10 * 10) : Int32).toInt64) * 1073741824)) + (((((x0 / 10) - (x0 / 10) / 10 * 10) : Int32).toInt64) * 16777216)) + ((((((x0 / 10) / 10) - ((x0 / 10) / 10) / 10 * 10) : Int32).toInt64) * 262144)) + (((((((x0 / 10) / 10) / 10) - (((x0 / 10) / 10) / 10) / 10 * 10) : Int32).toInt64) * 4096)) + ((((((((x0 / 10) / 10) / 10) / 10) - ((((x0 / 10) / 10) / 10) / 10) / 10 * 10) : Int32).toInt64) * 64))), (6, .int 1), (5, .int ((((x0 / 10) / 10) / 10) / 10)), (0, .int x0), (1, .int 6), (2, .int 4)]) hx hb dX15_keyOf_42 rfl hl (by decide) rfl (fun ls hl => ?_)
            refine lv_iload hx hb dX15_keyOf_43 (lv_at hl 2 rfl) ?_
            refine lv_bipush (v := 10) hx hb dX15_keyOf_45 (by decide) ?_
            refine lv_idiv hx hb dX15_keyOf_47 (by decide) ?_
            refine lv_istore (lv' := [(5, .int (((((x0 / 10) / 10) / 10) / 10) / 10)), (3, .long (((((0 + ((((x0 - x0 / 10 * 10) : Int32).toInt64) * 1073741824)) + (((((x0 / 10) - (x0 / 10) / 10 * 10) : Int32).toInt64) * 16777216)) + ((((((x0 / 10) / 10) - ((x0 / 10) / 10) / 10 * 10) : Int32).toInt64) * 262144)) + (((((((x0 / 10) / 10) / 10) - (((x0 / 10) / 10) / 10) / 10 * 10) : Int32).toInt64) * 4096)) + ((((((((x0 / 10) / 10) / 10) / 10) - ((((x0 / 10) / 10) / 10) / 10) / 10 * 10) : Int32).toInt64) * 64))), (6, .int 1), (0, .int x0), (1, .int 6), (2, .int 4)]) hx hb dX15_keyOf_48 hl (by decide) rfl (fun ls hl => ?_)
            refine lv_iinc (v := 0) (lv' := [(6, .int 0), (5, .int (((((x0 / 10) / 10) / 10) / 10) / 10)), (3, .long (((((0 + ((((x0 - x0 / 10 * 10) : Int32).toInt64) * 1073741824)) + (((((x0 / 10) - (x0 / 10) / 10 * 10) : Int32).toInt64) * 16777216)) + ((((((x0 / 10) / 10) - ((x0 / 10) / 10) / 10 * 10) : Int32).toInt64) * 262144)) + (((((((x0 / 10) / 10) / 10) - (((x0 / 10) / 10) / 10) / 10 * 10) : Int32).toInt64) * 4096)) + ((((((((x0 / 10) / 10) / 10) / 10) - ((((x0 / 10) / 10) / 10) / 10) / 10 * 10) : Int32).toInt64) * 64))), (0, .int x0), (1, .int 6), (2, .int 4)]) hx hb dX15_keyOf_50 hl (k := 2) rfl (by decide) (by decide) rfl (fun ls hl => ?_)
            refine lv_goto (tgt := 10) hx hb dX15_keyOf_53 (by decide) ?_
            refine lv_iload hx hb dX15_keyOf_10 (lv_at hl 0 rfl) ?_
            refine lv_if_lt (tgt := 56) hx hb dX15_keyOf_12 (by decide) (fun hc => absurd hc (by decide)) (fun _ => ?_)
            refine lv_iload hx hb dX15_keyOf_15 (lv_at hl 1 rfl) ?_
            refine lv_bipush (v := 10) hx hb dX15_keyOf_17 (by decide) ?_
            refine lv_irem hx hb dX15_keyOf_19 (by decide) ?_
            refine lv_iload_n hx hb dX15_keyOf_20 rfl (lv_at hl 5 rfl) ?_
            refine lv_icmp_le (tgt := 28) hx hb dX15_keyOf_21 (by decide) (fun hc_17 => ?_) (fun hc_17 => ?_)
            · skip
              refine lv_lload_n hx hb dX15_keyOf_28 rfl (lv_at hl 2 rfl) ?_
              refine lv_iload hx hb dX15_keyOf_29 (lv_at hl 1 rfl) ?_
              refine lv_bipush (v := 10) hx hb dX15_keyOf_31 (by decide) ?_
              refine lv_irem hx hb dX15_keyOf_33 (by decide) ?_
              refine lv_i2l (v := ((((((((x0 / 10) / 10) / 10) / 10) / 10) - (((((x0 / 10) / 10) / 10) / 10) / 10) / 10 * 10) : Int32).toInt64)) hx hb dX15_keyOf_34 rfl ?_
              refine lv_iload hx hb dX15_keyOf_35 (lv_at hl 0 rfl) ?_
              have hPc := hP.sub (ws' := []) [] rfl
              have hDc := hD.sub (ws' := []) [] (by decide) rfl
              have hKc := hK.sub (tys' := []) [] rfl
              have hFc := va_free (wc := []) hD hS hA [] rfl
              refine va_calll (va_runS (As := [.int 0]) (rest := [.long ((((((((x0 / 10) / 10) / 10) / 10) / 10) - (((((x0 / 10) / 10) / 10) / 10) / 10) / 10 * 10) : Int32).toInt64), .long (((((0 + ((((x0 - x0 / 10 * 10) : Int32).toInt64) * 1073741824)) + (((((x0 / 10) - (x0 / 10) / 10 * 10) : Int32).toInt64) * 16777216)) + ((((((x0 / 10) / 10) - ((x0 / 10) / 10) / 10 * 10) : Int32).toInt64) * 262144)) + (((((((x0 / 10) / 10) / 10) - (((x0 / 10) / 10) / 10) / 10 * 10) : Int32).toInt64) * 4096)) + ((((((((x0 / 10) / 10) / 10) / 10) - ((((x0 / 10) / 10) / 10) / 10) / 10 * 10) : Int32).toInt64) * 64))]) ⟨hx, hb, hml, hown, hts⟩ (c_m_one0 l dC dI  H.size) (va_cwS 1 hts g_m_keyOf_m_one0_416 rfl rfl rfl hd_X15_one ⟨Nat.le_of_ble_eq_true rfl, Nat.le_of_ble_eq_true rfl⟩) ⟨fun a U g mk q => by obtain ⟨q0, q1, qP, qK, qD, qE0⟩ := q; exact ⟨q0, q1, qP, va_K.moved (u := U) (U := U.calling g mk a) (Vm.Alike.refl U.vm) qK, qD, w_N.same rfl qE0⟩, fun U hU hW => ⟨rfl, by rw [hU], by rw [hU]; exact hPc, va_K.moved hW.alike hKc, hDc.weaken (fun _ _ _ _ => trivial), w_N.warm hW hN⟩⟩ rfl rfl hl.1 rfl (lv_room (Nat.le_of_ble_eq_true rfl)) dX15_keyOf_37 ⟨(Nat.le_of_ble_eq_true rfl), (Nat.le_of_ble_eq_true rfl)⟩) hS (fun q _ h => hFc q h) hFc (fun r_18 u t H1 locs1 ht hvm hw hB hz1 hk1 hS1 => ?_)
              obtain ⟨hP1, hK1, hD1⟩ := hB
              rw [ht] at hP1
              have hK1 := va_K.moved hvm.symm hK1
              have hJ := va_join (wr := []) (w1 := []) hP hD [] [] rfl rfl (by decide) (by decide) hk1 hFc hP1 hD1
              clear hP hD hPc hDc hKc hFc hz1; try clear hk1
              obtain ⟨hP, hD⟩ := hJ
              replace hK := (hK.sub (tys' := []) [] rfl).app (hK1.sub (tys' := []) [] rfl)
              clear hP1 hK1 hD1 hvm ht hS; try clear t
              try clear H
              revert hS1
              intro hS
              generalize H1 = H at hP hS ⊢; try clear H1
              replace hP : va_P (dC, dI) vwCl [] H := hP
              replace hD : va_D A [] := hD
              replace hK : va_K (dC, dI) vwCl [] s := hK
              have hw_19 : r_18 = 1 := hw; clear hw
              subst hw_19
              refine lv_lmul hx hb dX15_keyOf_40 ?_
              refine lv_ladd hx hb dX15_keyOf_41 ?_
              refine lv_lstore_n (lv' := [(3, .long ((((((0 + ((((x0 - x0 / 10 * 10) : Int32).toInt64) * 1073741824)) + (((((x0 / 10) - (x0 / 10) / 10 * 10) : Int32).toInt64) * 16777216)) + ((((((x0 / 10) / 10) - ((x0 / 10) / 10) / 10 * 10) : Int32).toInt64) * 262144)) + (((((((x0 / 10) / 10) / 10) - (((x0 / 10) / 10) / 10) / 10 * 10) : Int32).toInt64) * 4096)) + ((((((((x0 / 10) / 10) / 10) / 10) - ((((x0 / 10) / 10) / 10) / 10) / 10 * 10) : Int32).toInt64) * 64)) + (((((((((x0 / 10) / 10) / 10) / 10) / 10) - (((((x0 / 10) / 10) / 10) / 10) / 10) / 10 * 10) : Int32).toInt64) * 1))), (6, .int 0), (5, .int (((((x0 / 10) / 10) / 10) / 10) / 10)), (0, .int x0), (1, .int 6), (2, .int 4)]) hx hb dX15_keyOf_42 rfl hl (by decide) rfl (fun ls hl => ?_)
              refine lv_iload hx hb dX15_keyOf_43 (lv_at hl 2 rfl) ?_
              refine lv_bipush (v := 10) hx hb dX15_keyOf_45 (by decide) ?_
              refine lv_idiv hx hb dX15_keyOf_47 (by decide) ?_
              refine lv_istore (lv' := [(5, .int ((((((x0 / 10) / 10) / 10) / 10) / 10) / 10)), (3, .long ((((((0 + ((((x0 - x0 / 10 * 10) : Int32).toInt64) * 1073741824)) + (((((x0 / 10) - (x0 / 10) / 10 * 10) : Int32).toInt64) * 16777216)) + ((((((x0 / 10) / 10) - ((x0 / 10) / 10) / 10 * 10) : Int32).toInt64) * 262144)) + (((((((x0 / 10) / 10) / 10) - (((x0 / 10) / 10) / 10) / 10 * 10) : Int32).toInt64) * 4096)) + ((((((((x0 / 10) / 10) / 10) / 10) - ((((x0 / 10) / 10) / 10) / 10) / 10 * 10) : Int32).toInt64) * 64)) + (((((((((x0 / 10) / 10) / 10) / 10) / 10) - (((((x0 / 10) / 10) / 10) / 10) / 10) / 10 * 10) : Int32).toInt64) * 1))), (6, .int 0), (0, .int x0), (1, .int 6), (2, .int 4)]) hx hb dX15_keyOf_48 hl (by decide) rfl (fun ls hl => ?_)
              refine lv_iinc (v := (-1)) (lv' := [(6, .int (-1)), (5, .int ((((((x0 / 10) / 10) / 10) / 10) / 10) / 10)), (3, .long ((((((0 + ((((x0 - x0 / 10 * 10) : Int32).toInt64) * 1073741824)) + (((((x0 / 10) - (x0 / 10) / 10 * 10) : Int32).toInt64) * 16777216)) + ((((((x0 / 10) / 10) - ((x0 / 10) / 10) / 10 * 10) : Int32).toInt64) * 262144)) + (((((((x0 / 10) / 10) / 10) - (((x0 / 10) / 10) / 10) / 10 * 10) : Int32).toInt64) * 4096)) + ((((((((x0 / 10) / 10) / 10) / 10) - ((((x0 / 10) / 10) / 10) / 10) / 10 * 10) : Int32).toInt64) * 64)) + (((((((((x0 / 10) / 10) / 10) / 10) / 10) - (((((x0 / 10) / 10) / 10) / 10) / 10) / 10 * 10) : Int32).toInt64) * 1))), (0, .int x0), (1, .int 6), (2, .int 4)]) hx hb dX15_keyOf_50 hl (k := 2) rfl (by decide) (by decide) rfl (fun ls hl => ?_)
              refine lv_goto (tgt := 10) hx hb dX15_keyOf_53 (by decide) ?_
              refine lv_iload hx hb dX15_keyOf_10 (lv_at hl 0 rfl) ?_
              refine lv_if_lt (tgt := 56) hx hb dX15_keyOf_12 (by decide) (fun _ => ?_) (fun hc => absurd (by decide) hc)
              refine lv_iload_n hx hb dX15_keyOf_56 rfl (lv_at hl 3 rfl) ?_
              refine lv_if_lt (tgt := 65) hx hb dX15_keyOf_57 (by decide) (fun hc_20 => ?_) (fun hc_20 => ?_)
              · skip
                refine lv_ldc2 (v := (-1)) hx hb hown (hts (.constantLong RX15 389 (-1)) (List.mem_of_getElem? (i := 4) rfl)) dX15_keyOf_65 ?_
                refine lv_goto (tgt := 72) hx hb dX15_keyOf_68 (by decide) ?_
                have hP9 := hP.sub (ws' := []) [] rfl
                have hD9 := hD.sub (ws' := []) [] (by decide) rfl
                have hK9 := hK.sub (tys' := []) [] rfl
                rw [← hAe] at hD9
                refine W.widen (k := 0) (n := 0) (Nat.le_of_ble_eq_true rfl) (Nat.le_of_ble_eq_true rfl) ?_
                subst hAe
                exact (W.lret (v := (-1)) hx hb hr (fun t ht hW => ⟨⟨(-1), (), rfl, Or.inl ⟨rfl, fun h9 => h9.2.2.2.2.2.2.1 hc_20⟩, by rw [ht]; exact hP9, va_K.moved hW.alike hK9, hD9⟩, hS.F ht⟩) hS.2.2 dX15_keyOf_72)
              · skip
                refine lv_iload hx hb dX15_keyOf_60 (lv_at hl 1 rfl) ?_
                refine lv_if_le (tgt := 71) hx hb dX15_keyOf_62 (by decide) (fun hc_21 => ?_) (fun hc_21 => ?_)
                · skip
                  refine lv_lload_n hx hb dX15_keyOf_71 rfl (lv_at hl 2 rfl) ?_
                  have hP9 := hP.sub (ws' := []) [] rfl
                  have hD9 := hD.sub (ws' := []) [] (by decide) rfl
                  have hK9 := hK.sub (tys' := []) [] rfl
                  rw [← hAe] at hD9
                  refine W.widen (k := 0) (n := 0) (Nat.le_of_ble_eq_true rfl) (Nat.le_of_ble_eq_true rfl) ?_
                  subst hAe
                  exact (W.lret (v := ((((((0 + ((((x0 - x0 / 10 * 10) : Int32).toInt64) * 1073741824)) + (((((x0 / 10) - (x0 / 10) / 10 * 10) : Int32).toInt64) * 16777216)) + ((((((x0 / 10) / 10) - ((x0 / 10) / 10) / 10 * 10) : Int32).toInt64) * 262144)) + (((((((x0 / 10) / 10) / 10) - (((x0 / 10) / 10) / 10) / 10 * 10) : Int32).toInt64) * 4096)) + ((((((((x0 / 10) / 10) / 10) / 10) - ((((x0 / 10) / 10) / 10) / 10) / 10 * 10) : Int32).toInt64) * 64)) + (((((((((x0 / 10) / 10) / 10) / 10) / 10) - (((((x0 / 10) / 10) / 10) / 10) / 10) / 10 * 10) : Int32).toInt64) * 1))) hx hb hr (fun t ht hW => ⟨⟨((((((0 + ((((x0 - x0 / 10 * 10) : Int32).toInt64) * 1073741824)) + (((((x0 / 10) - (x0 / 10) / 10 * 10) : Int32).toInt64) * 16777216)) + ((((((x0 / 10) / 10) - ((x0 / 10) / 10) / 10 * 10) : Int32).toInt64) * 262144)) + (((((((x0 / 10) / 10) / 10) - (((x0 / 10) / 10) / 10) / 10 * 10) : Int32).toInt64) * 4096)) + ((((((((x0 / 10) / 10) / 10) / 10) - ((((x0 / 10) / 10) / 10) / 10) / 10 * 10) : Int32).toInt64) * 64)) + (((((((((x0 / 10) / 10) / 10) / 10) / 10) - (((((x0 / 10) / 10) / 10) / 10) / 10) / 10 * 10) : Int32).toInt64) * 1)), (), rfl, Or.inr (key_ok ⟨hc_2, hc_5, hc_8, hc_11, hc_14, hc_17, hc_20, hc_21⟩), by rw [ht]; exact hP9, va_K.moved hW.alike hK9, hD9⟩, hS.F ht⟩) hS.2.2 dX15_keyOf_72)
                · skip
                  refine lv_ldc2 (v := (-1)) hx hb hown (hts (.constantLong RX15 389 (-1)) (List.mem_of_getElem? (i := 4) rfl)) dX15_keyOf_65 ?_
                  refine lv_goto (tgt := 72) hx hb dX15_keyOf_68 (by decide) ?_
                  have hP9 := hP.sub (ws' := []) [] rfl
                  have hD9 := hD.sub (ws' := []) [] (by decide) rfl
                  have hK9 := hK.sub (tys' := []) [] rfl
                  rw [← hAe] at hD9
                  refine W.widen (k := 0) (n := 0) (Nat.le_of_ble_eq_true rfl) (Nat.le_of_ble_eq_true rfl) ?_
                  subst hAe
                  exact (W.lret (v := (-1)) hx hb hr (fun t ht hW => ⟨⟨(-1), (), rfl, Or.inl ⟨rfl, fun h9 => hc_21 h9.2.2.2.2.2.2.2⟩, by rw [ht]; exact hP9, va_K.moved hW.alike hK9, hD9⟩, hS.F ht⟩) hS.2.2 dX15_keyOf_72)
            · skip
              refine lv_ldc2 (v := (-1)) hx hb hown (hts (.constantLong RX15 389 (-1)) (List.mem_of_getElem? (i := 4) rfl)) dX15_keyOf_24 ?_
              have hP9 := hP.sub (ws' := []) [] rfl
              have hD9 := hD.sub (ws' := []) [] (by decide) rfl
              have hK9 := hK.sub (tys' := []) [] rfl
              rw [← hAe] at hD9
              refine W.widen (k := 0) (n := 0) (Nat.le_of_ble_eq_true rfl) (Nat.le_of_ble_eq_true rfl) ?_
              subst hAe
              exact (W.lret (v := (-1)) hx hb hr (fun t ht hW => ⟨⟨(-1), (), rfl, Or.inl ⟨rfl, fun h9 => hc_17 h9.2.2.2.2.2.1⟩, by rw [ht]; exact hP9, va_K.moved hW.alike hK9, hD9⟩, hS.F ht⟩) hS.2.2 dX15_keyOf_27)
          · skip
            refine lv_ldc2 (v := (-1)) hx hb hown (hts (.constantLong RX15 389 (-1)) (List.mem_of_getElem? (i := 4) rfl)) dX15_keyOf_24 ?_
            have hP9 := hP.sub (ws' := []) [] rfl
            have hD9 := hD.sub (ws' := []) [] (by decide) rfl
            have hK9 := hK.sub (tys' := []) [] rfl
            rw [← hAe] at hD9
            refine W.widen (k := 0) (n := 0) (Nat.le_of_ble_eq_true rfl) (Nat.le_of_ble_eq_true rfl) ?_
            subst hAe
            exact (W.lret (v := (-1)) hx hb hr (fun t ht hW => ⟨⟨(-1), (), rfl, Or.inl ⟨rfl, fun h9 => hc_14 h9.2.2.2.2.1⟩, by rw [ht]; exact hP9, va_K.moved hW.alike hK9, hD9⟩, hS.F ht⟩) hS.2.2 dX15_keyOf_27)
        · skip
          refine lv_ldc2 (v := (-1)) hx hb hown (hts (.constantLong RX15 389 (-1)) (List.mem_of_getElem? (i := 4) rfl)) dX15_keyOf_24 ?_
          have hP9 := hP.sub (ws' := []) [] rfl
          have hD9 := hD.sub (ws' := []) [] (by decide) rfl
          have hK9 := hK.sub (tys' := []) [] rfl
          rw [← hAe] at hD9
          refine W.widen (k := 0) (n := 0) (Nat.le_of_ble_eq_true rfl) (Nat.le_of_ble_eq_true rfl) ?_
          subst hAe
          exact (W.lret (v := (-1)) hx hb hr (fun t ht hW => ⟨⟨(-1), (), rfl, Or.inl ⟨rfl, fun h9 => hc_11 h9.2.2.2.1⟩, by rw [ht]; exact hP9, va_K.moved hW.alike hK9, hD9⟩, hS.F ht⟩) hS.2.2 dX15_keyOf_27)
      · skip
        refine lv_ldc2 (v := (-1)) hx hb hown (hts (.constantLong RX15 389 (-1)) (List.mem_of_getElem? (i := 4) rfl)) dX15_keyOf_24 ?_
        have hP9 := hP.sub (ws' := []) [] rfl
        have hD9 := hD.sub (ws' := []) [] (by decide) rfl
        have hK9 := hK.sub (tys' := []) [] rfl
        rw [← hAe] at hD9
        refine W.widen (k := 0) (n := 0) (Nat.le_of_ble_eq_true rfl) (Nat.le_of_ble_eq_true rfl) ?_
        subst hAe
        exact (W.lret (v := (-1)) hx hb hr (fun t ht hW => ⟨⟨(-1), (), rfl, Or.inl ⟨rfl, fun h9 => hc_8 h9.2.2.1⟩, by rw [ht]; exact hP9, va_K.moved hW.alike hK9, hD9⟩, hS.F ht⟩) hS.2.2 dX15_keyOf_27)
    · skip
      refine lv_ldc2 (v := (-1)) hx hb hown (hts (.constantLong RX15 389 (-1)) (List.mem_of_getElem? (i := 4) rfl)) dX15_keyOf_24 ?_
      have hP9 := hP.sub (ws' := []) [] rfl
      have hD9 := hD.sub (ws' := []) [] (by decide) rfl
      have hK9 := hK.sub (tys' := []) [] rfl
      rw [← hAe] at hD9
      refine W.widen (k := 0) (n := 0) (Nat.le_of_ble_eq_true rfl) (Nat.le_of_ble_eq_true rfl) ?_
      subst hAe
      exact (W.lret (v := (-1)) hx hb hr (fun t ht hW => ⟨⟨(-1), (), rfl, Or.inl ⟨rfl, fun h9 => hc_5 h9.2.1⟩, by rw [ht]; exact hP9, va_K.moved hW.alike hK9, hD9⟩, hS.F ht⟩) hS.2.2 dX15_keyOf_27)
  · skip
    refine lv_ldc2 (v := (-1)) hx hb hown (hts (.constantLong RX15 389 (-1)) (List.mem_of_getElem? (i := 4) rfl)) dX15_keyOf_24 ?_
    have hP9 := hP.sub (ws' := []) [] rfl
    have hD9 := hD.sub (ws' := []) [] (by decide) rfl
    have hK9 := hK.sub (tys' := []) [] rfl
    rw [← hAe] at hD9
    refine W.widen (k := 0) (n := 0) (Nat.le_of_ble_eq_true rfl) (Nat.le_of_ble_eq_true rfl) ?_
    subst hAe
    exact (W.lret (v := (-1)) hx hb hr (fun t ht hW => ⟨⟨(-1), (), rfl, Or.inl ⟨rfl, fun h9 => hc_2 h9.1⟩, by rw [ht]; exact hP9, va_K.moved hW.alike hK9, hD9⟩, hS.F ht⟩) hS.2.2 dX15_keyOf_27)
def wv_q_placeOf : List Cond := .code yX13_placeOf cX13_placeOf 5 (some .int) :: ([.constantLong RX13 29 (7046029254386353131), .fieldLink RX13 18 "MotionSignsModel$Poly" "slot" "[I"] ++ (wsX130 ++ ([])))
theorem gw_q_placeOf : wv_q_placeOf.all goodWord = true := by decide +kernel
theorem in_q_placeOf_X13 : ∀ w ∈ wsX130, w ∈ wv_q_placeOf := fun _ h => List.mem_cons_of_mem _ (List.mem_append_right _ (List.mem_append_left _ h))
set_option maxHeartbeats 4000000 in
set_option maxRecDepth 100000 in
/-- placeOf -/
theorem c_q_placeOf (l : Launch) (dC : Nat → ClassId) (dI : Nat → Nat → Nat) (h0 : Nat) (h0s : Nat) (ks : Nat) (k : Int64) (fs_h0 : List Value) (hF_h0 : mF 5 [(2, .ref h0s)] fs_h0) (sz : Nat) : Met l yX13_placeOf wv_q_placeOf ({ frames := 0, cells := 0, slots := 0, locals := 0 }) (va_Pc [.ref h0, .long k] (fun U => U.heap.size = sz ∧ va_P (dC, dI) vwCl [(h0, .inr (13, fs_h0)), (h0s, .inl (ks, 128, .inl (fun _ => 0)))] U.heap ∧ va_K (dC, dI) vwCl [(ks, .int)] U ∧ va_D (fun _ => True) [(h0, .inr (13, fs_h0)), (h0s, .inl (ks, 128, .inl (fun _ => 0)))] ∧ w_N U)) (va_Qi (fun (r : Int32) (_ : Unit) => vp_in r 128) (fun _ t => va_P (dC, dI) vwCl [(h0, .inr (13, fs_h0)), (h0s, .inl (ks, 128, .inl (fun _ => 0)))] t.heap ∧ va_K (dC, dI) vwCl [(ks, .int)] t ∧ va_D (va_A [(h0, .inr (13, fs_h0)), (h0s, .inl (ks, 128, .inl (fun _ => 0)))] sz) [(h0, .inr (13, fs_h0)), (h0s, .inl (ks, 128, .inl (fun _ => 0)))]) (va_A [(h0, .inr (13, fs_h0)), (h0s, .inl (ks, 128, .inl (fun _ => 0)))] sz)) 0 0 (va_A [(h0, .inr (13, fs_h0)), (h0s, .inl (ks, 128, .inl (fun _ => 0)))] sz) := by
  refine Met.ofW (cc := cX13_placeOf) (maxL := 5) (ret := (some .int)) (by decide) rfl ?_
  intro p e s m args below meth c s₁ B hml hv
  obtain ⟨rfl, hsz, hP, hK, hD0, hN⟩ := hv
  have hx := B.exec
  have hb := B.bytes
  have hr := B.returns
  have hts := atoms_spec (ws := wv_q_placeOf) B.pre
  have hown : s.vm.findClass RX13 = some m.cls := findClass_of_methodNamed B.named
  have hlocks := B.notSynchronized
  subst hsz
  have hD := hD0.self (sz := s.heap.size)
  generalize hAe : va_A [(h0, .inr (13, fs_h0)), (h0s, .inl (ks, 128, .inl (fun _ => 0)))] s.heap.size = A at hD ⊢
  have hA : ∀ q : Nat, s.heap.size ≤ q → A q := fun q h => by rw [← hAe]; exact Or.inr h
  obtain ⟨H, hHe, hP, hS⟩ : ∃ H : Heap, H = s.heap ∧ va_P (dC, dI) vwCl [(h0, .inr (13, fs_h0)), (h0s, .inl (ks, 128, .inl (fun _ => 0)))] H ∧ va_S A s.heap H [] := ⟨s.heap, rfl, hP, va_S.rf⟩
  have hl := lv_entry ([.ref h0, .long k]) (n := 5) (Nat.le_of_ble_eq_true rfl)
  rw [lg_entry_eq]
  generalize (lg_sl ([.ref h0, .long k]) ++ List.replicate (5 - (lg_sl ([.ref h0, .long k])).length) Slot.unset).toArray = ls at hl ⊢
  have hl : lv_has ls 5 [(0, .ref h0), (1, .long k)] := hl
  rw [← hHe]; clear hHe
  refine lv_lload_n hx hb dX13_placeOf_0 rfl (lv_at hl 1 rfl) ?_
  refine lv_ldc2 (v := 7046029254386353131) hx hb hown (hts (.constantLong RX13 29 (7046029254386353131)) (List.mem_of_getElem? (i := 1) rfl)) dX13_placeOf_1 ?_
  refine lv_lmul hx hb dX13_placeOf_4 ?_
  refine lv_lstore_n (lv' := [(3, .long (k * 7046029254386353131)), (0, .ref h0), (1, .long k)]) hx hb dX13_placeOf_5 rfl hl (by decide) rfl (fun ls hl => ?_)
  refine lv_lload_n hx hb dX13_placeOf_6 rfl (lv_at hl 0 rfl) ?_
  refine lv_bipush (v := 40) hx hb dX13_placeOf_7 (by decide) ?_
  refine lv_lushr (v := (((k * 7046029254386353131).toUInt64 >>> ((40 : Int32).toInt64.toUInt64 &&& Int64.toUInt64 63)).toInt64)) hx hb dX13_placeOf_9 rfl ?_
  refine lv_l2i (v := ((((k * 7046029254386353131).toUInt64 >>> ((40 : Int32).toInt64.toUInt64 &&& Int64.toUInt64 63)).toInt64).toInt32)) hx hb dX13_placeOf_10 rfl ?_
  refine lv_aload_n hx hb dX13_placeOf_11 rfl (lv_at hl 1 rfl) ?_
  refine va_get (D := (dC, dI)) (ci := 13) (v := .ref h0s) (C := RX13) (T := TX13) (N := 5) hx hb hts (in_q_placeOf_X13) hown hK hP 0 rfl rfl 2 (by decide) (hts (.fieldLink RX13 18 "MotionSignsModel$Poly" "slot" "[I") (List.mem_of_getElem? (i := 2) rfl)) (fun _ h9 => h9) (mF.get hF_h0 0 rfl) dX13_placeOf_12 ?_
  refine va_alen (v := 128) hx hb hK hP 1 0 rfl rfl rfl dX13_placeOf_15 ?_
  refine lv_iconst (v := 1) hx hb dX13_placeOf_16 (by decide) ?_
  refine lv_isub hx hb dX13_placeOf_17 ?_
  refine lv_topi (fun v_1 ev_1 => ?_)
  have ev_1 : v_1 = 127 := ev_1.trans (by decide)
  subst ev_1
  refine lv_iand hx hb dX13_placeOf_18 ?_
  refine lv_topi (fun v_2 ev_2 => ?_)
  have hP9 := hP.sub (ws' := [(h0, .inr (13, fs_h0)), (h0s, .inl (ks, 128, .inl (fun _ => 0)))]) [0, 1] rfl
  have hD9 := hD.sub (ws' := [(h0, .inr (13, fs_h0)), (h0s, .inl (ks, 128, .inl (fun _ => 0)))]) [0, 1] (by decide) rfl
  have hK9 := hK.sub (tys' := [(ks, .int)]) [0] rfl
  rw [← hAe] at hD9
  refine W.widen (k := 0) (n := 0) (Nat.le_of_ble_eq_true rfl) (Nat.le_of_ble_eq_true rfl) ?_
  subst hAe
  exact (W.iret (v := v_2) hx hb hr (fun t ht hW => ⟨⟨v_2, (), rfl, (by rw [ev_2]; exact pk_andIn _ 7 (by decide) (by decide)), by rw [ht]; exact hP9, va_K.moved hW.alike hK9, hD9⟩, hS.F ht⟩) hS.2.2 dX13_placeOf_19)
def wv_q_found : List Cond := .code yX13_found cX13_found 4 (some .int) :: ([.methodLink RX13 31 yX13_placeOf, .instanceMethod yX13_placeOf, .selects RX13 yX13_placeOf yX13_placeOf, .initialized RX13, .fieldLink RX13 18 "MotionSignsModel$Poly" "slot" "[I"] ++ (wv_q_placeOf ++ (wsX130 ++ ([]))))
theorem gw_q_found : wv_q_found.all goodWord = true := by decide +kernel
theorem in_q_found_X13 : ∀ w ∈ wsX130, w ∈ wv_q_found := fun _ h => List.mem_cons_of_mem _ (List.mem_append_right _ (List.mem_append_right _ (List.mem_append_left _ h)))
theorem g_q_found_q_placeOf_31 : GoodIn wv_q_found (wsV RX13 31 RX13 yX13_placeOf wv_q_placeOf) := goodIn_app (goodIn_of _ (by decide +kernel)) (goodIn_sub (fun _ h => List.mem_cons_of_mem _ (List.mem_append_right _ (List.mem_append_left _ h))) gw_q_placeOf)
set_option maxHeartbeats 4000000 in
set_option maxRecDepth 100000 in
/-- found -/
theorem c_q_found (l : Launch) (dC : Nat → ClassId) (dI : Nat → Nat → Nat) (h0 : Nat) (h0s : Nat) (ks : Nat) (k : Int64) (fs_h0 : List Value) (hF_h0 : mF 5 [(2, .ref h0s)] fs_h0) (sz : Nat) : Met l yX13_found wv_q_found ({ frames := 1, cells := 0, slots := 0, locals := 24 }) (va_Pc [.ref h0, .long k] (fun U => U.heap.size = sz ∧ va_P (dC, dI) vwCl [(h0, .inr (13, fs_h0)), (h0s, .inl (ks, 128, .inl (fun _ => 0)))] U.heap ∧ va_K (dC, dI) vwCl [(ks, .int)] U ∧ va_D (fun _ => True) [(h0, .inr (13, fs_h0)), (h0s, .inl (ks, 128, .inl (fun _ => 0)))] ∧ w_N U)) (va_Qi (fun (r : Int32) (_ : Unit) => vp_in r 128) (fun _ t => va_P (dC, dI) vwCl [(h0, .inr (13, fs_h0)), (h0s, .inl (ks, 128, .inl (fun _ => 0)))] t.heap ∧ va_K (dC, dI) vwCl [(ks, .int)] t ∧ va_D (va_A [(h0, .inr (13, fs_h0)), (h0s, .inl (ks, 128, .inl (fun _ => 0)))] sz) [(h0, .inr (13, fs_h0)), (h0s, .inl (ks, 128, .inl (fun _ => 0)))]) (va_A [(h0, .inr (13, fs_h0)), (h0s, .inl (ks, 128, .inl (fun _ => 0)))] sz)) 0 0 (va_A [(h0, .inr (13, fs_h0)), (h0s, .inl (ks, 128, .inl (fun _ => 0)))] sz) := by
  refine Met.ofW (cc := cX13_found) (maxL := 4) (ret := (some .int)) (by decide) rfl ?_
  intro p e s m args below meth c s₁ B hml hv
  obtain ⟨rfl, hsz, hP, hK, hD0, hN⟩ := hv
  have hx := B.exec
  have hb := B.bytes
  have hr := B.returns
  have hts := atoms_spec (ws := wv_q_found) B.pre
  have hown : s.vm.findClass RX13 = some m.cls := findClass_of_methodNamed B.named
  have hlocks := B.notSynchronized
  subst hsz
  have hD := hD0.self (sz := s.heap.size)
  generalize hAe : va_A [(h0, .inr (13, fs_h0)), (h0s, .inl (ks, 128, .inl (fun _ => 0)))] s.heap.size = A at hD ⊢
  have hA : ∀ q : Nat, s.heap.size ≤ q → A q := fun q h => by rw [← hAe]; exact Or.inr h
  obtain ⟨H, hHe, hP, hS⟩ : ∃ H : Heap, H = s.heap ∧ va_P (dC, dI) vwCl [(h0, .inr (13, fs_h0)), (h0s, .inl (ks, 128, .inl (fun _ => 0)))] H ∧ va_S A s.heap H [] := ⟨s.heap, rfl, hP, va_S.rf⟩
  have hl := lv_entry ([.ref h0, .long k]) (n := 4) (Nat.le_of_ble_eq_true rfl)
  rw [lg_entry_eq]
  generalize (lg_sl ([.ref h0, .long k]) ++ List.replicate (4 - (lg_sl ([.ref h0, .long k])).length) Slot.unset).toArray = ls at hl ⊢
  have hl : lv_has ls 4 [(0, .ref h0), (1, .long k)] := hl
  rw [← hHe]; clear hHe
  refine lv_aload_n hx hb dX13_found_0 rfl (lv_at hl 0 rfl) ?_
  refine lv_lload_n hx hb dX13_found_1 rfl (lv_at hl 1 rfl) ?_
  have hPc := hP.sub (ws' := [(h0, .inr (13, fs_h0)), (h0s, .inl (ks, 128, .inl (fun _ => 0)))]) [0, 1] rfl
  have hDc := hD.sub (ws' := [(h0, .inr (13, fs_h0)), (h0s, .inl (ks, 128, .inl (fun _ => 0)))]) [0, 1] (by decide) rfl
  have hKc := hK.sub (tys' := [(ks, .int)]) [0] rfl
  have hFc := va_free (wc := [(h0, .inr (13, fs_h0)), (h0s, .inl (ks, 128, .inl (fun _ => 0)))]) hD hS hA [0, 1] rfl
  refine va_calli (va_runV (As := [.long k]) (rest := []) ⟨hx, hb, hml, hown, hts⟩ (c_q_placeOf l dC dI h0 h0s ks k fs_h0 (mF.sub hF_h0 [0] rfl) H.size) (cwV 1 hts g_q_found_q_placeOf_31 rfl rfl rfl hv_X13_placeOf ⟨Nat.le_of_ble_eq_true rfl, Nat.le_of_ble_eq_true rfl⟩) ⟨fun a U g mk q => by obtain ⟨q0, q1, qP, qK, qD, qE0⟩ := q; exact ⟨q0, q1, qP, va_K.moved (u := U) (U := U.calling g mk a) (Vm.Alike.refl U.vm) qK, qD, w_N.same rfl qE0⟩, va_recv hKc hPc (ci := 13) (q0 := 0) rfl rfl, fun U hU hW => ⟨rfl, by rw [hU], by rw [hU]; exact hPc, va_K.moved hW.alike hKc, hDc.weaken (fun _ _ _ _ => trivial), w_N.warm hW hN⟩⟩ rfl rfl hl.1 rfl (lv_room (Nat.le_of_ble_eq_true rfl)) dX13_found_2 ⟨(Nat.le_of_ble_eq_true rfl), (Nat.le_of_ble_eq_true rfl)⟩) hS (fun q _ h => hFc q h) hFc (fun r_1 u t H1 locs1 ht hvm hw hB hz1 hk1 hS1 => ?_)
  obtain ⟨hP1, hK1, hD1⟩ := hB
  rw [ht] at hP1
  have hK1 := va_K.moved hvm.symm hK1
  have hJ := va_join (wr := []) (w1 := [(h0, .inr (13, fs_h0)), (h0s, .inl (ks, 128, .inl (fun _ => 0)))]) hP hD [0, 1] [] rfl rfl (by decide) (by decide) hk1 hFc hP1 hD1
  clear hP hD hPc hDc hKc hFc hz1; try clear hk1
  obtain ⟨hP, hD⟩ := hJ
  replace hK := (hK.sub (tys' := [(ks, .int)]) [0] rfl).app (hK1.sub (tys' := []) [] rfl)
  clear hP1 hK1 hD1 hvm ht hS; try clear t
  try clear H
  revert hS1
  intro hS
  generalize H1 = H at hP hS ⊢; try clear H1
  replace hP : va_P (dC, dI) vwCl [(h0, .inr (13, fs_h0)), (h0s, .inl (ks, 128, .inl (fun _ => 0)))] H := hP
  replace hD : va_D A [(h0, .inr (13, fs_h0)), (h0s, .inl (ks, 128, .inl (fun _ => 0)))] := hD
  replace hK : va_K (dC, dI) vwCl [(ks, .int)] s := hK
  have hw_2 : vp_in r_1 128 := hw; clear hw
  refine lv_istore_n (lv' := [(3, .int r_1), (0, .ref h0), (1, .long k)]) hx hb dX13_found_5 rfl hl (by decide) rfl (fun ls hl => ?_)
  refine lv_aload_n hx hb dX13_found_6 rfl (lv_at hl 1 rfl) ?_
  refine va_get (D := (dC, dI)) (ci := 13) (v := .ref h0s) (C := RX13) (T := TX13) (N := 5) hx hb hts (in_q_found_X13) hown hK hP 0 rfl rfl 2 (by decide) (hts (.fieldLink RX13 18 "MotionSignsModel$Poly" "slot" "[I") (List.mem_of_getElem? (i := 5) rfl)) (fun _ h9 => h9) (mF.get hF_h0 0 rfl) dX13_found_7 ?_
  refine lv_iload_n hx hb dX13_found_10 rfl (lv_at hl 0 rfl) ?_
  refine va_iald hx hb hK hP 1 0 rfl rfl hw_2 dX13_found_11 ?_
  refine lv_topi (fun z9 ez9 => ?_)
  have ez9 : z9 = 0 := ez9
  subst ez9
  refine lv_if_eq (tgt := 48) hx hb dX13_found_12 (by decide) (fun _ => ?_) (fun hc => absurd (by decide) hc)
  refine lv_iload_n hx hb dX13_found_48 rfl (lv_at hl 0 rfl) ?_
  have hP9 := hP.sub (ws' := [(h0, .inr (13, fs_h0)), (h0s, .inl (ks, 128, .inl (fun _ => 0)))]) [0, 1] rfl
  have hD9 := hD.sub (ws' := [(h0, .inr (13, fs_h0)), (h0s, .inl (ks, 128, .inl (fun _ => 0)))]) [0, 1] (by decide) rfl
  have hK9 := hK.sub (tys' := [(ks, .int)]) [0] rfl
  rw [← hAe] at hD9
  refine W.widen (k := 0) (n := 0) (Nat.le_of_ble_eq_true rfl) (Nat.le_of_ble_eq_true rfl) ?_
  subst hAe
  exact (W.iret (v := r_1) hx hb hr (fun t ht hW => ⟨⟨r_1, (), rfl, hw_2, by rw [ht]; exact hP9, va_K.moved hW.alike hK9, hD9⟩, hS.F ht⟩) hS.2.2 dX13_found_49)
def wv_q_of : List Cond := .code yX13_of cX13_of 4 (some .long) :: ([.methodLink RX13 35 yX13_found, .instanceMethod yX13_found, .selects RX13 yX13_found yX13_found, .initialized RX13, .fieldLink RX13 18 "MotionSignsModel$Poly" "slot" "[I"] ++ (wv_q_found ++ (wsX130 ++ ([]))))
theorem gw_q_of : wv_q_of.all goodWord = true := by decide +kernel
theorem in_q_of_X13 : ∀ w ∈ wsX130, w ∈ wv_q_of := fun _ h => List.mem_cons_of_mem _ (List.mem_append_right _ (List.mem_append_right _ (List.mem_append_left _ h)))
theorem g_q_of_q_found_35 : GoodIn wv_q_of (wsV RX13 35 RX13 yX13_found wv_q_found) := goodIn_app (goodIn_of _ (by decide +kernel)) (goodIn_sub (fun _ h => List.mem_cons_of_mem _ (List.mem_append_right _ (List.mem_append_left _ h))) gw_q_found)
set_option maxHeartbeats 4000000 in
set_option maxRecDepth 100000 in
/-- of -/
theorem c_q_of (l : Launch) (dC : Nat → ClassId) (dI : Nat → Nat → Nat) (h0 : Nat) (h0s : Nat) (ks : Nat) (k : Int64) (fs_h0 : List Value) (hF_h0 : mF 5 [(2, .ref h0s)] fs_h0) (sz : Nat) : Met l yX13_of wv_q_of ({ frames := 2, cells := 0, slots := 0, locals := 47 }) (va_Pc [.ref h0, .long k] (fun U => U.heap.size = sz ∧ va_P (dC, dI) vwCl [(h0, .inr (13, fs_h0)), (h0s, .inl (ks, 128, .inl (fun _ => 0)))] U.heap ∧ va_K (dC, dI) vwCl [(ks, .int)] U ∧ va_D (fun _ => True) [(h0, .inr (13, fs_h0)), (h0s, .inl (ks, 128, .inl (fun _ => 0)))] ∧ w_N U)) (va_Ql (fun (r : Int64) (_ : Unit) => r = 0) (fun _ t => va_P (dC, dI) vwCl [(h0, .inr (13, fs_h0)), (h0s, .inl (ks, 128, .inl (fun _ => 0)))] t.heap ∧ va_K (dC, dI) vwCl [(ks, .int)] t ∧ va_D (va_A [(h0, .inr (13, fs_h0)), (h0s, .inl (ks, 128, .inl (fun _ => 0)))] sz) [(h0, .inr (13, fs_h0)), (h0s, .inl (ks, 128, .inl (fun _ => 0)))]) (va_A [(h0, .inr (13, fs_h0)), (h0s, .inl (ks, 128, .inl (fun _ => 0)))] sz)) 0 0 (va_A [(h0, .inr (13, fs_h0)), (h0s, .inl (ks, 128, .inl (fun _ => 0)))] sz) := by
  refine Met.ofW (cc := cX13_of) (maxL := 4) (ret := (some .long)) (by decide) rfl ?_
  intro p e s m args below meth c s₁ B hml hv
  obtain ⟨rfl, hsz, hP, hK, hD0, hN⟩ := hv
  have hx := B.exec
  have hb := B.bytes
  have hr := B.returns
  have hts := atoms_spec (ws := wv_q_of) B.pre
  have hown : s.vm.findClass RX13 = some m.cls := findClass_of_methodNamed B.named
  have hlocks := B.notSynchronized
  subst hsz
  have hD := hD0.self (sz := s.heap.size)
  generalize hAe : va_A [(h0, .inr (13, fs_h0)), (h0s, .inl (ks, 128, .inl (fun _ => 0)))] s.heap.size = A at hD ⊢
  have hA : ∀ q : Nat, s.heap.size ≤ q → A q := fun q h => by rw [← hAe]; exact Or.inr h
  obtain ⟨H, hHe, hP, hS⟩ : ∃ H : Heap, H = s.heap ∧ va_P (dC, dI) vwCl [(h0, .inr (13, fs_h0)), (h0s, .inl (ks, 128, .inl (fun _ => 0)))] H ∧ va_S A s.heap H [] := ⟨s.heap, rfl, hP, va_S.rf⟩
  have hl := lv_entry ([.ref h0, .long k]) (n := 4) (Nat.le_of_ble_eq_true rfl)
  rw [lg_entry_eq]
  generalize (lg_sl ([.ref h0, .long k]) ++ List.replicate (4 - (lg_sl ([.ref h0, .long k])).length) Slot.unset).toArray = ls at hl ⊢
  have hl : lv_has ls 4 [(0, .ref h0), (1, .long k)] := hl
  rw [← hHe]; clear hHe
  refine lv_aload_n hx hb dX13_of_0 rfl (lv_at hl 0 rfl) ?_
  refine lv_lload_n hx hb dX13_of_1 rfl (lv_at hl 1 rfl) ?_
  have hPc := hP.sub (ws' := [(h0, .inr (13, fs_h0)), (h0s, .inl (ks, 128, .inl (fun _ => 0)))]) [0, 1] rfl
  have hDc := hD.sub (ws' := [(h0, .inr (13, fs_h0)), (h0s, .inl (ks, 128, .inl (fun _ => 0)))]) [0, 1] (by decide) rfl
  have hKc := hK.sub (tys' := [(ks, .int)]) [0] rfl
  have hFc := va_free (wc := [(h0, .inr (13, fs_h0)), (h0s, .inl (ks, 128, .inl (fun _ => 0)))]) hD hS hA [0, 1] rfl
  refine va_calli (va_runV (As := [.long k]) (rest := []) ⟨hx, hb, hml, hown, hts⟩ (c_q_found l dC dI h0 h0s ks k fs_h0 (mF.sub hF_h0 [0] rfl) H.size) (cwV 1 hts g_q_of_q_found_35 rfl rfl rfl hv_X13_found ⟨Nat.le_of_ble_eq_true rfl, Nat.le_of_ble_eq_true rfl⟩) ⟨fun a U g mk q => by obtain ⟨q0, q1, qP, qK, qD, qE0⟩ := q; exact ⟨q0, q1, qP, va_K.moved (u := U) (U := U.calling g mk a) (Vm.Alike.refl U.vm) qK, qD, w_N.same rfl qE0⟩, va_recv hKc hPc (ci := 13) (q0 := 0) rfl rfl, fun U hU hW => ⟨rfl, by rw [hU], by rw [hU]; exact hPc, va_K.moved hW.alike hKc, hDc.weaken (fun _ _ _ _ => trivial), w_N.warm hW hN⟩⟩ rfl rfl hl.1 rfl (lv_room (Nat.le_of_ble_eq_true rfl)) dX13_of_2 ⟨(Nat.le_of_ble_eq_true rfl), (Nat.le_of_ble_eq_true rfl)⟩) hS (fun q _ h => hFc q h) hFc (fun r_1 u t H1 locs1 ht hvm hw hB hz1 hk1 hS1 => ?_)
  obtain ⟨hP1, hK1, hD1⟩ := hB
  rw [ht] at hP1
  have hK1 := va_K.moved hvm.symm hK1
  have hJ := va_join (wr := []) (w1 := [(h0, .inr (13, fs_h0)), (h0s, .inl (ks, 128, .inl (fun _ => 0)))]) hP hD [0, 1] [] rfl rfl (by decide) (by decide) hk1 hFc hP1 hD1
  clear hP hD hPc hDc hKc hFc hz1; try clear hk1
  obtain ⟨hP, hD⟩ := hJ
  replace hK := (hK.sub (tys' := [(ks, .int)]) [0] rfl).app (hK1.sub (tys' := []) [] rfl)
  clear hP1 hK1 hD1 hvm ht hS; try clear t
  try clear H
  revert hS1
  intro hS
  generalize H1 = H at hP hS ⊢; try clear H1
  replace hP : va_P (dC, dI) vwCl [(h0, .inr (13, fs_h0)), (h0s, .inl (ks, 128, .inl (fun _ => 0)))] H := hP
  replace hD : va_D A [(h0, .inr (13, fs_h0)), (h0s, .inl (ks, 128, .inl (fun _ => 0)))] := hD
  replace hK : va_K (dC, dI) vwCl [(ks, .int)] s := hK
  have hw_2 : vp_in r_1 128 := hw; clear hw
  refine lv_istore_n (lv' := [(3, .int r_1), (0, .ref h0), (1, .long k)]) hx hb dX13_of_5 rfl hl (by decide) rfl (fun ls hl => ?_)
  refine lv_aload_n hx hb dX13_of_6 rfl (lv_at hl 1 rfl) ?_
  refine va_get (D := (dC, dI)) (ci := 13) (v := .ref h0s) (C := RX13) (T := TX13) (N := 5) hx hb hts (in_q_of_X13) hown hK hP 0 rfl rfl 2 (by decide) (hts (.fieldLink RX13 18 "MotionSignsModel$Poly" "slot" "[I") (List.mem_of_getElem? (i := 5) rfl)) (fun _ h9 => h9) (mF.get hF_h0 0 rfl) dX13_of_7 ?_
  refine lv_iload_n hx hb dX13_of_10 rfl (lv_at hl 0 rfl) ?_
  refine va_iald hx hb hK hP 1 0 rfl rfl hw_2 dX13_of_11 ?_
  refine lv_topi (fun z9 ez9 => ?_)
  have ez9 : z9 = 0 := ez9
  subst ez9
  refine lv_if_ne (tgt := 19) hx hb dX13_of_12 (by decide) (fun hc => absurd (by decide) hc) (fun _ => ?_)
  refine lv_lconst (v := 0) hx hb dX13_of_15 (by decide) ?_
  refine lv_goto (tgt := 32) hx hb dX13_of_16 (by decide) ?_
  have hP9 := hP.sub (ws' := [(h0, .inr (13, fs_h0)), (h0s, .inl (ks, 128, .inl (fun _ => 0)))]) [0, 1] rfl
  have hD9 := hD.sub (ws' := [(h0, .inr (13, fs_h0)), (h0s, .inl (ks, 128, .inl (fun _ => 0)))]) [0, 1] (by decide) rfl
  have hK9 := hK.sub (tys' := [(ks, .int)]) [0] rfl
  rw [← hAe] at hD9
  refine W.widen (k := 0) (n := 0) (Nat.le_of_ble_eq_true rfl) (Nat.le_of_ble_eq_true rfl) ?_
  subst hAe
  exact (W.lret (v := 0) hx hb hr (fun t ht hW => ⟨⟨0, (), rfl, rfl, by rw [ht]; exact hP9, va_K.moved hW.alike hK9, hD9⟩, hS.F ht⟩) hS.2.2 dX13_of_32)
def wv_m_term : List Cond := .code yX15_term cX15_term 4 (some .int) :: ([.fieldLink RX15 296 "MotionSignsModel" "thrown" "I", .methodLink RX15 459 yX15_keyOf, .static yX15_keyOf, .initialized RX15, .constantLong RX15 389 (-1), .methodLink RX15 424 yX15_bad, .instanceMethod yX15_bad, .selects RX15 yX15_bad yX15_bad, .fieldLink RX15 130 "MotionSignsModel" "f" "LMotionSignsModel$Poly;", .initialized RX13, .instanceMethod yX13_of, .selects RX13 yX13_of yX13_of] ++ (wsX150 ++ (wv_m_keyOf ++ (wv_m_bad1 ++ (wv_m_bad0 ++ (wv_q_of ++ ([])))))))
theorem gw_m_term : wv_m_term.all goodWord = true := by decide +kernel
theorem in_m_term_X15 : ∀ w ∈ wsX150, w ∈ wv_m_term := fun _ h => List.mem_cons_of_mem _ (List.mem_append_right _ (List.mem_append_left _ h))
theorem g_m_term_m_keyOf_459 : GoodIn wv_m_term (va_wsS RX15 459 yX15_keyOf wv_m_keyOf) := goodIn_app (goodIn_of _ (by decide +kernel)) (goodIn_sub (fun _ h => List.mem_cons_of_mem _ (List.mem_append_right _ (List.mem_append_right _ (List.mem_append_left _ h)))) gw_m_keyOf)
theorem g_m_term_m_bad1_424 : GoodIn wv_m_term (wsV RX15 424 RX15 yX15_bad wv_m_bad1) := goodIn_app (goodIn_of _ (by decide +kernel)) (goodIn_sub (fun _ h => List.mem_cons_of_mem _ (List.mem_append_right _ (List.mem_append_right _ (List.mem_append_right _ (List.mem_append_left _ h))))) gw_m_bad1)
theorem g_m_term_m_bad0_424 : GoodIn wv_m_term (wsV RX15 424 RX15 yX15_bad wv_m_bad0) := goodIn_app (goodIn_of _ (by decide +kernel)) (goodIn_sub (fun _ h => List.mem_cons_of_mem _ (List.mem_append_right _ (List.mem_append_right _ (List.mem_append_right _ (List.mem_append_right _ (List.mem_append_left _ h)))))) gw_m_bad0)
theorem g_m_term_q_of_463 : GoodIn wv_m_term wv_q_of := goodIn_sub (fun _ h => List.mem_cons_of_mem _ (List.mem_append_right _ (List.mem_append_right _ (List.mem_append_right _ (List.mem_append_right _ (List.mem_append_right _ (List.mem_append_left _ h))))))) gw_q_of
set_option maxHeartbeats 4000000 in
set_option maxRecDepth 100000 in
/-- the reference: term on a fresh object -/
theorem c_m_term (l : Launch) (dC : Nat → ClassId) (dI : Nat → Nat → Nat) (h0 : Nat) (qfed : Nat) (qf : Nat) (qfd : Nat) (qs : Nat) (qk : Nat) (a3 : Nat) (k3 : Nat) (x0 : Int32) (fs_h0 : List Value) (fs_qf : List Value) (hF_h0 : mF 89 [(0, .int 0), (18, .int 0), (19, .int 0), (20, .int (-1)), (21, .int 0), (22, .int 0), (23, .int 0), (24, .int 0), (25, .int 0), (27, .int 0), (28, .int 0), (29, .int 0), (35, .int 0), (17, .int (-1)), (26, .ref qfed), (30, .ref qf), (31, .ref qfd), (33, .ref qs), (36, .ref qk)] fs_h0) (hF_qf : mF 5 [(4, .int 0), (2, .ref a3)] fs_qf) (sz : Nat) : Met l yX15_term wv_m_term ({ frames := 3, cells := 0, slots := 0, locals := 70 }) (va_Pc [.ref h0, .int x0] (fun U => U.heap.size = sz ∧ va_P (dC, dI) vwCl [(h0, .inr (15, fs_h0)), (qf, .inr (13, fs_qf)), (a3, .inl (k3, 128, .inl (fun _ => 0)))] U.heap ∧ va_K (dC, dI) vwCl [(k3, .int)] U ∧ va_D (fun _ => True) [(h0, .inr (15, fs_h0)), (qf, .inr (13, fs_qf)), (a3, .inl (k3, 128, .inl (fun _ => 0)))] ∧ w_N U)) (va_Qi (fun (r : Int32) (th : Int32) => (th = 0 ∧ r = 0 ∧ kKey x0) ∨ (th = 1 ∧ ¬ kKey x0)) (fun th t => ∃ (fs_e : List Value), va_P (dC, dI) vwCl [(h0, .inr (15, fs_e))] t.heap ∧ va_K (dC, dI) vwCl [] t ∧ va_D (va_A [(h0, .inr (15, fs_h0)), (qf, .inr (13, fs_qf)), (a3, .inl (k3, 128, .inl (fun _ => 0)))] sz) [(h0, .inr (15, fs_e))] ∧ mF 89 [(0, .int th)] fs_e) (va_A [(h0, .inr (15, fs_h0)), (qf, .inr (13, fs_qf)), (a3, .inl (k3, 128, .inl (fun _ => 0)))] sz)) 0 0 (va_A [(h0, .inr (15, fs_h0)), (qf, .inr (13, fs_qf)), (a3, .inl (k3, 128, .inl (fun _ => 0)))] sz) := by
  refine Met.ofW (cc := cX15_term) (maxL := 4) (ret := (some .int)) (by decide) rfl ?_
  intro p e s m args below meth c s₁ B hml hv
  obtain ⟨rfl, hsz, hP, hK, hD0, hN⟩ := hv
  have hx := B.exec
  have hb := B.bytes
  have hr := B.returns
  have hts := atoms_spec (ws := wv_m_term) B.pre
  have hown : s.vm.findClass RX15 = some m.cls := findClass_of_methodNamed B.named
  have hlocks := B.notSynchronized
  subst hsz
  have hD := hD0.self (sz := s.heap.size)
  generalize hAe : va_A [(h0, .inr (15, fs_h0)), (qf, .inr (13, fs_qf)), (a3, .inl (k3, 128, .inl (fun _ => 0)))] s.heap.size = A at hD ⊢
  have hA : ∀ q : Nat, s.heap.size ≤ q → A q := fun q h => by rw [← hAe]; exact Or.inr h
  obtain ⟨H, hHe, hP, hS⟩ : ∃ H : Heap, H = s.heap ∧ va_P (dC, dI) vwCl [(h0, .inr (15, fs_h0)), (qf, .inr (13, fs_qf)), (a3, .inl (k3, 128, .inl (fun _ => 0)))] H ∧ va_S A s.heap H [] := ⟨s.heap, rfl, hP, va_S.rf⟩
  have hl := lv_entry ([.ref h0, .int x0]) (n := 4) (Nat.le_of_ble_eq_true rfl)
  rw [lg_entry_eq]
  generalize (lg_sl ([.ref h0, .int x0]) ++ List.replicate (4 - (lg_sl ([.ref h0, .int x0])).length) Slot.unset).toArray = ls at hl ⊢
  have hl : lv_has ls 4 [(0, .ref h0), (1, .int x0)] := hl
  rw [← hHe]; clear hHe
  refine lv_aload_n hx hb dX15_term_0 rfl (lv_at hl 0 rfl) ?_
  refine lv_iconst (v := 0) hx hb dX15_term_1 (by decide) ?_
  refine va_put (D := (dC, dI)) (ci := 15) (v := .int 0) (ty := .int) (C := RX15) (T := TX15) (N := 89) hx hb hts (in_m_term_X15) tyX15 tyX15_ok nmX15 hown hK hP hD hS 0 rfl rfl 0 (by decide) (hts (.fieldLink RX15 296 "MotionSignsModel" "thrown" "I") (List.mem_of_getElem? (i := 1) rfl)) (fun _ h9 => h9) rfl (tyX15_ok 0 (by decide)) rfl rfl (mF.lt hF_h0 (by decide)) dX15_term_2 ?_
  clear hP hD hS; try clear H
  intro H locs hP hD hS
  have hF0 := mF.sub (L' := [(18, .int 0), (19, .int 0), (20, .int (-1)), (21, .int 0), (22, .int 0), (23, .int 0), (24, .int 0), (25, .int 0), (27, .int 0), (28, .int 0), (29, .int 0), (35, .int 0), (17, .int (-1)), (26, .ref qfed), (30, .ref qf), (31, .ref qfd), (33, .ref qs), (36, .ref qk)]) hF_h0 [1, 2, 3, 4, 5, 6, 7, 8, 9, 10, 11, 12, 13, 14, 15, 16, 17, 18] rfl
  have hF1 := mF.put hF0 0 (.int 0) (by decide) rfl
  replace hP : va_P (dC, dI) vwCl [(h0, .inr (15, (fs_h0.set 0 (.int 0)))), (qf, .inr (13, fs_qf)), (a3, .inl (k3, 128, .inl (fun _ => 0)))] H := hP
  replace hD : va_D A [(h0, .inr (15, (fs_h0.set 0 (.int 0)))), (qf, .inr (13, fs_qf)), (a3, .inl (k3, 128, .inl (fun _ => 0)))] := hD
  generalize fs_h0.set 0 (.int 0) = fs_1 at hP hD hF1
  replace hF_h0 : mF 89 [(0, .int 0), (18, .int 0), (19, .int 0), (20, .int (-1)), (21, .int 0), (22, .int 0), (23, .int 0), (24, .int 0), (25, .int 0), (27, .int 0), (28, .int 0), (29, .int 0), (35, .int 0), (17, .int (-1)), (26, .ref qfed), (30, .ref qf), (31, .ref qfd), (33, .ref qs), (36, .ref qk)] fs_1 := hF1
  clear hF1 hF0
  replace hP : va_P (dC, dI) vwCl [(h0, .inr (15, fs_1)), (qf, .inr (13, fs_qf)), (a3, .inl (k3, 128, .inl (fun _ => 0)))] H := hP
  replace hD : va_D A [(h0, .inr (15, fs_1)), (qf, .inr (13, fs_qf)), (a3, .inl (k3, 128, .inl (fun _ => 0)))] := hD
  refine lv_iload_n hx hb dX15_term_5 rfl (lv_at hl 1 rfl) ?_
  refine lv_bipush (v := 6) hx hb dX15_term_6 (by decide) ?_
  refine lv_iconst (v := 4) hx hb dX15_term_8 (by decide) ?_
  have hPc := hP.sub (ws' := []) [] rfl
  have hDc := hD.sub (ws' := []) [] (by decide) rfl
  have hKc := hK.sub (tys' := []) [] rfl
  have hFc := va_free (wc := []) hD hS hA [] rfl
  refine va_calll (va_runS (As := [.int x0, .int 6, .int 4]) (rest := []) ⟨hx, hb, hml, hown, hts⟩ (c_m_keyOf l dC dI x0 H.size) (va_cwS 3 hts g_m_term_m_keyOf_459 rfl rfl rfl hd_X15_keyOf ⟨Nat.le_of_ble_eq_true rfl, Nat.le_of_ble_eq_true rfl⟩) ⟨fun a U g mk q => by obtain ⟨q0, q1, qP, qK, qD, qE0⟩ := q; exact ⟨q0, q1, qP, va_K.moved (u := U) (U := U.calling g mk a) (Vm.Alike.refl U.vm) qK, qD, w_N.same rfl qE0⟩, fun U hU hW => ⟨rfl, by rw [hU], by rw [hU]; exact hPc, va_K.moved hW.alike hKc, hDc.weaken (fun _ _ _ _ => trivial), w_N.warm hW hN⟩⟩ rfl rfl hl.1 rfl (lv_room (Nat.le_of_ble_eq_true rfl)) dX15_term_9 ⟨(Nat.le_of_ble_eq_true rfl), (Nat.le_of_ble_eq_true rfl)⟩) hS (fun q _ h => hFc q h) hFc (fun r_2 u t H1 locs1 ht hvm hw hB hz1 hk1 hS1 => ?_)
  obtain ⟨hP1, hK1, hD1⟩ := hB
  rw [ht] at hP1
  have hK1 := va_K.moved hvm.symm hK1
  have hJ := va_join (wr := [(h0, .inr (15, fs_1)), (qf, .inr (13, fs_qf)), (a3, .inl (k3, 128, .inl (fun _ => 0)))]) (w1 := []) hP hD [] [0, 1, 2] rfl rfl (by decide) (by decide) hk1 hFc hP1 hD1
  clear hP hD hPc hDc hKc hFc hz1; try clear hk1
  obtain ⟨hP, hD⟩ := hJ
  replace hK := (hK.sub (tys' := [(k3, .int)]) [0] rfl).app (hK1.sub (tys' := []) [] rfl)
  clear hP1 hK1 hD1 hvm ht hS; try clear t
  try clear H
  revert hS1
  intro hS
  generalize H1 = H at hP hS ⊢; try clear H1
  replace hP : va_P (dC, dI) vwCl [(h0, .inr (15, fs_1)), (qf, .inr (13, fs_qf)), (a3, .inl (k3, 128, .inl (fun _ => 0)))] H := hP
  replace hD : va_D A [(h0, .inr (15, fs_1)), (qf, .inr (13, fs_qf)), (a3, .inl (k3, 128, .inl (fun _ => 0)))] := hD
  replace hK : va_K (dC, dI) vwCl [(k3, .int)] s := hK
  have hw_3 : (r_2 = (-1) ∧ ¬ kKey x0) ∨ (¬ r_2 = (-1) ∧ kKey x0) := hw; clear hw
  rcases hw_3 with ⟨ehw_3, hw_3⟩ | hw_3
  · skip
    subst ehw_3
    refine lv_lstore_n (lv' := [(2, .long (-1)), (0, .ref h0), (1, .int x0)]) hx hb dX15_term_12 rfl hl (by decide) rfl (fun ls hl => ?_)
    refine lv_aload_n hx hb dX15_term_13 rfl (lv_at hl 1 rfl) ?_
    refine lv_lload_n hx hb dX15_term_14 rfl (lv_at hl 0 rfl) ?_
    refine lv_ldc2 (v := (-1)) hx hb hown (hts (.constantLong RX15 389 (-1)) (List.mem_of_getElem? (i := 5) rfl)) dX15_term_15 ?_
    refine W.lcmp hx hb dX15_term_18 ?_
    refine lv_topi (fun v_4 ev_4 => ?_)
    have ev_4 : v_4 = 0 := ev_4.trans (by decide)
    subst ev_4
    refine lv_if_ne (tgt := 26) hx hb dX15_term_19 (by decide) (fun hc => absurd (by decide) hc) (fun _ => ?_)
    refine lv_iconst (v := 1) hx hb dX15_term_22 (by decide) ?_
    refine lv_goto (tgt := 27) hx hb dX15_term_23 (by decide) ?_
    refine lv_iconst (v := 1) hx hb dX15_term_27 (by decide) ?_
    have hPc := hP.sub (ws' := [(h0, .inr (15, fs_1))]) [0] rfl
    have hDc := hD.sub (ws' := [(h0, .inr (15, fs_1))]) [0] (by decide) rfl
    have hKc := hK.sub (tys' := []) [] rfl
    have hFc := va_free (wc := [(h0, .inr (15, fs_1))]) hD hS hA [0] rfl
    refine va_calli (va_runV (As := [.int 1, .int 1]) (rest := []) ⟨hx, hb, hml, hown, hts⟩ (c_m_bad1 l dC dI h0 qfed qf qfd qs qk fs_1 (mF.sub hF_h0 [0, 1, 2, 3, 4, 5, 6, 7, 8, 9, 10, 11, 12, 13, 14, 15, 16, 17, 18] rfl) H.size) (cwV 2 hts g_m_term_m_bad1_424 rfl rfl rfl hv_X15_bad ⟨Nat.le_of_ble_eq_true rfl, Nat.le_of_ble_eq_true rfl⟩) ⟨fun a U g mk q => by obtain ⟨q0, q1, qP, qK, qD, qE0⟩ := q; exact ⟨q0, q1, qP, va_K.moved (u := U) (U := U.calling g mk a) (Vm.Alike.refl U.vm) qK, qD, w_N.same rfl qE0⟩, va_recv hKc hPc (ci := 15) (q0 := 0) rfl rfl, fun U hU hW => ⟨rfl, by rw [hU], by rw [hU]; exact hPc, va_K.moved hW.alike hKc, hDc.weaken (fun _ _ _ _ => trivial), w_N.warm hW hN⟩⟩ rfl rfl hl.1 rfl (lv_room (Nat.le_of_ble_eq_true rfl)) dX15_term_28 ⟨(Nat.le_of_ble_eq_true rfl), (Nat.le_of_ble_eq_true rfl)⟩) hS (fun q _ h => hFc q h) hFc (fun r_5 u t H1 locs1 ht hvm hw hB hz1 hk1 hS1 => ?_)
    obtain ⟨fs_6, hP1, hK1, hD1, hp_7⟩ := hB
    rw [ht] at hP1
    have hK1 := va_K.moved hvm.symm hK1
    have hJ := va_join (wr := [(qf, .inr (13, fs_qf)), (a3, .inl (k3, 128, .inl (fun _ => 0)))]) (w1 := [(h0, .inr (15, fs_6))]) hP hD [0] [1, 2] rfl rfl (by decide) (by decide) hk1 hFc hP1 hD1
    clear hP hD hPc hDc hKc hFc hz1; try clear hk1
    obtain ⟨hP, hD⟩ := hJ
    replace hK := (hK.sub (tys' := [(k3, .int)]) [0] rfl).app (hK1.sub (tys' := []) [] rfl)
    clear hP1 hK1 hD1 hvm ht hS; try clear t
    try clear H
    revert hS1
    intro hS
    generalize H1 = H at hP hS ⊢; try clear H1
    replace hP : va_P (dC, dI) vwCl [(qf, .inr (13, fs_qf)), (a3, .inl (k3, 128, .inl (fun _ => 0))), (h0, .inr (15, fs_6))] H := hP
    replace hD : va_D A [(qf, .inr (13, fs_qf)), (a3, .inl (k3, 128, .inl (fun _ => 0))), (h0, .inr (15, fs_6))] := hD
    replace hK : va_K (dC, dI) vwCl [(k3, .int)] s := hK
    have hw_8 : r_5 = 1 := hw; clear hw
    subst hw_8
    refine lv_if_eq (tgt := 36) hx hb dX15_term_31 (by decide) (fun hc => absurd hc (by decide)) (fun _ => ?_)
    refine lv_iconst (v := 0) hx hb dX15_term_34 (by decide) ?_
    have hP9 := hP.sub (ws' := [(h0, .inr (15, fs_6))]) [2] rfl
    have hD9 := hD.sub (ws' := [(h0, .inr (15, fs_6))]) [2] (by decide) rfl
    have hK9 := hK.sub (tys' := []) [] rfl
    rw [← hAe] at hD9
    refine W.widen (k := 0) (n := 0) (Nat.le_of_ble_eq_true rfl) (Nat.le_of_ble_eq_true rfl) ?_
    subst hAe
    exact (W.iret (v := 0) hx hb hr (fun t ht hW => ⟨⟨0, 1, rfl, Or.inr ⟨rfl, hw_3⟩, fs_6, by rw [ht]; exact hP9, va_K.moved hW.alike hK9, hD9, (mF.sub hp_7 [0] rfl)⟩, hS.F ht⟩) hS.2.2 dX15_term_35)
  · skip
    refine lv_lstore_n (lv' := [(2, .long r_2), (0, .ref h0), (1, .int x0)]) hx hb dX15_term_12 rfl hl (by decide) rfl (fun ls hl => ?_)
    refine lv_aload_n hx hb dX15_term_13 rfl (lv_at hl 1 rfl) ?_
    refine lv_lload_n hx hb dX15_term_14 rfl (lv_at hl 0 rfl) ?_
    refine lv_ldc2 (v := (-1)) hx hb hown (hts (.constantLong RX15 389 (-1)) (List.mem_of_getElem? (i := 5) rfl)) dX15_term_15 ?_
    refine W.lcmp hx hb dX15_term_18 ?_
    refine lv_if_ne (tgt := 26) hx hb dX15_term_19 (by decide) (fun hc_9 => ?_) (fun hc_9 => ?_)
    · skip
      refine lv_iconst (v := 0) hx hb dX15_term_26 (by decide) ?_
      refine lv_iconst (v := 1) hx hb dX15_term_27 (by decide) ?_
      have hPc := hP.sub (ws' := [(h0, .inr (15, fs_1))]) [0] rfl
      have hDc := hD.sub (ws' := [(h0, .inr (15, fs_1))]) [0] (by decide) rfl
      have hKc := hK.sub (tys' := []) [] rfl
      have hFc := va_free (wc := [(h0, .inr (15, fs_1))]) hD hS hA [0] rfl
      refine va_calli (va_runV (As := [.int 0, .int 1]) (rest := []) ⟨hx, hb, hml, hown, hts⟩ (c_m_bad0 l dC dI h0 1 fs_1 (mF.sub hF_h0 [0] rfl) H.size) (cwV 2 hts g_m_term_m_bad0_424 rfl rfl rfl hv_X15_bad ⟨Nat.le_of_ble_eq_true rfl, Nat.le_of_ble_eq_true rfl⟩) ⟨fun a U g mk q => by obtain ⟨q0, q1, qP, qK, qD, qE0⟩ := q; exact ⟨q0, q1, qP, va_K.moved (u := U) (U := U.calling g mk a) (Vm.Alike.refl U.vm) qK, qD, w_N.same rfl qE0⟩, va_recv hKc hPc (ci := 15) (q0 := 0) rfl rfl, fun U hU hW => ⟨rfl, by rw [hU], by rw [hU]; exact hPc, va_K.moved hW.alike hKc, hDc.weaken (fun _ _ _ _ => trivial), w_N.warm hW hN⟩⟩ rfl rfl hl.1 rfl (lv_room (Nat.le_of_ble_eq_true rfl)) dX15_term_28 ⟨(Nat.le_of_ble_eq_true rfl), (Nat.le_of_ble_eq_true rfl)⟩) hS (fun q _ h => hFc q h) hFc (fun r_10 u t H1 locs1 ht hvm hw hB hz1 hk1 hS1 => ?_)
      obtain ⟨hP1, hK1, hD1⟩ := hB
      rw [ht] at hP1
      have hK1 := va_K.moved hvm.symm hK1
      have hJ := va_join (wr := [(qf, .inr (13, fs_qf)), (a3, .inl (k3, 128, .inl (fun _ => 0)))]) (w1 := [(h0, .inr (15, fs_1))]) hP hD [0] [1, 2] rfl rfl (by decide) (by decide) hk1 hFc hP1 hD1
      clear hP hD hPc hDc hKc hFc hz1; try clear hk1
      obtain ⟨hP, hD⟩ := hJ
      replace hK := (hK.sub (tys' := [(k3, .int)]) [0] rfl).app (hK1.sub (tys' := []) [] rfl)
      clear hP1 hK1 hD1 hvm ht hS; try clear t
      try clear H
      revert hS1
      intro hS
      generalize H1 = H at hP hS ⊢; try clear H1
      replace hP : va_P (dC, dI) vwCl [(qf, .inr (13, fs_qf)), (a3, .inl (k3, 128, .inl (fun _ => 0))), (h0, .inr (15, fs_1))] H := hP
      replace hD : va_D A [(qf, .inr (13, fs_qf)), (a3, .inl (k3, 128, .inl (fun _ => 0))), (h0, .inr (15, fs_1))] := hD
      replace hK : va_K (dC, dI) vwCl [(k3, .int)] s := hK
      have hw_11 : r_10 = 0 := hw; clear hw
      subst hw_11
      refine lv_if_eq (tgt := 36) hx hb dX15_term_31 (by decide) (fun _ => ?_) (fun hc => absurd (by decide) hc)
      refine lv_aload_n hx hb dX15_term_36 rfl (lv_at hl 1 rfl) ?_
      refine va_get (D := (dC, dI)) (ci := 15) (v := .ref qf) (C := RX15) (T := TX15) (N := 89) hx hb hts (in_m_term_X15) hown hK hP 2 rfl rfl 30 (by decide) (hts (.fieldLink RX15 130 "MotionSignsModel" "f" "LMotionSignsModel$Poly;") (List.mem_of_getElem? (i := 9) rfl)) (fun _ h9 => h9) (mF.get hF_h0 15 rfl) dX15_term_37 ?_
      refine lv_lload_n hx hb dX15_term_40 rfl (lv_at hl 0 rfl) ?_
      have hPc := hP.sub (ws' := [(qf, .inr (13, fs_qf)), (a3, .inl (k3, 128, .inl (fun _ => 0)))]) [0, 1] rfl
      have hDc := hD.sub (ws' := [(qf, .inr (13, fs_qf)), (a3, .inl (k3, 128, .inl (fun _ => 0)))]) [0, 1] (by decide) rfl
      have hKc := hK.sub (tys' := [(k3, .int)]) [0] rfl
      have hFc := va_free (wc := [(qf, .inr (13, fs_qf)), (a3, .inl (k3, 128, .inl (fun _ => 0)))]) hD hS hA [0, 1] rfl
      refine va_calll (va_runVN (As := [.long r_2]) (rest := []) ⟨hx, hb, hml, hown, hts⟩ (c_q_of l dC dI qf a3 k3 r_2 fs_qf (mF.sub hF_qf [1] rfl) H.size) ⟨va_cnB 1 hts g_m_term_q_of_463 rfl rfl rfl (hN.1 (RX15, 463, yX13_of, RX15) (List.mem_of_getElem? (i := 38) rfl)) (hts (.initialized RX13) (List.mem_of_getElem? (i := 10) rfl)) hd_X13_of ⟨Nat.le_of_ble_eq_true rfl, Nat.le_of_ble_eq_true rfl⟩, (hts (.instanceMethod yX13_of) (List.mem_of_getElem? (i := 11) rfl)), (hts (.selects RX13 yX13_of yX13_of) (List.mem_of_getElem? (i := 12) rfl))⟩ ⟨fun a U g mk q => by obtain ⟨q0, q1, qP, qK, qD, qE0⟩ := q; exact ⟨q0, q1, qP, va_K.moved (u := U) (U := U.calling g mk a) (Vm.Alike.refl U.vm) qK, qD, w_N.same rfl qE0⟩, va_recv hKc hPc (ci := 13) (q0 := 0) rfl rfl, fun U hU hW => ⟨rfl, by rw [hU], by rw [hU]; exact hPc, va_K.moved hW.alike hKc, hDc.weaken (fun _ _ _ _ => trivial), w_N.warm hW hN⟩⟩ rfl rfl hl.1 rfl (lv_room (Nat.le_of_ble_eq_true rfl)) dX15_term_41 ⟨(Nat.le_of_ble_eq_true rfl), (Nat.le_of_ble_eq_true rfl)⟩) hS (fun q _ h => hFc q h) hFc (fun r_12 u t H1 locs1 ht hvm hw hB hz1 hk1 hS1 => ?_)
      obtain ⟨hP1, hK1, hD1⟩ := hB
      rw [ht] at hP1
      have hK1 := va_K.moved hvm.symm hK1
      have hJ := va_join (wr := [(h0, .inr (15, fs_1))]) (w1 := [(qf, .inr (13, fs_qf)), (a3, .inl (k3, 128, .inl (fun _ => 0)))]) hP hD [0, 1] [2] rfl rfl (by decide) (by decide) hk1 hFc hP1 hD1
      clear hP hD hPc hDc hKc hFc hz1; try clear hk1
      obtain ⟨hP, hD⟩ := hJ
      replace hK := (hK.sub (tys' := [(k3, .int)]) [0] rfl).app (hK1.sub (tys' := []) [] rfl)
      clear hP1 hK1 hD1 hvm ht hS; try clear t
      try clear H
      revert hS1
      intro hS
      generalize H1 = H at hP hS ⊢; try clear H1
      replace hP : va_P (dC, dI) vwCl [(h0, .inr (15, fs_1)), (qf, .inr (13, fs_qf)), (a3, .inl (k3, 128, .inl (fun _ => 0)))] H := hP
      replace hD : va_D A [(h0, .inr (15, fs_1)), (qf, .inr (13, fs_qf)), (a3, .inl (k3, 128, .inl (fun _ => 0)))] := hD
      replace hK : va_K (dC, dI) vwCl [(k3, .int)] s := hK
      have hw_13 : r_12 = 0 := hw; clear hw
      subst hw_13
      refine lv_l2i (v := 0) hx hb dX15_term_44 (by decide) ?_
      have hP9 := hP.sub (ws' := [(h0, .inr (15, fs_1))]) [0] rfl
      have hD9 := hD.sub (ws' := [(h0, .inr (15, fs_1))]) [0] (by decide) rfl
      have hK9 := hK.sub (tys' := []) [] rfl
      rw [← hAe] at hD9
      refine W.widen (k := 0) (n := 0) (Nat.le_of_ble_eq_true rfl) (Nat.le_of_ble_eq_true rfl) ?_
      subst hAe
      exact (W.iret (v := 0) hx hb hr (fun t ht hW => ⟨⟨0, 0, rfl, Or.inl ⟨rfl, rfl, hw_3.2⟩, fs_1, by rw [ht]; exact hP9, va_K.moved hW.alike hK9, hD9, (mF.sub hF_h0 [0] rfl)⟩, hS.F ht⟩) hS.2.2 dX15_term_45)
    · skip
      refine lv_iconst (v := 1) hx hb dX15_term_22 (by decide) ?_
      refine lv_goto (tgt := 27) hx hb dX15_term_23 (by decide) ?_
      refine lv_iconst (v := 1) hx hb dX15_term_27 (by decide) ?_
      have hPc := hP.sub (ws' := [(h0, .inr (15, fs_1))]) [0] rfl
      have hDc := hD.sub (ws' := [(h0, .inr (15, fs_1))]) [0] (by decide) rfl
      have hKc := hK.sub (tys' := []) [] rfl
      have hFc := va_free (wc := [(h0, .inr (15, fs_1))]) hD hS hA [0] rfl
      refine va_calli (va_runV (As := [.int 1, .int 1]) (rest := []) ⟨hx, hb, hml, hown, hts⟩ (c_m_bad1 l dC dI h0 qfed qf qfd qs qk fs_1 (mF.sub hF_h0 [0, 1, 2, 3, 4, 5, 6, 7, 8, 9, 10, 11, 12, 13, 14, 15, 16, 17, 18] rfl) H.size) (cwV 2 hts g_m_term_m_bad1_424 rfl rfl rfl hv_X15_bad ⟨Nat.le_of_ble_eq_true rfl, Nat.le_of_ble_eq_true rfl⟩) ⟨fun a U g mk q => by obtain ⟨q0, q1, qP, qK, qD, qE0⟩ := q; exact ⟨q0, q1, qP, va_K.moved (u := U) (U := U.calling g mk a) (Vm.Alike.refl U.vm) qK, qD, w_N.same rfl qE0⟩, va_recv hKc hPc (ci := 15) (q0 := 0) rfl rfl, fun U hU hW => ⟨rfl, by rw [hU], by rw [hU]; exact hPc, va_K.moved hW.alike hKc, hDc.weaken (fun _ _ _ _ => trivial), w_N.warm hW hN⟩⟩ rfl rfl hl.1 rfl (lv_room (Nat.le_of_ble_eq_true rfl)) dX15_term_28 ⟨(Nat.le_of_ble_eq_true rfl), (Nat.le_of_ble_eq_true rfl)⟩) hS (fun q _ h => hFc q h) hFc (fun r_14 u t H1 locs1 ht hvm hw hB hz1 hk1 hS1 => ?_)
      obtain ⟨fs_15, hP1, hK1, hD1, hp_16⟩ := hB
      rw [ht] at hP1
      have hK1 := va_K.moved hvm.symm hK1
      have hJ := va_join (wr := [(qf, .inr (13, fs_qf)), (a3, .inl (k3, 128, .inl (fun _ => 0)))]) (w1 := [(h0, .inr (15, fs_15))]) hP hD [0] [1, 2] rfl rfl (by decide) (by decide) hk1 hFc hP1 hD1
      clear hP hD hPc hDc hKc hFc hz1; try clear hk1
      obtain ⟨hP, hD⟩ := hJ
      replace hK := (hK.sub (tys' := [(k3, .int)]) [0] rfl).app (hK1.sub (tys' := []) [] rfl)
      clear hP1 hK1 hD1 hvm ht hS; try clear t
      try clear H
      revert hS1
      intro hS
      generalize H1 = H at hP hS ⊢; try clear H1
      replace hP : va_P (dC, dI) vwCl [(qf, .inr (13, fs_qf)), (a3, .inl (k3, 128, .inl (fun _ => 0))), (h0, .inr (15, fs_15))] H := hP
      replace hD : va_D A [(qf, .inr (13, fs_qf)), (a3, .inl (k3, 128, .inl (fun _ => 0))), (h0, .inr (15, fs_15))] := hD
      replace hK : va_K (dC, dI) vwCl [(k3, .int)] s := hK
      have hw_17 : r_14 = 1 := hw; clear hw
      subst hw_17
      refine lv_if_eq (tgt := 36) hx hb dX15_term_31 (by decide) (fun hc => absurd hc (by decide)) (fun _ => ?_)
      refine lv_iconst (v := 0) hx hb dX15_term_34 (by decide) ?_
      have hP9 := hP.sub (ws' := [(h0, .inr (15, fs_15))]) [2] rfl
      have hD9 := hD.sub (ws' := [(h0, .inr (15, fs_15))]) [2] (by decide) rfl
      have hK9 := hK.sub (tys' := []) [] rfl
      rw [← hAe] at hD9
      refine W.widen (k := 0) (n := 0) (Nat.le_of_ble_eq_true rfl) (Nat.le_of_ble_eq_true rfl) ?_
      subst hAe
      exact (W.iret (v := 0) hx hb hr (fun t ht hW => ⟨⟨0, 1, rfl, Or.inr ⟨rfl, absurd ((lg_cmp_eq _ _).mp hc_9) hw_3.1⟩, fs_15, by rw [ht]; exact hP9, va_K.moved hW.alike hK9, hD9, (mF.sub hp_16 [0] rfl)⟩, hS.F ht⟩) hS.2.2 dX15_term_35)
def wv_q_clear : List Cond := .code yX13_clear cX13_clear 2 none :: ([.fieldLink RX13 25 "MotionSignsModel$Poly" "many" "I"] ++ (wsX130 ++ ([])))
theorem gw_q_clear : wv_q_clear.all goodWord = true := by decide +kernel
theorem in_q_clear_X13 : ∀ w ∈ wsX130, w ∈ wv_q_clear := fun _ h => List.mem_cons_of_mem _ (List.mem_append_right _ (List.mem_append_left _ h))
set_option maxHeartbeats 4000000 in
set_option maxRecDepth 100000 in
/-- clear -/
theorem c_q_clear (l : Launch) (dC : Nat → ClassId) (dI : Nat → Nat → Nat) (h0 : Nat) (fs_h0 : List Value) (hF_h0 : mF 5 [(4, .int 0)] fs_h0) (sz : Nat) : Met l yX13_clear wv_q_clear ({ frames := 0, cells := 0, slots := 0, locals := 0 }) (va_Pc [.ref h0] (fun U => U.heap.size = sz ∧ va_P (dC, dI) vwCl [(h0, .inr (13, fs_h0))] U.heap ∧ va_K (dC, dI) vwCl [] U ∧ va_D (fun _ => True) [(h0, .inr (13, fs_h0))] ∧ w_N U)) (va_Qv (fun (_ : Unit) => True) (fun _ t => ∃ (fs_h02 : List Value), va_P (dC, dI) vwCl [(h0, .inr (13, fs_h02))] t.heap ∧ va_K (dC, dI) vwCl [] t ∧ va_D (va_A [(h0, .inr (13, fs_h0))] sz) [(h0, .inr (13, fs_h02))] ∧ mF 5 [(4, .int 0)] fs_h02) (va_A [(h0, .inr (13, fs_h0))] sz)) 0 0 (va_A [(h0, .inr (13, fs_h0))] sz) := by
  refine Met.ofW (cc := cX13_clear) (maxL := 2) (ret := none) (by decide) rfl ?_
  intro p e s m args below meth c s₁ B hml hv
  obtain ⟨rfl, hsz, hP, hK, hD0, hN⟩ := hv
  have hx := B.exec
  have hb := B.bytes
  have hr := B.returns
  have hts := atoms_spec (ws := wv_q_clear) B.pre
  have hown : s.vm.findClass RX13 = some m.cls := findClass_of_methodNamed B.named
  have hlocks := B.notSynchronized
  subst hsz
  have hD := hD0.self (sz := s.heap.size)
  generalize hAe : va_A [(h0, .inr (13, fs_h0))] s.heap.size = A at hD ⊢
  have hA : ∀ q : Nat, s.heap.size ≤ q → A q := fun q h => by rw [← hAe]; exact Or.inr h
  obtain ⟨H, hHe, hP, hS⟩ : ∃ H : Heap, H = s.heap ∧ va_P (dC, dI) vwCl [(h0, .inr (13, fs_h0))] H ∧ va_S A s.heap H [] := ⟨s.heap, rfl, hP, va_S.rf⟩
  have hl := lv_entry ([.ref h0]) (n := 2) (Nat.le_of_ble_eq_true rfl)
  rw [lg_entry_eq]
  generalize (lg_sl ([.ref h0]) ++ List.replicate (2 - (lg_sl ([.ref h0])).length) Slot.unset).toArray = ls at hl ⊢
  have hl : lv_has ls 2 [(0, .ref h0)] := hl
  rw [← hHe]; clear hHe
  refine lv_iconst (v := 0) hx hb dX13_clear_0 (by decide) ?_
  refine lv_istore_n (lv' := [(1, .int 0), (0, .ref h0)]) hx hb dX13_clear_1 rfl hl (by decide) rfl (fun ls hl => ?_)
  refine lv_iload_n hx hb dX13_clear_2 rfl (lv_at hl 0 rfl) ?_
  refine lv_aload_n hx hb dX13_clear_3 rfl (lv_at hl 1 rfl) ?_
  refine va_get (D := (dC, dI)) (ci := 13) (v := .int 0) (C := RX13) (T := TX13) (N := 5) hx hb hts (in_q_clear_X13) hown hK hP 0 rfl rfl 4 (by decide) (hts (.fieldLink RX13 25 "MotionSignsModel$Poly" "many" "I") (List.mem_of_getElem? (i := 1) rfl)) (fun _ h9 => h9) (mF.get hF_h0 0 rfl) dX13_clear_4 ?_
  refine lv_icmp_ge (tgt := 28) hx hb dX13_clear_7 (by decide) (fun _ => ?_) (fun hc => absurd (by decide) hc)
  refine lv_aload_n hx hb dX13_clear_28 rfl (lv_at hl 1 rfl) ?_
  refine lv_iconst (v := 0) hx hb dX13_clear_29 (by decide) ?_
  refine va_put (D := (dC, dI)) (ci := 13) (v := .int 0) (ty := .int) (C := RX13) (T := TX13) (N := 5) hx hb hts (in_q_clear_X13) tyX13 tyX13_ok nmX13 hown hK hP hD hS 0 rfl rfl 4 (by decide) (hts (.fieldLink RX13 25 "MotionSignsModel$Poly" "many" "I") (List.mem_of_getElem? (i := 1) rfl)) (fun _ h9 => h9) rfl (tyX13_ok 4 (by decide)) rfl rfl (mF.lt hF_h0 (by decide)) dX13_clear_30 ?_
  clear hP hD hS; try clear H
  intro H locs hP hD hS
  have hF0 := mF.sub (L' := []) hF_h0 [] rfl
  have hF1 := mF.put hF0 4 (.int 0) (by decide) rfl
  replace hP : va_P (dC, dI) vwCl [(h0, .inr (13, (fs_h0.set 4 (.int 0))))] H := hP
  replace hD : va_D A [(h0, .inr (13, (fs_h0.set 4 (.int 0))))] := hD
  generalize fs_h0.set 4 (.int 0) = fs_1 at hP hD hF1
  replace hF_h0 : mF 5 [(4, .int 0)] fs_1 := hF1
  clear hF1 hF0
  replace hP : va_P (dC, dI) vwCl [(h0, .inr (13, fs_1))] H := hP
  replace hD : va_D A [(h0, .inr (13, fs_1))] := hD
  have hP9 := hP.sub (ws' := [(h0, .inr (13, fs_1))]) [0] rfl
  have hD9 := hD.sub (ws' := [(h0, .inr (13, fs_1))]) [0] (by decide) rfl
  have hK9 := hK.sub (tys' := []) [] rfl
  rw [← hAe] at hD9
  refine W.widen (k := 0) (n := 0) (Nat.le_of_ble_eq_true rfl) (Nat.le_of_ble_eq_true rfl) ?_
  subst hAe
  exact (W.vret hx hb hr (fun t ht hW => ⟨⟨(), rfl, trivial, fs_1, by rw [ht]; exact hP9, va_K.moved hW.alike hK9, hD9, (mF.sub hF_h0 [0] rfl)⟩, hS.F ht⟩) hS.2.2 dX13_clear_33)
def wv_q_adds : List Cond := .code yX13_adds cX13_adds 5 none :: ([.fieldLink RX13 25 "MotionSignsModel$Poly" "many" "I"] ++ (wsX130 ++ ([])))
theorem gw_q_adds : wv_q_adds.all goodWord = true := by decide +kernel
theorem in_q_adds_X13 : ∀ w ∈ wsX130, w ∈ wv_q_adds := fun _ h => List.mem_cons_of_mem _ (List.mem_append_right _ (List.mem_append_left _ h))
set_option maxHeartbeats 4000000 in
set_option maxRecDepth 100000 in
/-- adds -/
theorem c_q_adds (l : Launch) (dC : Nat → ClassId) (dI : Nat → Nat → Nat) (h0 : Nat) (h1 : Nat) (bn : Int64) (fs_h0 : List Value) (fs_h1 : List Value) (hF_h0 : mF 5 [(4, .int 0)] fs_h0) (hF_h1 : mF 5 [(4, .int 0)] fs_h1) (sz : Nat) : Met l yX13_adds wv_q_adds ({ frames := 0, cells := 0, slots := 0, locals := 0 }) (va_Pc [.ref h0, .ref h1, .long bn] (fun U => U.heap.size = sz ∧ va_P (dC, dI) vwCl [(h0, .inr (13, fs_h0)), (h1, .inr (13, fs_h1))] U.heap ∧ va_K (dC, dI) vwCl [] U ∧ va_D (fun _ => True) [(h0, .inr (13, fs_h0)), (h1, .inr (13, fs_h1))] ∧ w_N U)) (va_Qv (fun (_ : Unit) => True) (fun _ t => va_P (dC, dI) vwCl [(h0, .inr (13, fs_h0)), (h1, .inr (13, fs_h1))] t.heap ∧ va_K (dC, dI) vwCl [] t ∧ va_D (va_A [(h0, .inr (13, fs_h0)), (h1, .inr (13, fs_h1))] sz) [(h0, .inr (13, fs_h0)), (h1, .inr (13, fs_h1))]) (va_A [(h0, .inr (13, fs_h0)), (h1, .inr (13, fs_h1))] sz)) 0 0 (va_A [(h0, .inr (13, fs_h0)), (h1, .inr (13, fs_h1))] sz) := by
  refine Met.ofW (cc := cX13_adds) (maxL := 5) (ret := none) (by decide) rfl ?_
  intro p e s m args below meth c s₁ B hml hv
  obtain ⟨rfl, hsz, hP, hK, hD0, hN⟩ := hv
  have hx := B.exec
  have hb := B.bytes
  have hr := B.returns
  have hts := atoms_spec (ws := wv_q_adds) B.pre
  have hown : s.vm.findClass RX13 = some m.cls := findClass_of_methodNamed B.named
  have hlocks := B.notSynchronized
  subst hsz
  have hD := hD0.self (sz := s.heap.size)
  generalize hAe : va_A [(h0, .inr (13, fs_h0)), (h1, .inr (13, fs_h1))] s.heap.size = A at hD ⊢
  have hA : ∀ q : Nat, s.heap.size ≤ q → A q := fun q h => by rw [← hAe]; exact Or.inr h
  obtain ⟨H, hHe, hP, hS⟩ : ∃ H : Heap, H = s.heap ∧ va_P (dC, dI) vwCl [(h0, .inr (13, fs_h0)), (h1, .inr (13, fs_h1))] H ∧ va_S A s.heap H [] := ⟨s.heap, rfl, hP, va_S.rf⟩
  have hl := lv_entry ([.ref h0, .ref h1, .long bn]) (n := 5) (Nat.le_of_ble_eq_true rfl)
  rw [lg_entry_eq]
  generalize (lg_sl ([.ref h0, .ref h1, .long bn]) ++ List.replicate (5 - (lg_sl ([.ref h0, .ref h1, .long bn])).length) Slot.unset).toArray = ls at hl ⊢
  have hl : lv_has ls 5 [(0, .ref h0), (1, .ref h1), (2, .long bn)] := hl
  rw [← hHe]; clear hHe
  refine lv_iconst (v := 0) hx hb dX13_adds_0 (by decide) ?_
  refine lv_istore (lv' := [(4, .int 0), (0, .ref h0), (1, .ref h1), (2, .long bn)]) hx hb dX13_adds_1 hl (by decide) rfl (fun ls hl => ?_)
  refine lv_iload hx hb dX13_adds_3 (lv_at hl 0 rfl) ?_
  refine lv_aload_n hx hb dX13_adds_5 rfl (lv_at hl 2 rfl) ?_
  refine va_get (D := (dC, dI)) (ci := 13) (v := .int 0) (C := RX13) (T := TX13) (N := 5) hx hb hts (in_q_adds_X13) hown hK hP 1 rfl rfl 4 (by decide) (hts (.fieldLink RX13 25 "MotionSignsModel$Poly" "many" "I") (List.mem_of_getElem? (i := 1) rfl)) (fun _ h9 => h9) (mF.get hF_h1 0 rfl) dX13_adds_6 ?_
  refine lv_icmp_ge (tgt := 38) hx hb dX13_adds_9 (by decide) (fun _ => ?_) (fun hc => absurd (by decide) hc)
  have hP9 := hP.sub (ws' := [(h0, .inr (13, fs_h0)), (h1, .inr (13, fs_h1))]) [0, 1] rfl
  have hD9 := hD.sub (ws' := [(h0, .inr (13, fs_h0)), (h1, .inr (13, fs_h1))]) [0, 1] (by decide) rfl
  have hK9 := hK.sub (tys' := []) [] rfl
  rw [← hAe] at hD9
  refine W.widen (k := 0) (n := 0) (Nat.le_of_ble_eq_true rfl) (Nat.le_of_ble_eq_true rfl) ?_
  subst hAe
  exact (W.vret hx hb hr (fun t ht hW => ⟨⟨(), rfl, trivial, by rw [ht]; exact hP9, va_K.moved hW.alike hK9, hD9⟩, hS.F ht⟩) hS.2.2 dX13_adds_38)
def wv_m_copies : List Cond := .code yX15_copies cX15_copies 2 none :: ([.initialized RX13, .instanceMethod yX13_clear, .selects RX13 yX13_clear yX13_clear, .instanceMethod yX13_adds, .selects RX13 yX13_adds yX13_adds] ++ (wv_q_clear ++ (wv_q_adds ++ ([]))))
theorem gw_m_copies : wv_m_copies.all goodWord = true := by decide +kernel
theorem g_m_copies_q_clear_368 : GoodIn wv_m_copies wv_q_clear := goodIn_sub (fun _ h => List.mem_cons_of_mem _ (List.mem_append_right _ (List.mem_append_left _ h))) gw_q_clear
theorem g_m_copies_q_adds_374 : GoodIn wv_m_copies wv_q_adds := goodIn_sub (fun _ h => List.mem_cons_of_mem _ (List.mem_append_right _ (List.mem_append_right _ (List.mem_append_left _ h)))) gw_q_adds
set_option maxHeartbeats 4000000 in
set_option maxRecDepth 100000 in
/-- copies -/
theorem c_m_copies (l : Launch) (dC : Nat → ClassId) (dI : Nat → Nat → Nat) (h0 : Nat) (h1 : Nat) (fs_h0 : List Value) (fs_h1 : List Value) (hF_h0 : mF 5 [(4, .int 0)] fs_h0) (hF_h1 : mF 5 [(4, .int 0)] fs_h1) (sz : Nat) : Met l yX15_copies wv_m_copies ({ frames := 1, cells := 0, slots := 0, locals := 24 }) (va_Pc [.ref h0, .ref h1] (fun U => U.heap.size = sz ∧ va_P (dC, dI) vwCl [(h0, .inr (13, fs_h0)), (h1, .inr (13, fs_h1))] U.heap ∧ va_K (dC, dI) vwCl [] U ∧ va_D (fun _ => True) [(h0, .inr (13, fs_h0)), (h1, .inr (13, fs_h1))] ∧ w_N U)) (va_Qv (fun (_ : Unit) => True) (fun _ t => ∃ (fs_h12 : List Value), va_P (dC, dI) vwCl [(h0, .inr (13, fs_h0)), (h1, .inr (13, fs_h12))] t.heap ∧ va_K (dC, dI) vwCl [] t ∧ va_D (va_A [(h0, .inr (13, fs_h0)), (h1, .inr (13, fs_h1))] sz) [(h0, .inr (13, fs_h0)), (h1, .inr (13, fs_h12))] ∧ mF 5 [(4, .int 0)] fs_h12) (va_A [(h0, .inr (13, fs_h0)), (h1, .inr (13, fs_h1))] sz)) 0 0 (va_A [(h0, .inr (13, fs_h0)), (h1, .inr (13, fs_h1))] sz) := by
  refine Met.ofW (cc := cX15_copies) (maxL := 2) (ret := none) (by decide) rfl ?_
  intro p e s m args below meth c s₁ B hml hv
  obtain ⟨rfl, hsz, hP, hK, hD0, hN⟩ := hv
  have hx := B.exec
  have hb := B.bytes
  have hr := B.returns
  have hts := atoms_spec (ws := wv_m_copies) B.pre
  have hown : s.vm.findClass RX15 = some m.cls := findClass_of_methodNamed B.named
  have hlocks := B.notSynchronized
  subst hsz
  have hD := hD0.self (sz := s.heap.size)
  generalize hAe : va_A [(h0, .inr (13, fs_h0)), (h1, .inr (13, fs_h1))] s.heap.size = A at hD ⊢
  have hA : ∀ q : Nat, s.heap.size ≤ q → A q := fun q h => by rw [← hAe]; exact Or.inr h
  obtain ⟨H, hHe, hP, hS⟩ : ∃ H : Heap, H = s.heap ∧ va_P (dC, dI) vwCl [(h0, .inr (13, fs_h0)), (h1, .inr (13, fs_h1))] H ∧ va_S A s.heap H [] := ⟨s.heap, rfl, hP, va_S.rf⟩
  have hl := lv_entry ([.ref h0, .ref h1]) (n := 2) (Nat.le_of_ble_eq_true rfl)
  rw [lg_entry_eq]
  generalize (lg_sl ([.ref h0, .ref h1]) ++ List.replicate (2 - (lg_sl ([.ref h0, .ref h1])).length) Slot.unset).toArray = ls at hl ⊢
  have hl : lv_has ls 2 [(0, .ref h0), (1, .ref h1)] := hl
  rw [← hHe]; clear hHe
  refine lv_aload_n hx hb dX15_copies_0 rfl (lv_at hl 1 rfl) ?_
  have hPc := hP.sub (ws' := [(h1, .inr (13, fs_h1))]) [1] rfl
  have hDc := hD.sub (ws' := [(h1, .inr (13, fs_h1))]) [1] (by decide) rfl
  have hKc := hK.sub (tys' := []) [] rfl
  have hFc := va_free (wc := [(h1, .inr (13, fs_h1))]) hD hS hA [1] rfl
  refine va_callv (va_runVN (As := []) (rest := []) ⟨hx, hb, hml, hown, hts⟩ (c_q_clear l dC dI h1 fs_h1 (mF.sub hF_h1 [0] rfl) H.size) ⟨va_cnB 0 hts g_m_copies_q_clear_368 rfl rfl rfl (hN.1 (RX15, 368, yX13_clear, RX15) (List.mem_of_getElem? (i := 30) rfl)) (hts (.initialized RX13) (List.mem_of_getElem? (i := 1) rfl)) hd_X13_clear ⟨Nat.le_of_ble_eq_true rfl, Nat.le_of_ble_eq_true rfl⟩, (hts (.instanceMethod yX13_clear) (List.mem_of_getElem? (i := 2) rfl)), (hts (.selects RX13 yX13_clear yX13_clear) (List.mem_of_getElem? (i := 3) rfl))⟩ ⟨fun a U g mk q => by obtain ⟨q0, q1, qP, qK, qD, qE0⟩ := q; exact ⟨q0, q1, qP, va_K.moved (u := U) (U := U.calling g mk a) (Vm.Alike.refl U.vm) qK, qD, w_N.same rfl qE0⟩, va_recv hKc hPc (ci := 13) (q0 := 0) rfl rfl, fun U hU hW => ⟨rfl, by rw [hU], by rw [hU]; exact hPc, va_K.moved hW.alike hKc, hDc.weaken (fun _ _ _ _ => trivial), w_N.warm hW hN⟩⟩ rfl rfl hl.1 rfl (lv_room (Nat.le_of_ble_eq_true rfl)) dX15_copies_1 ⟨(Nat.le_of_ble_eq_true rfl), (Nat.le_of_ble_eq_true rfl)⟩) hS (fun q _ h => hFc q h) hFc (fun u t H1 locs1 ht hvm hw hB hz1 hk1 hS1 => ?_)
  obtain ⟨fs_1, hP1, hK1, hD1, hp_2⟩ := hB
  rw [ht] at hP1
  have hK1 := va_K.moved hvm.symm hK1
  have hJ := va_join (wr := [(h0, .inr (13, fs_h0))]) (w1 := [(h1, .inr (13, fs_1))]) hP hD [1] [0] rfl rfl (by decide) (by decide) hk1 hFc hP1 hD1
  clear hP hD hPc hDc hKc hFc hz1; try clear hk1
  obtain ⟨hP, hD⟩ := hJ
  replace hK := (hK.sub (tys' := []) [] rfl).app (hK1.sub (tys' := []) [] rfl)
  clear hP1 hK1 hD1 hvm ht hS; try clear t
  try clear H
  revert hS1
  intro hS
  generalize H1 = H at hP hS ⊢; try clear H1
  replace hP : va_P (dC, dI) vwCl [(h0, .inr (13, fs_h0)), (h1, .inr (13, fs_1))] H := hP
  replace hD : va_D A [(h0, .inr (13, fs_h0)), (h1, .inr (13, fs_1))] := hD
  replace hK : va_K (dC, dI) vwCl [] s := hK
  have hw_3 : True := hw; clear hw
  refine lv_aload_n hx hb dX15_copies_4 rfl (lv_at hl 1 rfl) ?_
  refine lv_aload_n hx hb dX15_copies_5 rfl (lv_at hl 0 rfl) ?_
  refine lv_lconst (v := 1) hx hb dX15_copies_6 (by decide) ?_
  have hPc := hP.sub (ws' := [(h1, .inr (13, fs_1)), (h0, .inr (13, fs_h0))]) [1, 0] rfl
  have hDc := hD.sub (ws' := [(h1, .inr (13, fs_1)), (h0, .inr (13, fs_h0))]) [1, 0] (by decide) rfl
  have hKc := hK.sub (tys' := []) [] rfl
  have hFc := va_free (wc := [(h1, .inr (13, fs_1)), (h0, .inr (13, fs_h0))]) hD hS hA [1, 0] rfl
  refine va_callv (va_runVN (As := [.ref h0, .long 1]) (rest := []) ⟨hx, hb, hml, hown, hts⟩ (c_q_adds l dC dI h1 h0 1 fs_1 fs_h0 (mF.sub hp_2 [0] rfl) (mF.sub hF_h0 [0] rfl) H.size) ⟨va_cnB 2 hts g_m_copies_q_adds_374 rfl rfl rfl (hN.1 (RX15, 374, yX13_adds, RX15) (List.mem_of_getElem? (i := 32) rfl)) (hts (.initialized RX13) (List.mem_of_getElem? (i := 1) rfl)) hd_X13_adds ⟨Nat.le_of_ble_eq_true rfl, Nat.le_of_ble_eq_true rfl⟩, (hts (.instanceMethod yX13_adds) (List.mem_of_getElem? (i := 4) rfl)), (hts (.selects RX13 yX13_adds yX13_adds) (List.mem_of_getElem? (i := 5) rfl))⟩ ⟨fun a U g mk q => by obtain ⟨q0, q1, qP, qK, qD, qE0⟩ := q; exact ⟨q0, q1, qP, va_K.moved (u := U) (U := U.calling g mk a) (Vm.Alike.refl U.vm) qK, qD, w_N.same rfl qE0⟩, va_recv hKc hPc (ci := 13) (q0 := 0) rfl rfl, fun U hU hW => ⟨rfl, by rw [hU], by rw [hU]; exact hPc, va_K.moved hW.alike hKc, hDc.weaken (fun _ _ _ _ => trivial), w_N.warm hW hN⟩⟩ rfl rfl hl.1 rfl (lv_room (Nat.le_of_ble_eq_true rfl)) dX15_copies_7 ⟨(Nat.le_of_ble_eq_true rfl), (Nat.le_of_ble_eq_true rfl)⟩) hS (fun q _ h => hFc q h) hFc (fun u t H1 locs1 ht hvm hw hB hz1 hk1 hS1 => ?_)
  obtain ⟨hP1, hK1, hD1⟩ := hB
  rw [ht] at hP1
  have hK1 := va_K.moved hvm.symm hK1
  have hJ := va_join (wr := []) (w1 := [(h1, .inr (13, fs_1)), (h0, .inr (13, fs_h0))]) hP hD [1, 0] [] rfl rfl (by decide) (by decide) hk1 hFc hP1 hD1
  clear hP hD hPc hDc hKc hFc hz1; try clear hk1
  obtain ⟨hP, hD⟩ := hJ
  replace hK := (hK.sub (tys' := []) [] rfl).app (hK1.sub (tys' := []) [] rfl)
  clear hP1 hK1 hD1 hvm ht hS; try clear t
  try clear H
  revert hS1
  intro hS
  generalize H1 = H at hP hS ⊢; try clear H1
  replace hP : va_P (dC, dI) vwCl [(h1, .inr (13, fs_1)), (h0, .inr (13, fs_h0))] H := hP
  replace hD : va_D A [(h1, .inr (13, fs_1)), (h0, .inr (13, fs_h0))] := hD
  replace hK : va_K (dC, dI) vwCl [] s := hK
  have hw_4 : True := hw; clear hw
  have hP9 := hP.sub (ws' := [(h0, .inr (13, fs_h0)), (h1, .inr (13, fs_1))]) [1, 0] rfl
  have hD9 := hD.sub (ws' := [(h0, .inr (13, fs_h0)), (h1, .inr (13, fs_1))]) [1, 0] (by decide) rfl
  have hK9 := hK.sub (tys' := []) [] rfl
  rw [← hAe] at hD9
  refine W.widen (k := 0) (n := 0) (Nat.le_of_ble_eq_true rfl) (Nat.le_of_ble_eq_true rfl) ?_
  subst hAe
  exact (W.vret hx hb hr (fun t ht hW => ⟨⟨(), rfl, trivial, fs_1, by rw [ht]; exact hP9, va_K.moved hW.alike hK9, hD9, (mF.sub hp_2 [0] rfl)⟩, hS.F ht⟩) hS.2.2 dX15_copies_10)
def wv_m_image : List Cond := .code yX15_image cX15_image 2 (some .int) :: ([.fieldLink RX15 296 "MotionSignsModel" "thrown" "I", .fieldLink RX15 450 "MotionSignsModel" "images" "I", .fieldLink RX15 134 "MotionSignsModel" "field" "[LMotionSignsModel$Poly;", .fieldLink RX15 149 "MotionSignsModel" "kept" "[[LMotionSignsModel$Poly;", .methodLink RX15 446 yX15_copies, .static yX15_copies, .initialized RX15, .fieldLink RX15 141 "MotionSignsModel" "solution" "LMotionSignsModel$Poly;"] ++ (wsX150 ++ (wv_m_copies ++ ([]))))
theorem gw_m_image : wv_m_image.all goodWord = true := by decide +kernel
theorem in_m_image_X15 : ∀ w ∈ wsX150, w ∈ wv_m_image := fun _ h => List.mem_cons_of_mem _ (List.mem_append_right _ (List.mem_append_left _ h))
theorem g_m_image_m_copies_446 : GoodIn wv_m_image (va_wsS RX15 446 yX15_copies wv_m_copies) := goodIn_app (goodIn_of _ (by decide +kernel)) (goodIn_sub (fun _ h => List.mem_cons_of_mem _ (List.mem_append_right _ (List.mem_append_right _ (List.mem_append_left _ h)))) gw_m_copies)
set_option maxHeartbeats 4000000 in
set_option maxRecDepth 100000 in
/-- the reference: image on a fresh object -/
theorem c_m_image (l : Launch) (dC : Nat → ClassId) (dI : Nat → Nat → Nat) (h0 : Nat) (qfed : Nat) (qf : Nat) (qfd : Nat) (qs : Nat) (qk : Nat) (kf : Nat) (kk : Nat) (qk0 : Nat) (ki : Nat) (d0 : Nat) (d1 : Nat) (d2 : Nat) (e0 : Nat) (e1 : Nat) (e2 : Nat) (e3 : Nat) (ff : Nat → Option Nat) (fk : Nat → Option Nat) (fi : Nat → Option Nat) (fs_h0 : List Value) (fs_d0 : List Value) (fs_d1 : List Value) (fs_d2 : List Value) (fs_qs : List Value) (fs_e0 : List Value) (fs_e1 : List Value) (fs_e2 : List Value) (fs_e3 : List Value) (hF_h0 : mF 89 [(0, .int 0), (18, .int 0), (19, .int 0), (20, .int (-1)), (21, .int 0), (22, .int 0), (23, .int 0), (24, .int 0), (25, .int 0), (27, .int 0), (28, .int 0), (29, .int 0), (35, .int 0), (17, .int (-1)), (26, .ref qfed), (30, .ref qf), (31, .ref qfd), (33, .ref qs), (36, .ref qk)] fs_h0) (hF_d0 : mF 5 [(4, .int 0)] fs_d0) (hF_d1 : mF 5 [(4, .int 0)] fs_d1) (hF_d2 : mF 5 [(4, .int 0)] fs_d2) (hF_qs : mF 5 [(4, .int 0)] fs_qs) (hF_e0 : mF 5 [(4, .int 0)] fs_e0) (hF_e1 : mF 5 [(4, .int 0)] fs_e1) (hF_e2 : mF 5 [(4, .int 0)] fs_e2) (hF_e3 : mF 5 [(4, .int 0)] fs_e3) (hd0 : ff 0 = some d0) (hd1 : ff 1 = some d1) (hd2 : ff 2 = some d2) (hk0 : fk 0 = some qk0) (hi0 : fi 0 = some e0) (hi1 : fi 1 = some e1) (hi2 : fi 2 = some e2) (hi3 : fi 3 = some e3) (sz : Nat) : Met l yX15_image wv_m_image ({ frames := 2, cells := 0, slots := 0, locals := 45 }) (va_Pc [.ref h0] (fun U => U.heap.size = sz ∧ va_P (dC, dI) vwCl [(h0, .inr (15, fs_h0)), (qfd, .inl (kf, 3, .inr (.inr (.inr (.inr ff))))), (qk, .inl (kk, 3, .inr (.inr (.inr (.inr fk))))), (qk0, .inl (ki, 4, .inr (.inr (.inr (.inr fi))))), (d0, .inr (13, fs_d0)), (d1, .inr (13, fs_d1)), (d2, .inr (13, fs_d2)), (qs, .inr (13, fs_qs)), (e0, .inr (13, fs_e0)), (e1, .inr (13, fs_e1)), (e2, .inr (13, fs_e2)), (e3, .inr (13, fs_e3))] U.heap ∧ va_K (dC, dI) vwCl [(kf, .object RX13), (kk, .array (.object RX13)), (ki, .object RX13)] U ∧ va_D (fun _ => True) [(h0, .inr (15, fs_h0)), (qfd, .inl (kf, 3, .inr (.inr (.inr (.inr ff))))), (qk, .inl (kk, 3, .inr (.inr (.inr (.inr fk))))), (qk0, .inl (ki, 4, .inr (.inr (.inr (.inr fi))))), (d0, .inr (13, fs_d0)), (d1, .inr (13, fs_d1)), (d2, .inr (13, fs_d2)), (qs, .inr (13, fs_qs)), (e0, .inr (13, fs_e0)), (e1, .inr (13, fs_e1)), (e2, .inr (13, fs_e2)), (e3, .inr (13, fs_e3))] ∧ w_N U)) (va_Qi (fun (r : Int32) (_ : Unit) => r = 1) (fun _ t => ∃ (fs_e : List Value), va_P (dC, dI) vwCl [(h0, .inr (15, fs_e))] t.heap ∧ va_K (dC, dI) vwCl [] t ∧ va_D (va_A [(h0, .inr (15, fs_h0)), (qfd, .inl (kf, 3, .inr (.inr (.inr (.inr ff))))), (qk, .inl (kk, 3, .inr (.inr (.inr (.inr fk))))), (qk0, .inl (ki, 4, .inr (.inr (.inr (.inr fi))))), (d0, .inr (13, fs_d0)), (d1, .inr (13, fs_d1)), (d2, .inr (13, fs_d2)), (qs, .inr (13, fs_qs)), (e0, .inr (13, fs_e0)), (e1, .inr (13, fs_e1)), (e2, .inr (13, fs_e2)), (e3, .inr (13, fs_e3))] sz) [(h0, .inr (15, fs_e))] ∧ mF 89 [(0, .int 0)] fs_e) (va_A [(h0, .inr (15, fs_h0)), (qfd, .inl (kf, 3, .inr (.inr (.inr (.inr ff))))), (qk, .inl (kk, 3, .inr (.inr (.inr (.inr fk))))), (qk0, .inl (ki, 4, .inr (.inr (.inr (.inr fi))))), (d0, .inr (13, fs_d0)), (d1, .inr (13, fs_d1)), (d2, .inr (13, fs_d2)), (qs, .inr (13, fs_qs)), (e0, .inr (13, fs_e0)), (e1, .inr (13, fs_e1)), (e2, .inr (13, fs_e2)), (e3, .inr (13, fs_e3))] sz)) 0 0 (va_A [(h0, .inr (15, fs_h0)), (qfd, .inl (kf, 3, .inr (.inr (.inr (.inr ff))))), (qk, .inl (kk, 3, .inr (.inr (.inr (.inr fk))))), (qk0, .inl (ki, 4, .inr (.inr (.inr (.inr fi))))), (d0, .inr (13, fs_d0)), (d1, .inr (13, fs_d1)), (d2, .inr (13, fs_d2)), (qs, .inr (13, fs_qs)), (e0, .inr (13, fs_e0)), (e1, .inr (13, fs_e1)), (e2, .inr (13, fs_e2)), (e3, .inr (13, fs_e3))] sz) := by
  refine Met.ofW (cc := cX15_image) (maxL := 2) (ret := (some .int)) (by decide) rfl ?_
  intro p e s m args below meth c s₁ B hml hv
  obtain ⟨rfl, hsz, hP, hK, hD0, hN⟩ := hv
  have hx := B.exec
  have hb := B.bytes
  have hr := B.returns
  have hts := atoms_spec (ws := wv_m_image) B.pre
  have hown : s.vm.findClass RX15 = some m.cls := findClass_of_methodNamed B.named
  have hlocks := B.notSynchronized
  subst hsz
  have hD := hD0.self (sz := s.heap.size)
  generalize hAe : va_A [(h0, .inr (15, fs_h0)), (qfd, .inl (kf, 3, .inr (.inr (.inr (.inr ff))))), (qk, .inl (kk, 3, .inr (.inr (.inr (.inr fk))))), (qk0, .inl (ki, 4, .inr (.inr (.inr (.inr fi))))), (d0, .inr (13, fs_d0)), (d1, .inr (13, fs_d1)), (d2, .inr (13, fs_d2)), (qs, .inr (13, fs_qs)), (e0, .inr (13, fs_e0)), (e1, .inr (13, fs_e1)), (e2, .inr (13, fs_e2)), (e3, .inr (13, fs_e3))] s.heap.size = A at hD ⊢
  have hA : ∀ q : Nat, s.heap.size ≤ q → A q := fun q h => by rw [← hAe]; exact Or.inr h
  obtain ⟨H, hHe, hP, hS⟩ : ∃ H : Heap, H = s.heap ∧ va_P (dC, dI) vwCl [(h0, .inr (15, fs_h0)), (qfd, .inl (kf, 3, .inr (.inr (.inr (.inr ff))))), (qk, .inl (kk, 3, .inr (.inr (.inr (.inr fk))))), (qk0, .inl (ki, 4, .inr (.inr (.inr (.inr fi))))), (d0, .inr (13, fs_d0)), (d1, .inr (13, fs_d1)), (d2, .inr (13, fs_d2)), (qs, .inr (13, fs_qs)), (e0, .inr (13, fs_e0)), (e1, .inr (13, fs_e1)), (e2, .inr (13, fs_e2)), (e3, .inr (13, fs_e3))] H ∧ va_S A s.heap H [] := ⟨s.heap, rfl, hP, va_S.rf⟩
  have hl := lv_entry ([.ref h0]) (n := 2) (Nat.le_of_ble_eq_true rfl)
  rw [lg_entry_eq]
  generalize (lg_sl ([.ref h0]) ++ List.replicate (2 - (lg_sl ([.ref h0])).length) Slot.unset).toArray = ls at hl ⊢
  have hl : lv_has ls 2 [(0, .ref h0)] := hl
  rw [← hHe]; clear hHe
  refine lv_aload_n hx hb dX15_image_0 rfl (lv_at hl 0 rfl) ?_
  refine lv_iconst (v := 0) hx hb dX15_image_1 (by decide) ?_
  refine va_put (D := (dC, dI)) (ci := 15) (v := .int 0) (ty := .int) (C := RX15) (T := TX15) (N := 89) hx hb hts (in_m_image_X15) tyX15 tyX15_ok nmX15 hown hK hP hD hS 0 rfl rfl 0 (by decide) (hts (.fieldLink RX15 296 "MotionSignsModel" "thrown" "I") (List.mem_of_getElem? (i := 1) rfl)) (fun _ h9 => h9) rfl (tyX15_ok 0 (by decide)) rfl rfl (mF.lt hF_h0 (by decide)) dX15_image_2 ?_
  clear hP hD hS; try clear H
  intro H locs hP hD hS
  have hF0 := mF.sub (L' := [(18, .int 0), (19, .int 0), (20, .int (-1)), (21, .int 0), (22, .int 0), (23, .int 0), (24, .int 0), (25, .int 0), (27, .int 0), (28, .int 0), (29, .int 0), (35, .int 0), (17, .int (-1)), (26, .ref qfed), (30, .ref qf), (31, .ref qfd), (33, .ref qs), (36, .ref qk)]) hF_h0 [1, 2, 3, 4, 5, 6, 7, 8, 9, 10, 11, 12, 13, 14, 15, 16, 17, 18] rfl
  have hF1 := mF.put hF0 0 (.int 0) (by decide) rfl
  replace hP : va_P (dC, dI) vwCl [(h0, .inr (15, (fs_h0.set 0 (.int 0)))), (qfd, .inl (kf, 3, .inr (.inr (.inr (.inr ff))))), (qk, .inl (kk, 3, .inr (.inr (.inr (.inr fk))))), (qk0, .inl (ki, 4, .inr (.inr (.inr (.inr fi))))), (d0, .inr (13, fs_d0)), (d1, .inr (13, fs_d1)), (d2, .inr (13, fs_d2)), (qs, .inr (13, fs_qs)), (e0, .inr (13, fs_e0)), (e1, .inr (13, fs_e1)), (e2, .inr (13, fs_e2)), (e3, .inr (13, fs_e3))] H := hP
  replace hD : va_D A [(h0, .inr (15, (fs_h0.set 0 (.int 0)))), (qfd, .inl (kf, 3, .inr (.inr (.inr (.inr ff))))), (qk, .inl (kk, 3, .inr (.inr (.inr (.inr fk))))), (qk0, .inl (ki, 4, .inr (.inr (.inr (.inr fi))))), (d0, .inr (13, fs_d0)), (d1, .inr (13, fs_d1)), (d2, .inr (13, fs_d2)), (qs, .inr (13, fs_qs)), (e0, .inr (13, fs_e0)), (e1, .inr (13, fs_e1)), (e2, .inr (13, fs_e2)), (e3, .inr (13, fs_e3))] := hD
  generalize fs_h0.set 0 (.int 0) = fs_1 at hP hD hF1
  replace hF_h0 : mF 89 [(0, .int 0), (18, .int 0), (19, .int 0), (20, .int (-1)), (21, .int 0), (22, .int 0), (23, .int 0), (24, .int 0), (25, .int 0), (27, .int 0), (28, .int 0), (29, .int 0), (35, .int 0), (17, .int (-1)), (26, .ref qfed), (30, .ref qf), (31, .ref qfd), (33, .ref qs), (36, .ref qk)] fs_1 := hF1
  clear hF1 hF0
  replace hP : va_P (dC, dI) vwCl [(h0, .inr (15, fs_1)), (qfd, .inl (kf, 3, .inr (.inr (.inr (.inr ff))))), (qk, .inl (kk, 3, .inr (.inr (.inr (.inr fk))))), (qk0, .inl (ki, 4, .inr (.inr (.inr (.inr fi))))), (d0, .inr (13, fs_d0)), (d1, .inr (13, fs_d1)), (d2, .inr (13, fs_d2)), (qs, .inr (13, fs_qs)), (e0, .inr (13, fs_e0)), (e1, .inr (13, fs_e1)), (e2, .inr (13, fs_e2)), (e3, .inr (13, fs_e3))] H := hP
  replace hD : va_D A [(h0, .inr (15, fs_1)), (qfd, .inl (kf, 3, .inr (.inr (.inr (.inr ff))))), (qk, .inl (kk, 3, .inr (.inr (.inr (.inr fk))))), (qk0, .inl (ki, 4, .inr (.inr (.inr (.inr fi))))), (d0, .inr (13, fs_d0)), (d1, .inr (13, fs_d1)), (d2, .inr (13, fs_d2)), (qs, .inr (13, fs_qs)), (e0, .inr (13, fs_e0)), (e1, .inr (13, fs_e1)), (e2, .inr (13, fs_e2)), (e3, .inr (13, fs_e3))] := hD
  refine lv_aload_n hx hb dX15_image_5 rfl (lv_at hl 0 rfl) ?_
  refine va_get (D := (dC, dI)) (ci := 15) (v := .int 0) (C := RX15) (T := TX15) (N := 89) hx hb hts (in_m_image_X15) hown hK hP 0 rfl rfl 35 (by decide) (hts (.fieldLink RX15 450 "MotionSignsModel" "images" "I") (List.mem_of_getElem? (i := 2) rfl)) (fun _ h9 => h9) (mF.get hF_h0 12 rfl) dX15_image_6 ?_
  refine lv_iconst (v := 3) hx hb dX15_image_9 (by decide) ?_
  refine lv_icmp_ne (tgt := 15) hx hb dX15_image_10 (by decide) (fun _ => ?_) (fun hc => absurd hc (by decide))
  refine lv_iconst (v := 0) hx hb dX15_image_15 (by decide) ?_
  refine lv_istore_n (lv' := [(1, .int 0), (0, .ref h0)]) hx hb dX15_image_16 rfl hl (by decide) rfl (fun ls hl => ?_)
  refine lv_iload_n hx hb dX15_image_17 rfl (lv_at hl 0 rfl) ?_
  refine lv_iconst (v := 4) hx hb dX15_image_18 (by decide) ?_
  refine lv_icmp_ge (tgt := 60) hx hb dX15_image_19 (by decide) (fun hc => absurd hc (by decide)) (fun _ => ?_)
  refine lv_iload_n hx hb dX15_image_22 rfl (lv_at hl 0 rfl) ?_
  refine lv_iconst (v := 3) hx hb dX15_image_23 (by decide) ?_
  refine lv_icmp_ge (tgt := 36) hx hb dX15_image_24 (by decide) (fun hc => absurd hc (by decide)) (fun _ => ?_)
  refine lv_aload_n hx hb dX15_image_27 rfl (lv_at hl 1 rfl) ?_
  refine va_get (D := (dC, dI)) (ci := 15) (v := .ref qfd) (C := RX15) (T := TX15) (N := 89) hx hb hts (in_m_image_X15) hown hK hP 0 rfl rfl 31 (by decide) (hts (.fieldLink RX15 134 "MotionSignsModel" "field" "[LMotionSignsModel$Poly;") (List.mem_of_getElem? (i := 3) rfl)) (fun _ h9 => h9) (mF.get hF_h0 16 rfl) dX15_image_28 ?_
  refine lv_iload_n hx hb dX15_image_31 rfl (lv_at hl 0 rfl) ?_
  refine wk_ald (y := d0) hx hb hK hP 1 0 rfl rfl (by exact fun h => by rcases h with h | h <;> revert h <;> decide) (by exact hd0) dX15_image_32 ?_
  refine lv_goto (tgt := 40) hx hb dX15_image_33 (by decide) ?_
  refine lv_aload_n hx hb dX15_image_40 rfl (lv_at hl 1 rfl) ?_
  refine va_get (D := (dC, dI)) (ci := 15) (v := .ref qk) (C := RX15) (T := TX15) (N := 89) hx hb hts (in_m_image_X15) hown hK hP 0 rfl rfl 36 (by decide) (hts (.fieldLink RX15 149 "MotionSignsModel" "kept" "[[LMotionSignsModel$Poly;") (List.mem_of_getElem? (i := 4) rfl)) (fun _ h9 => h9) (mF.get hF_h0 18 rfl) dX15_image_41 ?_
  refine lv_aload_n hx hb dX15_image_44 rfl (lv_at hl 1 rfl) ?_
  refine va_get (D := (dC, dI)) (ci := 15) (v := .int 0) (C := RX15) (T := TX15) (N := 89) hx hb hts (in_m_image_X15) hown hK hP 0 rfl rfl 35 (by decide) (hts (.fieldLink RX15 450 "MotionSignsModel" "images" "I") (List.mem_of_getElem? (i := 2) rfl)) (fun _ h9 => h9) (mF.get hF_h0 12 rfl) dX15_image_45 ?_
  refine wm_ald (y := qk0) hx hb hK hP 2 1 rfl rfl (by exact fun h => by rcases h with h | h <;> revert h <;> decide) (by exact hk0) dX15_image_48 ?_
  refine lv_iload_n hx hb dX15_image_49 rfl (lv_at hl 0 rfl) ?_
  refine wk_ald (y := e0) hx hb hK hP 3 2 rfl rfl (by exact fun h => by rcases h with h | h <;> revert h <;> decide) (by exact hi0) dX15_image_50 ?_
  have hPc := hP.sub (ws' := [(d0, .inr (13, fs_d0)), (e0, .inr (13, fs_e0))]) [4, 8] rfl
  have hDc := hD.sub (ws' := [(d0, .inr (13, fs_d0)), (e0, .inr (13, fs_e0))]) [4, 8] (by decide) rfl
  have hKc := hK.sub (tys' := []) [] rfl
  have hFc := va_free (wc := [(d0, .inr (13, fs_d0)), (e0, .inr (13, fs_e0))]) hD hS hA [4, 8] rfl
  refine va_callv (va_runS (As := [.ref d0, .ref e0]) (rest := []) ⟨hx, hb, hml, hown, hts⟩ (c_m_copies l dC dI d0 e0 fs_d0 fs_e0 (mF.sub hF_d0 [0] rfl) (mF.sub hF_e0 [0] rfl) H.size) (va_cwS 2 hts g_m_image_m_copies_446 rfl rfl rfl hd_X15_copies ⟨Nat.le_of_ble_eq_true rfl, Nat.le_of_ble_eq_true rfl⟩) ⟨fun a U g mk q => by obtain ⟨q0, q1, qP, qK, qD, qE0⟩ := q; exact ⟨q0, q1, qP, va_K.moved (u := U) (U := U.calling g mk a) (Vm.Alike.refl U.vm) qK, qD, w_N.same rfl qE0⟩, fun U hU hW => ⟨rfl, by rw [hU], by rw [hU]; exact hPc, va_K.moved hW.alike hKc, hDc.weaken (fun _ _ _ _ => trivial), w_N.warm hW hN⟩⟩ rfl rfl hl.1 rfl (lv_room (Nat.le_of_ble_eq_true rfl)) dX15_image_51 ⟨(Nat.le_of_ble_eq_true rfl), (Nat.le_of_ble_eq_true rfl)⟩) hS (fun q _ h => hFc q h) hFc (fun u t H1 locs1 ht hvm hw hB hz1 hk1 hS1 => ?_)
  obtain ⟨fs_2, hP1, hK1, hD1, hp_3⟩ := hB
  rw [ht] at hP1
  have hK1 := va_K.moved hvm.symm hK1
  have hJ := va_join (wr := [(h0, .inr (15, fs_1)), (qfd, .inl (kf, 3, .inr (.inr (.inr (.inr ff))))), (qk, .inl (kk, 3, .inr (.inr (.inr (.inr fk))))), (qk0, .inl (ki, 4, .inr (.inr (.inr (.inr fi))))), (d1, .inr (13, fs_d1)), (d2, .inr (13, fs_d2)), (qs, .inr (13, fs_qs)), (e1, .inr (13, fs_e1)), (e2, .inr (13, fs_e2)), (e3, .inr (13, fs_e3))]) (w1 := [(d0, .inr (13, fs_d0)), (e0, .inr (13, fs_2))]) hP hD [4, 8] [0, 1, 2, 3, 5, 6, 7, 9, 10, 11] rfl rfl (by decide) (by decide) hk1 hFc hP1 hD1
  clear hP hD hPc hDc hKc hFc hz1; try clear hk1
  obtain ⟨hP, hD⟩ := hJ
  replace hK := (hK.sub (tys' := [(kf, .object RX13), (kk, .array (.object RX13)), (ki, .object RX13)]) [0, 1, 2] rfl).app (hK1.sub (tys' := []) [] rfl)
  clear hP1 hK1 hD1 hvm ht hS; try clear t
  try clear H
  revert hS1
  intro hS
  generalize H1 = H at hP hS ⊢; try clear H1
  replace hP : va_P (dC, dI) vwCl [(h0, .inr (15, fs_1)), (qfd, .inl (kf, 3, .inr (.inr (.inr (.inr ff))))), (qk, .inl (kk, 3, .inr (.inr (.inr (.inr fk))))), (qk0, .inl (ki, 4, .inr (.inr (.inr (.inr fi))))), (d1, .inr (13, fs_d1)), (d2, .inr (13, fs_d2)), (qs, .inr (13, fs_qs)), (e1, .inr (13, fs_e1)), (e2, .inr (13, fs_e2)), (e3, .inr (13, fs_e3)), (d0, .inr (13, fs_d0)), (e0, .inr (13, fs_2))] H := hP
  replace hD : va_D A [(h0, .inr (15, fs_1)), (qfd, .inl (kf, 3, .inr (.inr (.inr (.inr ff))))), (qk, .inl (kk, 3, .inr (.inr (.inr (.inr fk))))), (qk0, .inl (ki, 4, .inr (.inr (.inr (.inr fi))))), (d1, .inr (13, fs_d1)), (d2, .inr (13, fs_d2)), (qs, .inr (13, fs_qs)), (e1, .inr (13, fs_e1)), (e2, .inr (13, fs_e2)), (e3, .inr (13, fs_e3)), (d0, .inr (13, fs_d0)), (e0, .inr (13, fs_2))] := hD
  replace hK : va_K (dC, dI) vwCl [(kf, .object RX13), (kk, .array (.object RX13)), (ki, .object RX13)] s := hK
  have hw_4 : True := hw; clear hw
  refine lv_iinc (v := 1) (lv' := [(1, .int 1), (0, .ref h0)]) hx hb dX15_image_54 hl (k := 0) rfl (by decide) (by decide) rfl (fun ls hl => ?_)
  refine lv_goto (tgt := 17) hx hb dX15_image_57 (by decide) ?_
  refine lv_iload_n hx hb dX15_image_17 rfl (lv_at hl 0 rfl) ?_
  refine lv_iconst (v := 4) hx hb dX15_image_18 (by decide) ?_
  refine lv_icmp_ge (tgt := 60) hx hb dX15_image_19 (by decide) (fun hc => absurd hc (by decide)) (fun _ => ?_)
  refine lv_iload_n hx hb dX15_image_22 rfl (lv_at hl 0 rfl) ?_
  refine lv_iconst (v := 3) hx hb dX15_image_23 (by decide) ?_
  refine lv_icmp_ge (tgt := 36) hx hb dX15_image_24 (by decide) (fun hc => absurd hc (by decide)) (fun _ => ?_)
  refine lv_aload_n hx hb dX15_image_27 rfl (lv_at hl 1 rfl) ?_
  refine va_get (D := (dC, dI)) (ci := 15) (v := .ref qfd) (C := RX15) (T := TX15) (N := 89) hx hb hts (in_m_image_X15) hown hK hP 0 rfl rfl 31 (by decide) (hts (.fieldLink RX15 134 "MotionSignsModel" "field" "[LMotionSignsModel$Poly;") (List.mem_of_getElem? (i := 3) rfl)) (fun _ h9 => h9) (mF.get hF_h0 16 rfl) dX15_image_28 ?_
  refine lv_iload_n hx hb dX15_image_31 rfl (lv_at hl 0 rfl) ?_
  refine wk_ald (y := d1) hx hb hK hP 1 0 rfl rfl (by exact fun h => by rcases h with h | h <;> revert h <;> decide) (by exact hd1) dX15_image_32 ?_
  refine lv_goto (tgt := 40) hx hb dX15_image_33 (by decide) ?_
  refine lv_aload_n hx hb dX15_image_40 rfl (lv_at hl 1 rfl) ?_
  refine va_get (D := (dC, dI)) (ci := 15) (v := .ref qk) (C := RX15) (T := TX15) (N := 89) hx hb hts (in_m_image_X15) hown hK hP 0 rfl rfl 36 (by decide) (hts (.fieldLink RX15 149 "MotionSignsModel" "kept" "[[LMotionSignsModel$Poly;") (List.mem_of_getElem? (i := 4) rfl)) (fun _ h9 => h9) (mF.get hF_h0 18 rfl) dX15_image_41 ?_
  refine lv_aload_n hx hb dX15_image_44 rfl (lv_at hl 1 rfl) ?_
  refine va_get (D := (dC, dI)) (ci := 15) (v := .int 0) (C := RX15) (T := TX15) (N := 89) hx hb hts (in_m_image_X15) hown hK hP 0 rfl rfl 35 (by decide) (hts (.fieldLink RX15 450 "MotionSignsModel" "images" "I") (List.mem_of_getElem? (i := 2) rfl)) (fun _ h9 => h9) (mF.get hF_h0 12 rfl) dX15_image_45 ?_
  refine wm_ald (y := qk0) hx hb hK hP 2 1 rfl rfl (by exact fun h => by rcases h with h | h <;> revert h <;> decide) (by exact hk0) dX15_image_48 ?_
  refine lv_iload_n hx hb dX15_image_49 rfl (lv_at hl 0 rfl) ?_
  refine wk_ald (y := e1) hx hb hK hP 3 2 rfl rfl (by exact fun h => by rcases h with h | h <;> revert h <;> decide) (by exact hi1) dX15_image_50 ?_
  have hPc := hP.sub (ws' := [(d1, .inr (13, fs_d1)), (e1, .inr (13, fs_e1))]) [4, 7] rfl
  have hDc := hD.sub (ws' := [(d1, .inr (13, fs_d1)), (e1, .inr (13, fs_e1))]) [4, 7] (by decide) rfl
  have hKc := hK.sub (tys' := []) [] rfl
  have hFc := va_free (wc := [(d1, .inr (13, fs_d1)), (e1, .inr (13, fs_e1))]) hD hS hA [4, 7] rfl
  refine va_callv (va_runS (As := [.ref d1, .ref e1]) (rest := []) ⟨hx, hb, hml, hown, hts⟩ (c_m_copies l dC dI d1 e1 fs_d1 fs_e1 (mF.sub hF_d1 [0] rfl) (mF.sub hF_e1 [0] rfl) H.size) (va_cwS 2 hts g_m_image_m_copies_446 rfl rfl rfl hd_X15_copies ⟨Nat.le_of_ble_eq_true rfl, Nat.le_of_ble_eq_true rfl⟩) ⟨fun a U g mk q => by obtain ⟨q0, q1, qP, qK, qD, qE0⟩ := q; exact ⟨q0, q1, qP, va_K.moved (u := U) (U := U.calling g mk a) (Vm.Alike.refl U.vm) qK, qD, w_N.same rfl qE0⟩, fun U hU hW => ⟨rfl, by rw [hU], by rw [hU]; exact hPc, va_K.moved hW.alike hKc, hDc.weaken (fun _ _ _ _ => trivial), w_N.warm hW hN⟩⟩ rfl rfl hl.1 rfl (lv_room (Nat.le_of_ble_eq_true rfl)) dX15_image_51 ⟨(Nat.le_of_ble_eq_true rfl), (Nat.le_of_ble_eq_true rfl)⟩) hS (fun q _ h => hFc q h) hFc (fun u t H1 locs1 ht hvm hw hB hz1 hk1 hS1 => ?_)
  obtain ⟨fs_5, hP1, hK1, hD1, hp_6⟩ := hB
  rw [ht] at hP1
  have hK1 := va_K.moved hvm.symm hK1
  have hJ := va_join (wr := [(h0, .inr (15, fs_1)), (qfd, .inl (kf, 3, .inr (.inr (.inr (.inr ff))))), (qk, .inl (kk, 3, .inr (.inr (.inr (.inr fk))))), (qk0, .inl (ki, 4, .inr (.inr (.inr (.inr fi))))), (d2, .inr (13, fs_d2)), (qs, .inr (13, fs_qs)), (e2, .inr (13, fs_e2)), (e3, .inr (13, fs_e3)), (d0, .inr (13, fs_d0)), (e0, .inr (13, fs_2))]) (w1 := [(d1, .inr (13, fs_d1)), (e1, .inr (13, fs_5))]) hP hD [4, 7] [0, 1, 2, 3, 5, 6, 8, 9, 10, 11] rfl rfl (by decide) (by decide) hk1 hFc hP1 hD1
  clear hP hD hPc hDc hKc hFc hz1; try clear hk1
  obtain ⟨hP, hD⟩ := hJ
  replace hK := (hK.sub (tys' := [(kf, .object RX13), (kk, .array (.object RX13)), (ki, .object RX13)]) [0, 1, 2] rfl).app (hK1.sub (tys' := []) [] rfl)
  clear hP1 hK1 hD1 hvm ht hS; try clear t
  try clear H
  revert hS1
  intro hS
  generalize H1 = H at hP hS ⊢; try clear H1
  replace hP : va_P (dC, dI) vwCl [(h0, .inr (15, fs_1)), (qfd, .inl (kf, 3, .inr (.inr (.inr (.inr ff))))), (qk, .inl (kk, 3, .inr (.inr (.inr (.inr fk))))), (qk0, .inl (ki, 4, .inr (.inr (.inr (.inr fi))))), (d2, .inr (13, fs_d2)), (qs, .inr (13, fs_qs)), (e2, .inr (13, fs_e2)), (e3, .inr (13, fs_e3)), (d0, .inr (13, fs_d0)), (e0, .inr (13, fs_2)), (d1, .inr (13, fs_d1)), (e1, .inr (13, fs_5))] H := hP
  replace hD : va_D A [(h0, .inr (15, fs_1)), (qfd, .inl (kf, 3, .inr (.inr (.inr (.inr ff))))), (qk, .inl (kk, 3, .inr (.inr (.inr (.inr fk))))), (qk0, .inl (ki, 4, .inr (.inr (.inr (.inr fi))))), (d2, .inr (13, fs_d2)), (qs, .inr (13, fs_qs)), (e2, .inr (13, fs_e2)), (e3, .inr (13, fs_e3)), (d0, .inr (13, fs_d0)), (e0, .inr (13, fs_2)), (d1, .inr (13, fs_d1)), (e1, .inr (13, fs_5))] := hD
  replace hK : va_K (dC, dI) vwCl [(kf, .object RX13), (kk, .array (.object RX13)), (ki, .object RX13)] s := hK
  have hw_7 : True := hw; clear hw
  refine lv_iinc (v := 2) (lv' := [(1, .int 2), (0, .ref h0)]) hx hb dX15_image_54 hl (k := 0) rfl (by decide) (by decide) rfl (fun ls hl => ?_)
  refine lv_goto (tgt := 17) hx hb dX15_image_57 (by decide) ?_
  refine lv_iload_n hx hb dX15_image_17 rfl (lv_at hl 0 rfl) ?_
  refine lv_iconst (v := 4) hx hb dX15_image_18 (by decide) ?_
  refine lv_icmp_ge (tgt := 60) hx hb dX15_image_19 (by decide) (fun hc => absurd hc (by decide)) (fun _ => ?_)
  refine lv_iload_n hx hb dX15_image_22 rfl (lv_at hl 0 rfl) ?_
  refine lv_iconst (v := 3) hx hb dX15_image_23 (by decide) ?_
  refine lv_icmp_ge (tgt := 36) hx hb dX15_image_24 (by decide) (fun hc => absurd hc (by decide)) (fun _ => ?_)
  refine lv_aload_n hx hb dX15_image_27 rfl (lv_at hl 1 rfl) ?_
  refine va_get (D := (dC, dI)) (ci := 15) (v := .ref qfd) (C := RX15) (T := TX15) (N := 89) hx hb hts (in_m_image_X15) hown hK hP 0 rfl rfl 31 (by decide) (hts (.fieldLink RX15 134 "MotionSignsModel" "field" "[LMotionSignsModel$Poly;") (List.mem_of_getElem? (i := 3) rfl)) (fun _ h9 => h9) (mF.get hF_h0 16 rfl) dX15_image_28 ?_
  refine lv_iload_n hx hb dX15_image_31 rfl (lv_at hl 0 rfl) ?_
  refine wk_ald (y := d2) hx hb hK hP 1 0 rfl rfl (by exact fun h => by rcases h with h | h <;> revert h <;> decide) (by exact hd2) dX15_image_32 ?_
  refine lv_goto (tgt := 40) hx hb dX15_image_33 (by decide) ?_
  refine lv_aload_n hx hb dX15_image_40 rfl (lv_at hl 1 rfl) ?_
  refine va_get (D := (dC, dI)) (ci := 15) (v := .ref qk) (C := RX15) (T := TX15) (N := 89) hx hb hts (in_m_image_X15) hown hK hP 0 rfl rfl 36 (by decide) (hts (.fieldLink RX15 149 "MotionSignsModel" "kept" "[[LMotionSignsModel$Poly;") (List.mem_of_getElem? (i := 4) rfl)) (fun _ h9 => h9) (mF.get hF_h0 18 rfl) dX15_image_41 ?_
  refine lv_aload_n hx hb dX15_image_44 rfl (lv_at hl 1 rfl) ?_
  refine va_get (D := (dC, dI)) (ci := 15) (v := .int 0) (C := RX15) (T := TX15) (N := 89) hx hb hts (in_m_image_X15) hown hK hP 0 rfl rfl 35 (by decide) (hts (.fieldLink RX15 450 "MotionSignsModel" "images" "I") (List.mem_of_getElem? (i := 2) rfl)) (fun _ h9 => h9) (mF.get hF_h0 12 rfl) dX15_image_45 ?_
  refine wm_ald (y := qk0) hx hb hK hP 2 1 rfl rfl (by exact fun h => by rcases h with h | h <;> revert h <;> decide) (by exact hk0) dX15_image_48 ?_
  refine lv_iload_n hx hb dX15_image_49 rfl (lv_at hl 0 rfl) ?_
  refine wk_ald (y := e2) hx hb hK hP 3 2 rfl rfl (by exact fun h => by rcases h with h | h <;> revert h <;> decide) (by exact hi2) dX15_image_50 ?_
  have hPc := hP.sub (ws' := [(d2, .inr (13, fs_d2)), (e2, .inr (13, fs_e2))]) [4, 6] rfl
  have hDc := hD.sub (ws' := [(d2, .inr (13, fs_d2)), (e2, .inr (13, fs_e2))]) [4, 6] (by decide) rfl
  have hKc := hK.sub (tys' := []) [] rfl
  have hFc := va_free (wc := [(d2, .inr (13, fs_d2)), (e2, .inr (13, fs_e2))]) hD hS hA [4, 6] rfl
  refine va_callv (va_runS (As := [.ref d2, .ref e2]) (rest := []) ⟨hx, hb, hml, hown, hts⟩ (c_m_copies l dC dI d2 e2 fs_d2 fs_e2 (mF.sub hF_d2 [0] rfl) (mF.sub hF_e2 [0] rfl) H.size) (va_cwS 2 hts g_m_image_m_copies_446 rfl rfl rfl hd_X15_copies ⟨Nat.le_of_ble_eq_true rfl, Nat.le_of_ble_eq_true rfl⟩) ⟨fun a U g mk q => by obtain ⟨q0, q1, qP, qK, qD, qE0⟩ := q; exact ⟨q0, q1, qP, va_K.moved (u := U) (U := U.calling g mk a) (Vm.Alike.refl U.vm) qK, qD, w_N.same rfl qE0⟩, fun U hU hW => ⟨rfl, by rw [hU], by rw [hU]; exact hPc, va_K.moved hW.alike hKc, hDc.weaken (fun _ _ _ _ => trivial), w_N.warm hW hN⟩⟩ rfl rfl hl.1 rfl (lv_room (Nat.le_of_ble_eq_true rfl)) dX15_image_51 ⟨(Nat.le_of_ble_eq_true rfl), (Nat.le_of_ble_eq_true rfl)⟩) hS (fun q _ h => hFc q h) hFc (fun u t H1 locs1 ht hvm hw hB hz1 hk1 hS1 => ?_)
  obtain ⟨fs_8, hP1, hK1, hD1, hp_9⟩ := hB
  rw [ht] at hP1
  have hK1 := va_K.moved hvm.symm hK1
  have hJ := va_join (wr := [(h0, .inr (15, fs_1)), (qfd, .inl (kf, 3, .inr (.inr (.inr (.inr ff))))), (qk, .inl (kk, 3, .inr (.inr (.inr (.inr fk))))), (qk0, .inl (ki, 4, .inr (.inr (.inr (.inr fi))))), (qs, .inr (13, fs_qs)), (e3, .inr (13, fs_e3)), (d0, .inr (13, fs_d0)), (e0, .inr (13, fs_2)), (d1, .inr (13, fs_d1)), (e1, .inr (13, fs_5))]) (w1 := [(d2, .inr (13, fs_d2)), (e2, .inr (13, fs_8))]) hP hD [4, 6] [0, 1, 2, 3, 5, 7, 8, 9, 10, 11] rfl rfl (by decide) (by decide) hk1 hFc hP1 hD1
  clear hP hD hPc hDc hKc hFc hz1; try clear hk1
  obtain ⟨hP, hD⟩ := hJ
  replace hK := (hK.sub (tys' := [(kf, .object RX13), (kk, .array (.object RX13)), (ki, .object RX13)]) [0, 1, 2] rfl).app (hK1.sub (tys' := []) [] rfl)
  clear hP1 hK1 hD1 hvm ht hS; try clear t
  try clear H
  revert hS1
  intro hS
  generalize H1 = H at hP hS ⊢; try clear H1
  replace hP : va_P (dC, dI) vwCl [(h0, .inr (15, fs_1)), (qfd, .inl (kf, 3, .inr (.inr (.inr (.inr ff))))), (qk, .inl (kk, 3, .inr (.inr (.inr (.inr fk))))), (qk0, .inl (ki, 4, .inr (.inr (.inr (.inr fi))))), (qs, .inr (13, fs_qs)), (e3, .inr (13, fs_e3)), (d0, .inr (13, fs_d0)), (e0, .inr (13, fs_2)), (d1, .inr (13, fs_d1)), (e1, .inr (13, fs_5)), (d2, .inr (13, fs_d2)), (e2, .inr (13, fs_8))] H := hP
  replace hD : va_D A [(h0, .inr (15, fs_1)), (qfd, .inl (kf, 3, .inr (.inr (.inr (.inr ff))))), (qk, .inl (kk, 3, .inr (.inr (.inr (.inr fk))))), (qk0, .inl (ki, 4, .inr (.inr (.inr (.inr fi))))), (qs, .inr (13, fs_qs)), (e3, .inr (13, fs_e3)), (d0, .inr (13, fs_d0)), (e0, .inr (13, fs_2)), (d1, .inr (13, fs_d1)), (e1, .inr (13, fs_5)), (d2, .inr (13, fs_d2)), (e2, .inr (13, fs_8))] := hD
  replace hK : va_K (dC, dI) vwCl [(kf, .object RX13), (kk, .array (.object RX13)), (ki, .object RX13)] s := hK
  have hw_10 : True := hw; clear hw
  refine lv_iinc (v := 3) (lv' := [(1, .int 3), (0, .ref h0)]) hx hb dX15_image_54 hl (k := 0) rfl (by decide) (by decide) rfl (fun ls hl => ?_)
  refine lv_goto (tgt := 17) hx hb dX15_image_57 (by decide) ?_
  refine lv_iload_n hx hb dX15_image_17 rfl (lv_at hl 0 rfl) ?_
  refine lv_iconst (v := 4) hx hb dX15_image_18 (by decide) ?_
  refine lv_icmp_ge (tgt := 60) hx hb dX15_image_19 (by decide) (fun hc => absurd hc (by decide)) (fun _ => ?_)
  refine lv_iload_n hx hb dX15_image_22 rfl (lv_at hl 0 rfl) ?_
  refine lv_iconst (v := 3) hx hb dX15_image_23 (by decide) ?_
  refine lv_icmp_ge (tgt := 36) hx hb dX15_image_24 (by decide) (fun _ => ?_) (fun hc => absurd (by decide) hc)
  refine lv_aload_n hx hb dX15_image_36 rfl (lv_at hl 1 rfl) ?_
  refine va_get (D := (dC, dI)) (ci := 15) (v := .ref qs) (C := RX15) (T := TX15) (N := 89) hx hb hts (in_m_image_X15) hown hK hP 0 rfl rfl 33 (by decide) (hts (.fieldLink RX15 141 "MotionSignsModel" "solution" "LMotionSignsModel$Poly;") (List.mem_of_getElem? (i := 8) rfl)) (fun _ h9 => h9) (mF.get hF_h0 17 rfl) dX15_image_37 ?_
  refine lv_aload_n hx hb dX15_image_40 rfl (lv_at hl 1 rfl) ?_
  refine va_get (D := (dC, dI)) (ci := 15) (v := .ref qk) (C := RX15) (T := TX15) (N := 89) hx hb hts (in_m_image_X15) hown hK hP 0 rfl rfl 36 (by decide) (hts (.fieldLink RX15 149 "MotionSignsModel" "kept" "[[LMotionSignsModel$Poly;") (List.mem_of_getElem? (i := 4) rfl)) (fun _ h9 => h9) (mF.get hF_h0 18 rfl) dX15_image_41 ?_
  refine lv_aload_n hx hb dX15_image_44 rfl (lv_at hl 1 rfl) ?_
  refine va_get (D := (dC, dI)) (ci := 15) (v := .int 0) (C := RX15) (T := TX15) (N := 89) hx hb hts (in_m_image_X15) hown hK hP 0 rfl rfl 35 (by decide) (hts (.fieldLink RX15 450 "MotionSignsModel" "images" "I") (List.mem_of_getElem? (i := 2) rfl)) (fun _ h9 => h9) (mF.get hF_h0 12 rfl) dX15_image_45 ?_
  refine wm_ald (y := qk0) hx hb hK hP 2 1 rfl rfl (by exact fun h => by rcases h with h | h <;> revert h <;> decide) (by exact hk0) dX15_image_48 ?_
  refine lv_iload_n hx hb dX15_image_49 rfl (lv_at hl 0 rfl) ?_
  refine wk_ald (y := e3) hx hb hK hP 3 2 rfl rfl (by exact fun h => by rcases h with h | h <;> revert h <;> decide) (by exact hi3) dX15_image_50 ?_
  have hPc := hP.sub (ws' := [(qs, .inr (13, fs_qs)), (e3, .inr (13, fs_e3))]) [4, 5] rfl
  have hDc := hD.sub (ws' := [(qs, .inr (13, fs_qs)), (e3, .inr (13, fs_e3))]) [4, 5] (by decide) rfl
  have hKc := hK.sub (tys' := []) [] rfl
  have hFc := va_free (wc := [(qs, .inr (13, fs_qs)), (e3, .inr (13, fs_e3))]) hD hS hA [4, 5] rfl
  refine va_callv (va_runS (As := [.ref qs, .ref e3]) (rest := []) ⟨hx, hb, hml, hown, hts⟩ (c_m_copies l dC dI qs e3 fs_qs fs_e3 (mF.sub hF_qs [0] rfl) (mF.sub hF_e3 [0] rfl) H.size) (va_cwS 2 hts g_m_image_m_copies_446 rfl rfl rfl hd_X15_copies ⟨Nat.le_of_ble_eq_true rfl, Nat.le_of_ble_eq_true rfl⟩) ⟨fun a U g mk q => by obtain ⟨q0, q1, qP, qK, qD, qE0⟩ := q; exact ⟨q0, q1, qP, va_K.moved (u := U) (U := U.calling g mk a) (Vm.Alike.refl U.vm) qK, qD, w_N.same rfl qE0⟩, fun U hU hW => ⟨rfl, by rw [hU], by rw [hU]; exact hPc, va_K.moved hW.alike hKc, hDc.weaken (fun _ _ _ _ => trivial), w_N.warm hW hN⟩⟩ rfl rfl hl.1 rfl (lv_room (Nat.le_of_ble_eq_true rfl)) dX15_image_51 ⟨(Nat.le_of_ble_eq_true rfl), (Nat.le_of_ble_eq_true rfl)⟩) hS (fun q _ h => hFc q h) hFc (fun u t H1 locs1 ht hvm hw hB hz1 hk1 hS1 => ?_)
  obtain ⟨fs_11, hP1, hK1, hD1, hp_12⟩ := hB
  rw [ht] at hP1
  have hK1 := va_K.moved hvm.symm hK1
  have hJ := va_join (wr := [(h0, .inr (15, fs_1)), (qfd, .inl (kf, 3, .inr (.inr (.inr (.inr ff))))), (qk, .inl (kk, 3, .inr (.inr (.inr (.inr fk))))), (qk0, .inl (ki, 4, .inr (.inr (.inr (.inr fi))))), (d0, .inr (13, fs_d0)), (e0, .inr (13, fs_2)), (d1, .inr (13, fs_d1)), (e1, .inr (13, fs_5)), (d2, .inr (13, fs_d2)), (e2, .inr (13, fs_8))]) (w1 := [(qs, .inr (13, fs_qs)), (e3, .inr (13, fs_11))]) hP hD [4, 5] [0, 1, 2, 3, 6, 7, 8, 9, 10, 11] rfl rfl (by decide) (by decide) hk1 hFc hP1 hD1
  clear hP hD hPc hDc hKc hFc hz1; try clear hk1
  obtain ⟨hP, hD⟩ := hJ
  replace hK := (hK.sub (tys' := [(kf, .object RX13), (kk, .array (.object RX13)), (ki, .object RX13)]) [0, 1, 2] rfl).app (hK1.sub (tys' := []) [] rfl)
  clear hP1 hK1 hD1 hvm ht hS; try clear t
  try clear H
  revert hS1
  intro hS
  generalize H1 = H at hP hS ⊢; try clear H1
  replace hP : va_P (dC, dI) vwCl [(h0, .inr (15, fs_1)), (qfd, .inl (kf, 3, .inr (.inr (.inr (.inr ff))))), (qk, .inl (kk, 3, .inr (.inr (.inr (.inr fk))))), (qk0, .inl (ki, 4, .inr (.inr (.inr (.inr fi))))), (d0, .inr (13, fs_d0)), (e0, .inr (13, fs_2)), (d1, .inr (13, fs_d1)), (e1, .inr (13, fs_5)), (d2, .inr (13, fs_d2)), (e2, .inr (13, fs_8)), (qs, .inr (13, fs_qs)), (e3, .inr (13, fs_11))] H := hP
  replace hD : va_D A [(h0, .inr (15, fs_1)), (qfd, .inl (kf, 3, .inr (.inr (.inr (.inr ff))))), (qk, .inl (kk, 3, .inr (.inr (.inr (.inr fk))))), (qk0, .inl (ki, 4, .inr (.inr (.inr (.inr fi))))), (d0, .inr (13, fs_d0)), (e0, .inr (13, fs_2)), (d1, .inr (13, fs_d1)), (e1, .inr (13, fs_5)), (d2, .inr (13, fs_d2)), (e2, .inr (13, fs_8)), (qs, .inr (13, fs_qs)), (e3, .inr (13, fs_11))] := hD
  replace hK : va_K (dC, dI) vwCl [(kf, .object RX13), (kk, .array (.object RX13)), (ki, .object RX13)] s := hK
  have hw_13 : True := hw; clear hw
  refine lv_iinc (v := 4) (lv' := [(1, .int 4), (0, .ref h0)]) hx hb dX15_image_54 hl (k := 0) rfl (by decide) (by decide) rfl (fun ls hl => ?_)
  refine lv_goto (tgt := 17) hx hb dX15_image_57 (by decide) ?_
  refine lv_iload_n hx hb dX15_image_17 rfl (lv_at hl 0 rfl) ?_
  refine lv_iconst (v := 4) hx hb dX15_image_18 (by decide) ?_
  refine lv_icmp_ge (tgt := 60) hx hb dX15_image_19 (by decide) (fun _ => ?_) (fun hc => absurd (by decide) hc)
  refine lv_aload_n hx hb dX15_image_60 rfl (lv_at hl 1 rfl) ?_
  refine lv_dup hx hb dX15_image_61 rfl ?_
  refine va_get (D := (dC, dI)) (ci := 15) (v := .int 0) (C := RX15) (T := TX15) (N := 89) hx hb hts (in_m_image_X15) hown hK hP 0 rfl rfl 35 (by decide) (hts (.fieldLink RX15 450 "MotionSignsModel" "images" "I") (List.mem_of_getElem? (i := 2) rfl)) (fun _ h9 => h9) (mF.get hF_h0 12 rfl) dX15_image_62 ?_
  refine lv_iconst (v := 1) hx hb dX15_image_65 (by decide) ?_
  refine lv_iadd hx hb dX15_image_66 ?_
  refine lv_topi (fun v_14 ev_14 => ?_)
  have ev_14 : v_14 = 1 := ev_14.trans (by decide)
  subst ev_14
  refine va_put (D := (dC, dI)) (ci := 15) (v := .int 1) (ty := .int) (C := RX15) (T := TX15) (N := 89) hx hb hts (in_m_image_X15) tyX15 tyX15_ok nmX15 hown hK hP hD hS 0 rfl rfl 35 (by decide) (hts (.fieldLink RX15 450 "MotionSignsModel" "images" "I") (List.mem_of_getElem? (i := 2) rfl)) (fun _ h9 => h9) rfl (tyX15_ok 35 (by decide)) rfl rfl (mF.lt hF_h0 (by decide)) dX15_image_67 ?_
  clear hP hD hS; try clear H
  intro H locs hP hD hS
  have hF0 := mF.sub (L' := [(0, .int 0), (18, .int 0), (19, .int 0), (20, .int (-1)), (21, .int 0), (22, .int 0), (23, .int 0), (24, .int 0), (25, .int 0), (27, .int 0), (28, .int 0), (29, .int 0), (17, .int (-1)), (26, .ref qfed), (30, .ref qf), (31, .ref qfd), (33, .ref qs), (36, .ref qk)]) hF_h0 [0, 1, 2, 3, 4, 5, 6, 7, 8, 9, 10, 11, 13, 14, 15, 16, 17, 18] rfl
  have hF1 := mF.put hF0 35 (.int 1) (by decide) rfl
  replace hP : va_P (dC, dI) vwCl [(h0, .inr (15, (fs_1.set 35 (.int 1)))), (qfd, .inl (kf, 3, .inr (.inr (.inr (.inr ff))))), (qk, .inl (kk, 3, .inr (.inr (.inr (.inr fk))))), (qk0, .inl (ki, 4, .inr (.inr (.inr (.inr fi))))), (d0, .inr (13, fs_d0)), (e0, .inr (13, fs_2)), (d1, .inr (13, fs_d1)), (e1, .inr (13, fs_5)), (d2, .inr (13, fs_d2)), (e2, .inr (13, fs_8)), (qs, .inr (13, fs_qs)), (e3, .inr (13, fs_11))] H := hP
  replace hD : va_D A [(h0, .inr (15, (fs_1.set 35 (.int 1)))), (qfd, .inl (kf, 3, .inr (.inr (.inr (.inr ff))))), (qk, .inl (kk, 3, .inr (.inr (.inr (.inr fk))))), (qk0, .inl (ki, 4, .inr (.inr (.inr (.inr fi))))), (d0, .inr (13, fs_d0)), (e0, .inr (13, fs_2)), (d1, .inr (13, fs_d1)), (e1, .inr (13, fs_5)), (d2, .inr (13, fs_d2)), (e2, .inr (13, fs_8)), (qs, .inr (13, fs_qs)), (e3, .inr (13, fs_11))] := hD
  generalize fs_1.set 35 (.int 1) = fs_15 at hP hD hF1
  replace hF_h0 : mF 89 [(35, .int 1), (0, .int 0), (18, .int 0), (19, .int 0), (20, .int (-1)), (21, .int 0), (22, .int 0), (23, .int 0), (24, .int 0), (25, .int 0), (27, .int 0), (28, .int 0), (29, .int 0), (17, .int (-1)), (26, .ref qfed), (30, .ref qf), (31, .ref qfd), (33, .ref qs), (36, .ref qk)] fs_15 := hF1
  clear hF1 hF0
  replace hP : va_P (dC, dI) vwCl [(h0, .inr (15, fs_15)), (qfd, .inl (kf, 3, .inr (.inr (.inr (.inr ff))))), (qk, .inl (kk, 3, .inr (.inr (.inr (.inr fk))))), (qk0, .inl (ki, 4, .inr (.inr (.inr (.inr fi))))), (d0, .inr (13, fs_d0)), (e0, .inr (13, fs_2)), (d1, .inr (13, fs_d1)), (e1, .inr (13, fs_5)), (d2, .inr (13, fs_d2)), (e2, .inr (13, fs_8)), (qs, .inr (13, fs_qs)), (e3, .inr (13, fs_11))] H := hP
  replace hD : va_D A [(h0, .inr (15, fs_15)), (qfd, .inl (kf, 3, .inr (.inr (.inr (.inr ff))))), (qk, .inl (kk, 3, .inr (.inr (.inr (.inr fk))))), (qk0, .inl (ki, 4, .inr (.inr (.inr (.inr fi))))), (d0, .inr (13, fs_d0)), (e0, .inr (13, fs_2)), (d1, .inr (13, fs_d1)), (e1, .inr (13, fs_5)), (d2, .inr (13, fs_d2)), (e2, .inr (13, fs_8)), (qs, .inr (13, fs_qs)), (e3, .inr (13, fs_11))] := hD
  refine lv_aload_n hx hb dX15_image_70 rfl (lv_at hl 1 rfl) ?_
  refine va_get (D := (dC, dI)) (ci := 15) (v := .int 1) (C := RX15) (T := TX15) (N := 89) hx hb hts (in_m_image_X15) hown hK hP 0 rfl rfl 35 (by decide) (hts (.fieldLink RX15 450 "MotionSignsModel" "images" "I") (List.mem_of_getElem? (i := 2) rfl)) (fun _ h9 => h9) (mF.get hF_h0 0 rfl) dX15_image_71 ?_
  have hP9 := hP.sub (ws' := [(h0, .inr (15, fs_15))]) [0] rfl
  have hD9 := hD.sub (ws' := [(h0, .inr (15, fs_15))]) [0] (by decide) rfl
  have hK9 := hK.sub (tys' := []) [] rfl
  rw [← hAe] at hD9
  refine W.widen (k := 0) (n := 0) (Nat.le_of_ble_eq_true rfl) (Nat.le_of_ble_eq_true rfl) ?_
  subst hAe
  exact (W.iret (v := 1) hx hb hr (fun t ht hW => ⟨⟨1, (), rfl, rfl, fs_15, by rw [ht]; exact hP9, va_K.moved hW.alike hK9, hD9, (mF.sub hF_h0 [1] rfl)⟩, hS.F ht⟩) hS.2.2 dX15_image_74)
