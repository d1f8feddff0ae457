set_option maxHeartbeats 4000000 in
set_option maxRecDepth 100000 in
/-- the law at a call of left on fresh objects -/
theorem law_case_left {p : Program} {l : Launch} (hlt : l.stackTraces = false) {e : Env} {s : State} {m : MethodId} {below : List Frame} {meth : Method} {c : Code} {b : Nat} {xs : Nat → Int32} (C0 : lw_At p s m meth c b 6 xs) {dC : Nat → ClassId} {dI : Nat → Nat → Nat} {A : Nat → Prop} (hA : ∀ q : Nat, s.heap.size ≤ q → A q) (hA2 : ∀ q : Nat, A q → s.heap.size ≤ q) (hbA : ¬ A b) (hN : w_N s) (hT : w_T A s s.heap) (hSt : w_S A s s.heap) (hC : w_C A s s.heap) {H : Heap} {locs : List Loc} {ls : Array Slot} {c0 : Nat} {n0 : Nat} {qC : Nat} {qo : Nat} {fs_qC : List Value} {ko : Nat} {fo : Nat → Int64} {qfed : Nat} {qf : Nat} {qfd : Nat} {qs : Nat} {qk : Nat} {fs_c0 : List Value} {fs_n0 : List Value} (hP : va_P (dC, dI) vwCl [(c0, .inr (11, fs_c0)), (qC, .inr (2, fs_qC)), (qo, .inl (ko, 1, .inr (.inl fo))), (n0, .inr (15, fs_n0))] H) (hD : va_D A [(c0, .inr (11, fs_c0)), (qC, .inr (2, fs_qC)), (qo, .inl (ko, 1, .inr (.inl fo))), (n0, .inr (15, fs_n0))]) (hK : va_K (dC, dI) vwCl [(ko, .long)] s) (hS : va_S A s.heap H locs) (hl : lv_has ls 8 [(4, .int 0), (3, .ref qo), (2, .ref n0), (1, .ref c0), (0, .ref b)]) (hF_c0 : mF 19 [(7, .ref qC)] fs_c0) (hF_qC : mF 13 [(8, .int 0)] fs_qC) (hF_n0 : mF 89 [(0, .int 0), (18, .int 0), (19, .int 0), (20, .int (-1)), (21, .int 0), (22, .int 0), (23, .int 0), (24, .int 0), (25, .int 0), (27, .int 0), (28, .int 0), (29, .int 0), (35, .int 0), (17, .int (-1)), (26, .ref qfed), (30, .ref qf), (31, .ref qfd), (33, .ref qs), (36, .ref qk)] fs_n0) : W p l e room_1 s m #[Value.ref b] below meth c H locs 15894 3343160 (lw_Z below #[Value.ref b] s) (F0 m 1640 ls []) := by
  have hx := C0.1; have hb := C0.2.1; have hml := C0.2.2.2.1; have hown := C0.2.2.2.2.1; have hts := C0.2.2.2.2.2.1; have hX := C0.2.2.2.2.2.2.1; have hbl := C0.2.2.2.2.2.2.2.1; have hlocks := C0.2.2.2.2.2.2.2.2.1
  refine lv_aload_n hx hb dL_law_1640 rfl (lv_at hl 3 rfl) ?_
  refine lv_aload_n hx hb dL_law_1641 rfl (lv_at hl 4 rfl) ?_
  refine lv_iload hx hb dL_law_1642 (lv_at hl 0 rfl) ?_
  refine lv_iconst (v := 1) hx hb dL_law_1644 (by decide) ?_
  refine lv_iadd hx hb dL_law_1645 ?_
  refine lv_topi (fun v_1 ev_1 => ?_)
  have ev_1 : v_1 = 1 := ev_1.trans (by decide)
  subst ev_1
  refine va_sld hx hb hX hbl hbA hS (by exact fun h => by rcases h with h | h <;> revert h <;> decide) dL_law_1646 ?_
  refine lv_topi (fun v_2 ev_2 => ?_)
  have ev_2 : v_2 = xs 1 := ev_2
  subst ev_2
  refine lv_aload_n hx hb dL_law_1647 rfl (lv_at hl 4 rfl) ?_
  refine lv_iload hx hb dL_law_1648 (lv_at hl 0 rfl) ?_
  refine lv_iconst (v := 2) hx hb dL_law_1650 (by decide) ?_
  refine lv_iadd hx hb dL_law_1651 ?_
  refine lv_topi (fun v_3 ev_3 => ?_)
  have ev_3 : v_3 = 2 := ev_3.trans (by decide)
  subst ev_3
  refine va_sld hx hb hX hbl hbA hS (by exact fun h => by rcases h with h | h <;> revert h <;> decide) dL_law_1652 ?_
  refine lv_topi (fun v_4 ev_4 => ?_)
  have ev_4 : v_4 = xs 2 := ev_4
  subst ev_4
  refine lv_aload_n hx hb dL_law_1653 rfl (lv_at hl 1 rfl) ?_
  have hPc := hP.sub (ws' := [(c0, .inr (11, fs_c0)), (qC, .inr (2, fs_qC))]) [0, 1] rfl
  have hDc := hD.sub (ws' := [(c0, .inr (11, fs_c0)), (qC, .inr (2, fs_qC))]) [0, 1] (by decide) rfl
  have hKc := hK.sub (tys' := []) [] rfl
  have hFc := va_free (wc := [(c0, .inr (11, fs_c0)), (qC, .inr (2, fs_qC))]) hD hS hA [0, 1] rfl
  refine vx_calli (vx_runSX (As := [.ref c0, .int (xs 1), .int (xs 2), .ref qo]) (rest := []) ⟨hx, hb, hml, hown, hts⟩ (c_l_left l hlt dC dI c0 qC qo ((xs 1)) ((xs 2)) fs_c0 fs_qC (mF.sub hF_c0 [0] rfl) (mF.sub hF_qC [0] rfl) H.size) (vx_cwSW 4 hts g_law_wv_l_left_189 rfl rfl rfl hd_L_left ⟨Nat.le_of_ble_eq_true rfl, Nat.le_of_ble_eq_true rfl⟩) ⟨fun a U g mk q => by obtain ⟨q0, q1, qP, qK, qD, qE0, qE1, qE2⟩ := q; exact ⟨q0, q1, qP, va_K.moved (u := U) (U := U.calling g mk a) (Vm.Alike.refl U.vm) qK, qD, w_N.same rfl qE0, w_T.same rfl rfl qE1, w_C.same rfl rfl qE2⟩, fun U hU hW => ⟨rfl, by rw [hU], by rw [hU]; exact hPc, va_K.moved hW.alike hKc, hDc.weaken (fun _ _ _ _ => trivial), w_N.warm hW hN, w_T.go hT hW hS.2.1 hFc hU, w_C.go hC hW hS.2.1 hFc hU⟩⟩ rfl rfl hl.1 rfl (lv_room (Nat.le_of_ble_eq_true rfl)) dL_law_1654 ⟨(Nat.le_of_ble_eq_true rfl), (Nat.le_of_ble_eq_true rfl)⟩) hS (fun q _ h => hFc q h) hFc (fun q _ h => hFc q h) (fun E9 ce9 q9 u t H1 locs1 ht hvm hpx hBX hz1 hk1 hS1 hcell9 hv9 hcl9 => ?_) (fun r_5 u t H1 locs1 ht hvm hw hB hz1 hk1 hS1 => ?_)
  · skip
    exact (hpx : False).elim
  · skip
    obtain ⟨hP1, hK1, hD1⟩ := hB
    rw [ht] at hP1
    have hK1 := va_K.moved hvm.symm hK1
    have hJ := va_join (wr := [(qo, .inl (ko, 1, .inr (.inl fo))), (n0, .inr (15, fs_n0))]) (w1 := []) hP hD [0, 1] [2, 3] rfl rfl (by decide) (by decide) hk1 hFc hP1 hD1
    clear hP hD hPc hDc hKc hFc hz1; try clear hk1
    obtain ⟨hP, hD⟩ := hJ
    replace hK := (hK.sub (tys' := [(ko, .long)]) [0] rfl).app (hK1.sub (tys' := []) [] rfl)
    clear hP1 hK1 hD1 hvm ht hS; try clear t
    try clear H
    revert hS1
    intro hS
    generalize H1 = H at hP hS ⊢; try clear H1
    replace hP : va_P (dC, dI) vwCl [(qo, .inl (ko, 1, .inr (.inl fo))), (n0, .inr (15, fs_n0))] H := hP
    replace hD : va_D A [(qo, .inl (ko, 1, .inr (.inl fo))), (n0, .inr (15, fs_n0))] := hD
    replace hK : va_K (dC, dI) vwCl [(ko, .long)] s := hK
    have hw_6 : r_5 = 2 := hw; clear hw
    subst hw_6
    refine lv_istore (lv' := [(5, .int 2), (4, .int 0), (3, .ref qo), (2, .ref n0), (1, .ref c0), (0, .ref b)]) hx hb dL_law_1657 hl (by decide) rfl (fun ls hl => ?_)
    refine lv_aload_n hx hb dL_law_1659 rfl (lv_at hl 3 rfl) ?_
    refine lv_aload_n hx hb dL_law_1660 rfl (lv_at hl 5 rfl) ?_
    refine lv_iload hx hb dL_law_1661 (lv_at hl 1 rfl) ?_
    refine lv_iconst (v := 1) hx hb dL_law_1663 (by decide) ?_
    refine lv_iadd hx hb dL_law_1664 ?_
    refine lv_topi (fun v_7 ev_7 => ?_)
    have ev_7 : v_7 = 1 := ev_7.trans (by decide)
    subst ev_7
    refine va_sld hx hb hX hbl hbA hS (by exact fun h => by rcases h with h | h <;> revert h <;> decide) dL_law_1665 ?_
    refine lv_topi (fun v_8 ev_8 => ?_)
    have ev_8 : v_8 = xs 1 := ev_8
    subst ev_8
    refine lv_aload_n hx hb dL_law_1666 rfl (lv_at hl 5 rfl) ?_
    refine lv_iload hx hb dL_law_1667 (lv_at hl 1 rfl) ?_
    refine lv_iconst (v := 2) hx hb dL_law_1669 (by decide) ?_
    refine lv_iadd hx hb dL_law_1670 ?_
    refine lv_topi (fun v_9 ev_9 => ?_)
    have ev_9 : v_9 = 2 := ev_9.trans (by decide)
    subst ev_9
    refine va_sld hx hb hX hbl hbA hS (by exact fun h => by rcases h with h | h <;> revert h <;> decide) dL_law_1671 ?_
    refine lv_topi (fun v_10 ev_10 => ?_)
    have ev_10 : v_10 = xs 2 := ev_10
    subst ev_10
    have hPc := hP.sub (ws' := [(n0, .inr (15, fs_n0))]) [1] rfl
    have hDc := hD.sub (ws' := [(n0, .inr (15, fs_n0))]) [1] (by decide) rfl
    have hKc := hK.sub (tys' := []) [] rfl
    have hFc := va_free (wc := [(n0, .inr (15, fs_n0))]) hD hS hA [1] rfl
    refine va_calll (va_runV (As := [.int (xs 1), .int (xs 2)]) (rest := []) ⟨hx, hb, hml, hown, hts⟩ (c_m_left l dC dI n0 qfed qf qfd qs qk ((xs 1)) ((xs 2)) fs_n0 (mF.sub hF_n0 [0, 1, 2, 3, 4, 5, 6, 7, 8, 9, 10, 11, 12, 13, 14, 15, 16, 17, 18] rfl) H.size) (cwV 2 hts g_law_wv_m_left_191 rfl rfl rfl hv_X15_left ⟨Nat.le_of_ble_eq_true rfl, Nat.le_of_ble_eq_true rfl⟩) ⟨fun a U g mk q => by obtain ⟨q0, q1, qP, qK, qD, qE0⟩ := q; exact ⟨q0, q1, qP, va_K.moved (u := U) (U := U.calling g mk a) (Vm.Alike.refl U.vm) qK, qD, w_N.same rfl qE0⟩, va_recv hKc hPc (ci := 15) (q0 := 0) rfl rfl, fun U hU hW => ⟨rfl, by rw [hU], by rw [hU]; exact hPc, va_K.moved hW.alike hKc, hDc.weaken (fun _ _ _ _ => trivial), w_N.warm hW hN⟩⟩ rfl rfl hl.1 rfl (lv_room (Nat.le_of_ble_eq_true rfl)) dL_law_1672 ⟨(Nat.le_of_ble_eq_true rfl), (Nat.le_of_ble_eq_true rfl)⟩) hS (fun q _ h => hFc q h) hFc (fun r_11 u t H1 locs1 ht hvm hw hB hz1 hk1 hS1 => ?_)
    obtain ⟨fs_12, hP1, hK1, hD1, hp_13⟩ := hB
    rw [ht] at hP1
    have hK1 := va_K.moved hvm.symm hK1
    have hJ := va_join (wr := [(qo, .inl (ko, 1, .inr (.inl fo)))]) (w1 := [(n0, .inr (15, fs_12))]) hP hD [1] [0] rfl rfl (by decide) (by decide) hk1 hFc hP1 hD1
    clear hP hD hPc hDc hKc hFc hz1; try clear hk1
    obtain ⟨hP, hD⟩ := hJ
    replace hK := (hK.sub (tys' := [(ko, .long)]) [0] rfl).app (hK1.sub (tys' := []) [] rfl)
    clear hP1 hK1 hD1 hvm ht hS; try clear t
    try clear H
    revert hS1
    intro hS
    generalize H1 = H at hP hS ⊢; try clear H1
    replace hP : va_P (dC, dI) vwCl [(qo, .inl (ko, 1, .inr (.inl fo))), (n0, .inr (15, fs_12))] H := hP
    replace hD : va_D A [(qo, .inl (ko, 1, .inr (.inl fo))), (n0, .inr (15, fs_12))] := hD
    replace hK : va_K (dC, dI) vwCl [(ko, .long)] s := hK
    have hw_14 : True := hw; clear hw
    refine lv_lstore (lv' := [(6, .long r_11), (5, .int 2), (4, .int 0), (3, .ref qo), (2, .ref n0), (1, .ref c0), (0, .ref b)]) hx hb dL_law_1675 hl (by decide) rfl (fun ls hl => ?_)
    refine lv_aload_n hx hb dL_law_1677 rfl (lv_at hl 4 rfl) ?_
    have hPc := hP.sub (ws' := [(n0, .inr (15, fs_12))]) [1] rfl
    have hDc := hD.sub (ws' := [(n0, .inr (15, fs_12))]) [1] (by decide) rfl
    have hKc := hK.sub (tys' := []) [] rfl
    have hFc := va_free (wc := [(n0, .inr (15, fs_12))]) hD hS hA [1] rfl
    refine va_calli (va_runV (As := []) (rest := []) ⟨hx, hb, hml, hown, hts⟩ (c_m_thrown l dC dI n0 2 fs_12 (mF.sub hp_13 [0] rfl) H.size) (cwV 0 hts g_law_wv_m_thrown_117 rfl rfl rfl hv_X15_thrown ⟨Nat.le_of_ble_eq_true rfl, Nat.le_of_ble_eq_true rfl⟩) ⟨fun a U g mk q => by obtain ⟨q0, q1, qP, qK, qD, qE0⟩ := q; exact ⟨q0, q1, qP, va_K.moved (u := U) (U := U.calling g mk a) (Vm.Alike.refl U.vm) qK, qD, w_N.same rfl qE0⟩, va_recv hKc hPc (ci := 15) (q0 := 0) rfl rfl, fun U hU hW => ⟨rfl, by rw [hU], by rw [hU]; exact hPc, va_K.moved hW.alike hKc, hDc.weaken (fun _ _ _ _ => trivial), w_N.warm hW hN⟩⟩ rfl rfl hl.1 rfl (lv_room (Nat.le_of_ble_eq_true rfl)) dL_law_1678 ⟨(Nat.le_of_ble_eq_true rfl), (Nat.le_of_ble_eq_true rfl)⟩) hS (fun q _ h => hFc q h) hFc (fun r_15 u t H1 locs1 ht hvm hw hB hz1 hk1 hS1 => ?_)
    obtain ⟨hP1, hK1, hD1⟩ := hB
    rw [ht] at hP1
    have hK1 := va_K.moved hvm.symm hK1
    have hJ := va_join (wr := [(qo, .inl (ko, 1, .inr (.inl fo)))]) (w1 := []) hP hD [1] [0] rfl rfl (by decide) (by decide) hk1 hFc hP1 hD1
    clear hP hD hPc hDc hKc hFc hz1; try clear hk1
    obtain ⟨hP, hD⟩ := hJ
    replace hK := (hK.sub (tys' := [(ko, .long)]) [0] rfl).app (hK1.sub (tys' := []) [] rfl)
    clear hP1 hK1 hD1 hvm ht hS; try clear t
    try clear H
    revert hS1
    intro hS
    generalize H1 = H at hP hS ⊢; try clear H1
    replace hP : va_P (dC, dI) vwCl [(qo, .inl (ko, 1, .inr (.inl fo)))] H := hP
    replace hD : va_D A [(qo, .inl (ko, 1, .inr (.inl fo)))] := hD
    replace hK : va_K (dC, dI) vwCl [(ko, .long)] s := hK
    have hw_16 : r_15 = 2 := hw; clear hw
    subst hw_16
    refine lv_iload hx hb dL_law_1681 (lv_at hl 1 rfl) ?_
    refine lv_icmp_eq (tgt := 1688) hx hb dL_law_1683 (by decide) (fun _ => ?_) (fun hc => absurd (by decide) hc)
    refine lv_iload hx hb dL_law_1688 (lv_at hl 1 rfl) ?_
    refine lv_if_ne (tgt := 1704) hx hb dL_law_1690 (by decide) (fun _ => ?_) (fun hc => absurd hc (by decide))
    refine lv_goto (tgt := 2018) hx hb dL_law_1704 (by decide) ?_
    exact law_tail C0 hA2 hbA hS (lv_sub hl [2, 6] rfl) (Nat.le_of_ble_eq_true rfl) (Nat.le_of_ble_eq_true rfl)
set_option maxHeartbeats 4000000 in
set_option maxRecDepth 100000 in
/-- the law at a call of shifted on fresh objects -/
theorem law_case_shifted {p : Program} {l : Launch} (hlt : l.stackTraces = false) {e : Env} {s : State} {m : MethodId} {below : List Frame} {meth : Method} {c : Code} {b : Nat} {xs : Nat → Int32} (C0 : lw_At p s m meth c b 6 xs) {dC : Nat → ClassId} {dI : Nat → Nat → Nat} {A : Nat → Prop} (hA : ∀ q : Nat, s.heap.size ≤ q → A q) (hA2 : ∀ q : Nat, A q → s.heap.size ≤ q) (hbA : ¬ A b) (hN : w_N s) (hT : w_T A s s.heap) (hSt : w_S A s s.heap) (hC : w_C A s s.heap) {H : Heap} {locs : List Loc} {ls : Array Slot} {c0 : Nat} {n0 : Nat} {qC : Nat} {qo : Nat} {fs_qC : List Value} {ko : Nat} {fo : Nat → Int64} {qfed : Nat} {qf : Nat} {qfd : Nat} {qs : Nat} {qk : Nat} {fs_c0 : List Value} {fs_n0 : List Value} (hP : va_P (dC, dI) vwCl [(c0, .inr (11, fs_c0)), (qC, .inr (2, fs_qC)), (qo, .inl (ko, 1, .inr (.inl fo))), (n0, .inr (15, fs_n0))] H) (hD : va_D A [(c0, .inr (11, fs_c0)), (qC, .inr (2, fs_qC)), (qo, .inl (ko, 1, .inr (.inl fo))), (n0, .inr (15, fs_n0))]) (hK : va_K (dC, dI) vwCl [(ko, .long)] s) (hS : va_S A s.heap H locs) (hl : lv_has ls 8 [(4, .int 0), (3, .ref qo), (2, .ref n0), (1, .ref c0), (0, .ref b)]) (hF_c0 : mF 19 [(7, .ref qC)] fs_c0) (hF_qC : mF 13 [(8, .int 0)] fs_qC) (hF_n0 : mF 89 [(0, .int 0), (18, .int 0), (19, .int 0), (20, .int (-1)), (21, .int 0), (22, .int 0), (23, .int 0), (24, .int 0), (25, .int 0), (27, .int 0), (28, .int 0), (29, .int 0), (35, .int 0), (17, .int (-1)), (26, .ref qfed), (30, .ref qf), (31, .ref qfd), (33, .ref qs), (36, .ref qk)] fs_n0) : W p l e room_1 s m #[Value.ref b] below meth c H locs 15894 3343160 (lw_Z below #[Value.ref b] s) (F0 m 1707 ls []) := by
  have hx := C0.1; have hb := C0.2.1; have hml := C0.2.2.2.1; have hown := C0.2.2.2.2.1; have hts := C0.2.2.2.2.2.1; have hX := C0.2.2.2.2.2.2.1; have hbl := C0.2.2.2.2.2.2.2.1; have hlocks := C0.2.2.2.2.2.2.2.2.1
  refine lv_aload_n hx hb dL_law_1707 rfl (lv_at hl 3 rfl) ?_
  refine lv_aload_n hx hb dL_law_1708 rfl (lv_at hl 4 rfl) ?_
  refine lv_iload hx hb dL_law_1709 (lv_at hl 0 rfl) ?_
  refine lv_iconst (v := 1) hx hb dL_law_1711 (by decide) ?_
  refine lv_iadd hx hb dL_law_1712 ?_
  refine lv_topi (fun v_1 ev_1 => ?_)
  have ev_1 : v_1 = 1 := ev_1.trans (by decide)
  subst ev_1
  refine va_sld hx hb hX hbl hbA hS (by exact fun h => by rcases h with h | h <;> revert h <;> decide) dL_law_1713 ?_
  refine lv_topi (fun v_2 ev_2 => ?_)
  have ev_2 : v_2 = xs 1 := ev_2
  subst ev_2
  refine lv_aload_n hx hb dL_law_1714 rfl (lv_at hl 4 rfl) ?_
  refine lv_iload hx hb dL_law_1715 (lv_at hl 0 rfl) ?_
  refine lv_iconst (v := 2) hx hb dL_law_1717 (by decide) ?_
  refine lv_iadd hx hb dL_law_1718 ?_
  refine lv_topi (fun v_3 ev_3 => ?_)
  have ev_3 : v_3 = 2 := ev_3.trans (by decide)
  subst ev_3
  refine va_sld hx hb hX hbl hbA hS (by exact fun h => by rcases h with h | h <;> revert h <;> decide) dL_law_1719 ?_
  refine lv_topi (fun v_4 ev_4 => ?_)
  have ev_4 : v_4 = xs 2 := ev_4
  subst ev_4
  refine lv_aload_n hx hb dL_law_1720 rfl (lv_at hl 1 rfl) ?_
  have hPc := hP.sub (ws' := [(c0, .inr (11, fs_c0)), (qC, .inr (2, fs_qC))]) [0, 1] rfl
  have hDc := hD.sub (ws' := [(c0, .inr (11, fs_c0)), (qC, .inr (2, fs_qC))]) [0, 1] (by decide) rfl
  have hKc := hK.sub (tys' := []) [] rfl
  have hFc := va_free (wc := [(c0, .inr (11, fs_c0)), (qC, .inr (2, fs_qC))]) hD hS hA [0, 1] rfl
  refine vx_calli (vx_runSX (As := [.ref c0, .int (xs 1), .int (xs 2), .ref qo]) (rest := []) ⟨hx, hb, hml, hown, hts⟩ (c_l_shifted l hlt dC dI c0 qC qo ((xs 1)) ((xs 2)) fs_c0 fs_qC (mF.sub hF_c0 [0] rfl) (mF.sub hF_qC [0] rfl) H.size) (vx_cwSW 4 hts g_law_wv_l_shifted_192 rfl rfl rfl hd_L_shifted ⟨Nat.le_of_ble_eq_true rfl, Nat.le_of_ble_eq_true rfl⟩) ⟨fun a U g mk q => by obtain ⟨q0, q1, qP, qK, qD, qE0, qE1, qE2⟩ := q; exact ⟨q0, q1, qP, va_K.moved (u := U) (U := U.calling g mk a) (Vm.Alike.refl U.vm) qK, qD, w_N.same rfl qE0, w_T.same rfl rfl qE1, w_C.same rfl rfl qE2⟩, fun U hU hW => ⟨rfl, by rw [hU], by rw [hU]; exact hPc, va_K.moved hW.alike hKc, hDc.weaken (fun _ _ _ _ => trivial), w_N.warm hW hN, w_T.go hT hW hS.2.1 hFc hU, w_C.go hC hW hS.2.1 hFc hU⟩⟩ rfl rfl hl.1 rfl (lv_room (Nat.le_of_ble_eq_true rfl)) dL_law_1721 ⟨(Nat.le_of_ble_eq_true rfl), (Nat.le_of_ble_eq_true rfl)⟩) hS (fun q _ h => hFc q h) hFc (fun q _ h => hFc q h) (fun E9 ce9 q9 u t H1 locs1 ht hvm hpx hBX hz1 hk1 hS1 hcell9 hv9 hcl9 => ?_) (fun r_5 u t H1 locs1 ht hvm hw hB hz1 hk1 hS1 => ?_)
  · skip
    exact (hpx : False).elim
  · skip
    obtain ⟨hP1, hK1, hD1⟩ := hB
    rw [ht] at hP1
    have hK1 := va_K.moved hvm.symm hK1
    have hJ := va_join (wr := [(qo, .inl (ko, 1, .inr (.inl fo))), (n0, .inr (15, fs_n0))]) (w1 := []) hP hD [0, 1] [2, 3] rfl rfl (by decide) (by decide) hk1 hFc hP1 hD1
    clear hP hD hPc hDc hKc hFc hz1; try clear hk1
    obtain ⟨hP, hD⟩ := hJ
    replace hK := (hK.sub (tys' := [(ko, .long)]) [0] rfl).app (hK1.sub (tys' := []) [] rfl)
    clear hP1 hK1 hD1 hvm ht hS; try clear t
    try clear H
    revert hS1
    intro hS
    generalize H1 = H at hP hS ⊢; try clear H1
    replace hP : va_P (dC, dI) vwCl [(qo, .inl (ko, 1, .inr (.inl fo))), (n0, .inr (15, fs_n0))] H := hP
    replace hD : va_D A [(qo, .inl (ko, 1, .inr (.inl fo))), (n0, .inr (15, fs_n0))] := hD
    replace hK : va_K (dC, dI) vwCl [(ko, .long)] s := hK
    have hw_6 : r_5 = 2 := hw; clear hw
    subst hw_6
    refine lv_istore (lv' := [(5, .int 2), (4, .int 0), (3, .ref qo), (2, .ref n0), (1, .ref c0), (0, .ref b)]) hx hb dL_law_1724 hl (by decide) rfl (fun ls hl => ?_)
    refine lv_aload_n hx hb dL_law_1726 rfl (lv_at hl 3 rfl) ?_
    refine lv_aload_n hx hb dL_law_1727 rfl (lv_at hl 5 rfl) ?_
    refine lv_iload hx hb dL_law_1728 (lv_at hl 1 rfl) ?_
    refine lv_iconst (v := 1) hx hb dL_law_1730 (by decide) ?_
    refine lv_iadd hx hb dL_law_1731 ?_
    refine lv_topi (fun v_7 ev_7 => ?_)
    have ev_7 : v_7 = 1 := ev_7.trans (by decide)
    subst ev_7
    refine va_sld hx hb hX hbl hbA hS (by exact fun h => by rcases h with h | h <;> revert h <;> decide) dL_law_1732 ?_
    refine lv_topi (fun v_8 ev_8 => ?_)
    have ev_8 : v_8 = xs 1 := ev_8
    subst ev_8
    refine lv_aload_n hx hb dL_law_1733 rfl (lv_at hl 5 rfl) ?_
    refine lv_iload hx hb dL_law_1734 (lv_at hl 1 rfl) ?_
    refine lv_iconst (v := 2) hx hb dL_law_1736 (by decide) ?_
    refine lv_iadd hx hb dL_law_1737 ?_
    refine lv_topi (fun v_9 ev_9 => ?_)
    have ev_9 : v_9 = 2 := ev_9.trans (by decide)
    subst ev_9
    refine va_sld hx hb hX hbl hbA hS (by exact fun h => by rcases h with h | h <;> revert h <;> decide) dL_law_1738 ?_
    refine lv_topi (fun v_10 ev_10 => ?_)
    have ev_10 : v_10 = xs 2 := ev_10
    subst ev_10
    have hPc := hP.sub (ws' := [(n0, .inr (15, fs_n0))]) [1] rfl
    have hDc := hD.sub (ws' := [(n0, .inr (15, fs_n0))]) [1] (by decide) rfl
    have hKc := hK.sub (tys' := []) [] rfl
    have hFc := va_free (wc := [(n0, .inr (15, fs_n0))]) hD hS hA [1] rfl
    refine va_calli (va_runV (As := [.int (xs 1), .int (xs 2)]) (rest := []) ⟨hx, hb, hml, hown, hts⟩ (c_m_shifted l dC dI n0 qfed qf qfd qs qk ((xs 1)) ((xs 2)) fs_n0 (mF.sub hF_n0 [0, 1, 2, 3, 4, 5, 6, 7, 8, 9, 10, 11, 12, 13, 14, 15, 16, 17, 18] rfl) H.size) (cwV 2 hts g_law_wv_m_shifted_194 rfl rfl rfl hv_X15_shifted ⟨Nat.le_of_ble_eq_true rfl, Nat.le_of_ble_eq_true rfl⟩) ⟨fun a U g mk q => by obtain ⟨q0, q1, qP, qK, qD, qE0⟩ := q; exact ⟨q0, q1, qP, va_K.moved (u := U) (U := U.calling g mk a) (Vm.Alike.refl U.vm) qK, qD, w_N.same rfl qE0⟩, va_recv hKc hPc (ci := 15) (q0 := 0) rfl rfl, fun U hU hW => ⟨rfl, by rw [hU], by rw [hU]; exact hPc, va_K.moved hW.alike hKc, hDc.weaken (fun _ _ _ _ => trivial), w_N.warm hW hN⟩⟩ rfl rfl hl.1 rfl (lv_room (Nat.le_of_ble_eq_true rfl)) dL_law_1739 ⟨(Nat.le_of_ble_eq_true rfl), (Nat.le_of_ble_eq_true rfl)⟩) hS (fun q _ h => hFc q h) hFc (fun r_11 u t H1 locs1 ht hvm hw hB hz1 hk1 hS1 => ?_)
    obtain ⟨fs_12, hP1, hK1, hD1, hp_13⟩ := hB
    rw [ht] at hP1
    have hK1 := va_K.moved hvm.symm hK1
    have hJ := va_join (wr := [(qo, .inl (ko, 1, .inr (.inl fo)))]) (w1 := [(n0, .inr (15, fs_12))]) hP hD [1] [0] rfl rfl (by decide) (by decide) hk1 hFc hP1 hD1
    clear hP hD hPc hDc hKc hFc hz1; try clear hk1
    obtain ⟨hP, hD⟩ := hJ
    replace hK := (hK.sub (tys' := [(ko, .long)]) [0] rfl).app (hK1.sub (tys' := []) [] rfl)
    clear hP1 hK1 hD1 hvm ht hS; try clear t
    try clear H
    revert hS1
    intro hS
    generalize H1 = H at hP hS ⊢; try clear H1
    replace hP : va_P (dC, dI) vwCl [(qo, .inl (ko, 1, .inr (.inl fo))), (n0, .inr (15, fs_12))] H := hP
    replace hD : va_D A [(qo, .inl (ko, 1, .inr (.inl fo))), (n0, .inr (15, fs_12))] := hD
    replace hK : va_K (dC, dI) vwCl [(ko, .long)] s := hK
    have hw_14 : True := hw; clear hw
    refine lv_istore (lv' := [(6, .int r_11), (5, .int 2), (4, .int 0), (3, .ref qo), (2, .ref n0), (1, .ref c0), (0, .ref b)]) hx hb dL_law_1742 hl (by decide) rfl (fun ls hl => ?_)
    refine lv_aload_n hx hb dL_law_1744 rfl (lv_at hl 4 rfl) ?_
    have hPc := hP.sub (ws' := [(n0, .inr (15, fs_12))]) [1] rfl
    have hDc := hD.sub (ws' := [(n0, .inr (15, fs_12))]) [1] (by decide) rfl
    have hKc := hK.sub (tys' := []) [] rfl
    have hFc := va_free (wc := [(n0, .inr (15, fs_12))]) hD hS hA [1] rfl
    refine va_calli (va_runV (As := []) (rest := []) ⟨hx, hb, hml, hown, hts⟩ (c_m_thrown l dC dI n0 2 fs_12 (mF.sub hp_13 [0] rfl) H.size) (cwV 0 hts g_law_wv_m_thrown_117 rfl rfl rfl hv_X15_thrown ⟨Nat.le_of_ble_eq_true rfl, Nat.le_of_ble_eq_true rfl⟩) ⟨fun a U g mk q => by obtain ⟨q0, q1, qP, qK, qD, qE0⟩ := q; exact ⟨q0, q1, qP, va_K.moved (u := U) (U := U.calling g mk a) (Vm.Alike.refl U.vm) qK, qD, w_N.same rfl qE0⟩, va_recv hKc hPc (ci := 15) (q0 := 0) rfl rfl, fun U hU hW => ⟨rfl, by rw [hU], by rw [hU]; exact hPc, va_K.moved hW.alike hKc, hDc.weaken (fun _ _ _ _ => trivial), w_N.warm hW hN⟩⟩ rfl rfl hl.1 rfl (lv_room (Nat.le_of_ble_eq_true rfl)) dL_law_1745 ⟨(Nat.le_of_ble_eq_true rfl), (Nat.le_of_ble_eq_true rfl)⟩) hS (fun q _ h => hFc q h) hFc (fun r_15 u t H1 locs1 ht hvm hw hB hz1 hk1 hS1 => ?_)
    obtain ⟨hP1, hK1, hD1⟩ := hB
    rw [ht] at hP1
    have hK1 := va_K.moved hvm.symm hK1
    have hJ := va_join (wr := [(qo, .inl (ko, 1, .inr (.inl fo)))]) (w1 := []) hP hD [1] [0] rfl rfl (by decide) (by decide) hk1 hFc hP1 hD1
    clear hP hD hPc hDc hKc hFc hz1; try clear hk1
    obtain ⟨hP, hD⟩ := hJ
    replace hK := (hK.sub (tys' := [(ko, .long)]) [0] rfl).app (hK1.sub (tys' := []) [] rfl)
    clear hP1 hK1 hD1 hvm ht hS; try clear t
    try clear H
    revert hS1
    intro hS
    generalize H1 = H at hP hS ⊢; try clear H1
    replace hP : va_P (dC, dI) vwCl [(qo, .inl (ko, 1, .inr (.inl fo)))] H := hP
    replace hD : va_D A [(qo, .inl (ko, 1, .inr (.inl fo)))] := hD
    replace hK : va_K (dC, dI) vwCl [(ko, .long)] s := hK
    have hw_16 : r_15 = 2 := hw; clear hw
    subst hw_16
    refine lv_iload hx hb dL_law_1748 (lv_at hl 1 rfl) ?_
    refine lv_icmp_eq (tgt := 1755) hx hb dL_law_1750 (by decide) (fun _ => ?_) (fun hc => absurd (by decide) hc)
    refine lv_iload hx hb dL_law_1755 (lv_at hl 1 rfl) ?_
    refine lv_if_ne (tgt := 1772) hx hb dL_law_1757 (by decide) (fun _ => ?_) (fun hc => absurd hc (by decide))
    refine lv_goto (tgt := 2018) hx hb dL_law_1772 (by decide) ?_
    exact law_tail C0 hA2 hbA hS (lv_sub hl [2, 6] rfl) (Nat.le_of_ble_eq_true rfl) (Nat.le_of_ble_eq_true rfl)
set_option maxHeartbeats 4000000 in
set_option maxRecDepth 100000 in
/-- the law at a call of stretched on fresh objects -/
theorem law_case_stretched {p : Program} {l : Launch} (hlt : l.stackTraces = false) {e : Env} {s : State} {m : MethodId} {below : List Frame} {meth : Method} {c : Code} {b : Nat} {xs : Nat → Int32} (C0 : lw_At p s m meth c b 6 xs) {dC : Nat → ClassId} {dI : Nat → Nat → Nat} {A : Nat → Prop} (hA : ∀ q : Nat, s.heap.size ≤ q → A q) (hA2 : ∀ q : Nat, A q → s.heap.size ≤ q) (hbA : ¬ A b) (hN : w_N s) (hT : w_T A s s.heap) (hSt : w_S A s s.heap) (hC : w_C A s s.heap) {H : Heap} {locs : List Loc} {ls : Array Slot} {c0 : Nat} {n0 : Nat} {qC : Nat} {qo : Nat} {fs_qC : List Value} {ko : Nat} {fo : Nat → Int64} {qfed : Nat} {qf : Nat} {qfd : Nat} {qs : Nat} {qk : Nat} {fs_c0 : List Value} {fs_n0 : List Value} (hP : va_P (dC, dI) vwCl [(c0, .inr (11, fs_c0)), (qC, .inr (2, fs_qC)), (qo, .inl (ko, 1, .inr (.inl fo))), (n0, .inr (15, fs_n0))] H) (hD : va_D A [(c0, .inr (11, fs_c0)), (qC, .inr (2, fs_qC)), (qo, .inl (ko, 1, .inr (.inl fo))), (n0, .inr (15, fs_n0))]) (hK : va_K (dC, dI) vwCl [(ko, .long)] s) (hS : va_S A s.heap H locs) (hl : lv_has ls 8 [(4, .int 0), (3, .ref qo), (2, .ref n0), (1, .ref c0), (0, .ref b)]) (hF_c0 : mF 19 [(7, .ref qC)] fs_c0) (hF_qC : mF 13 [(8, .int 0)] fs_qC) (hF_n0 : mF 89 [(0, .int 0), (18, .int 0), (19, .int 0), (20, .int (-1)), (21, .int 0), (22, .int 0), (23, .int 0), (24, .int 0), (25, .int 0), (27, .int 0), (28, .int 0), (29, .int 0), (35, .int 0), (17, .int (-1)), (26, .ref qfed), (30, .ref qf), (31, .ref qfd), (33, .ref qs), (36, .ref qk)] fs_n0) : W p l e room_1 s m #[Value.ref b] below meth c H locs 15894 3343160 (lw_Z below #[Value.ref b] s) (F0 m 1775 ls []) := by
  have hx := C0.1; have hb := C0.2.1; have hml := C0.2.2.2.1; have hown := C0.2.2.2.2.1; have hts := C0.2.2.2.2.2.1; have hX := C0.2.2.2.2.2.2.1; have hbl := C0.2.2.2.2.2.2.2.1; have hlocks := C0.2.2.2.2.2.2.2.2.1
  refine lv_aload_n hx hb dL_law_1775 rfl (lv_at hl 3 rfl) ?_
  refine lv_aload_n hx hb dL_law_1776 rfl (lv_at hl 4 rfl) ?_
  refine lv_iload hx hb dL_law_1777 (lv_at hl 0 rfl) ?_
  refine lv_iconst (v := 1) hx hb dL_law_1779 (by decide) ?_
  refine lv_iadd hx hb dL_law_1780 ?_
  refine lv_topi (fun v_1 ev_1 => ?_)
  have ev_1 : v_1 = 1 := ev_1.trans (by decide)
  subst ev_1
  refine va_sld hx hb hX hbl hbA hS (by exact fun h => by rcases h with h | h <;> revert h <;> decide) dL_law_1781 ?_
  refine lv_topi (fun v_2 ev_2 => ?_)
  have ev_2 : v_2 = xs 1 := ev_2
  subst ev_2
  refine lv_aload_n hx hb dL_law_1782 rfl (lv_at hl 4 rfl) ?_
  refine lv_iload hx hb dL_law_1783 (lv_at hl 0 rfl) ?_
  refine lv_iconst (v := 2) hx hb dL_law_1785 (by decide) ?_
  refine lv_iadd hx hb dL_law_1786 ?_
  refine lv_topi (fun v_3 ev_3 => ?_)
  have ev_3 : v_3 = 2 := ev_3.trans (by decide)
  subst ev_3
  refine va_sld hx hb hX hbl hbA hS (by exact fun h => by rcases h with h | h <;> revert h <;> decide) dL_law_1787 ?_
  refine lv_topi (fun v_4 ev_4 => ?_)
  have ev_4 : v_4 = xs 2 := ev_4
  subst ev_4
  refine lv_aload_n hx hb dL_law_1788 rfl (lv_at hl 1 rfl) ?_
  have hPc := hP.sub (ws' := [(c0, .inr (11, fs_c0)), (qC, .inr (2, fs_qC))]) [0, 1] rfl
  have hDc := hD.sub (ws' := [(c0, .inr (11, fs_c0)), (qC, .inr (2, fs_qC))]) [0, 1] (by decide) rfl
  have hKc := hK.sub (tys' := []) [] rfl
  have hFc := va_free (wc := [(c0, .inr (11, fs_c0)), (qC, .inr (2, fs_qC))]) hD hS hA [0, 1] rfl
  refine vx_calli (vx_runSX (As := [.ref c0, .int (xs 1), .int (xs 2), .ref qo]) (rest := []) ⟨hx, hb, hml, hown, hts⟩ (c_l_stretched l hlt dC dI c0 qC qo ((xs 1)) ((xs 2)) fs_c0 fs_qC (mF.sub hF_c0 [0] rfl) (mF.sub hF_qC [0] rfl) H.size) (vx_cwSW 4 hts g_law_wv_l_stretched_195 rfl rfl rfl hd_L_stretched ⟨Nat.le_of_ble_eq_true rfl, Nat.le_of_ble_eq_true rfl⟩) ⟨fun a U g mk q => by obtain ⟨q0, q1, qP, qK, qD, qE0, qE1, qE2⟩ := q; exact ⟨q0, q1, qP, va_K.moved (u := U) (U := U.calling g mk a) (Vm.Alike.refl U.vm) qK, qD, w_N.same rfl qE0, w_T.same rfl rfl qE1, w_C.same rfl rfl qE2⟩, fun U hU hW => ⟨rfl, by rw [hU], by rw [hU]; exact hPc, va_K.moved hW.alike hKc, hDc.weaken (fun _ _ _ _ => trivial), w_N.warm hW hN, w_T.go hT hW hS.2.1 hFc hU, w_C.go hC hW hS.2.1 hFc hU⟩⟩ rfl rfl hl.1 rfl (lv_room (Nat.le_of_ble_eq_true rfl)) dL_law_1789 ⟨(Nat.le_of_ble_eq_true rfl), (Nat.le_of_ble_eq_true rfl)⟩) hS (fun q _ h => hFc q h) hFc (fun q _ h => hFc q h) (fun E9 ce9 q9 u t H1 locs1 ht hvm hpx hBX hz1 hk1 hS1 hcell9 hv9 hcl9 => ?_) (fun r_5 u t H1 locs1 ht hvm hw hB hz1 hk1 hS1 => ?_)
  · skip
    exact (hpx : False).elim
  · skip
    obtain ⟨hP1, hK1, hD1⟩ := hB
    rw [ht] at hP1
    have hK1 := va_K.moved hvm.symm hK1
    have hJ := va_join (wr := [(qo, .inl (ko, 1, .inr (.inl fo))), (n0, .inr (15, fs_n0))]) (w1 := []) hP hD [0, 1] [2, 3] rfl rfl (by decide) (by decide) hk1 hFc hP1 hD1
    clear hP hD hPc hDc hKc hFc hz1; try clear hk1
    obtain ⟨hP, hD⟩ := hJ
    replace hK := (hK.sub (tys' := [(ko, .long)]) [0] rfl).app (hK1.sub (tys' := []) [] rfl)
    clear hP1 hK1 hD1 hvm ht hS; try clear t
    try clear H
    revert hS1
    intro hS
    generalize H1 = H at hP hS ⊢; try clear H1
    replace hP : va_P (dC, dI) vwCl [(qo, .inl (ko, 1, .inr (.inl fo))), (n0, .inr (15, fs_n0))] H := hP
    replace hD : va_D A [(qo, .inl (ko, 1, .inr (.inl fo))), (n0, .inr (15, fs_n0))] := hD
    replace hK : va_K (dC, dI) vwCl [(ko, .long)] s := hK
    have hw_6 : r_5 = 3 := hw; clear hw
    subst hw_6
    refine lv_istore (lv' := [(5, .int 3), (4, .int 0), (3, .ref qo), (2, .ref n0), (1, .ref c0), (0, .ref b)]) hx hb dL_law_1792 hl (by decide) rfl (fun ls hl => ?_)
    refine lv_aload_n hx hb dL_law_1794 rfl (lv_at hl 3 rfl) ?_
    refine lv_aload_n hx hb dL_law_1795 rfl (lv_at hl 5 rfl) ?_
    refine lv_iload hx hb dL_law_1796 (lv_at hl 1 rfl) ?_
    refine lv_iconst (v := 1) hx hb dL_law_1798 (by decide) ?_
    refine lv_iadd hx hb dL_law_1799 ?_
    refine lv_topi (fun v_7 ev_7 => ?_)
    have ev_7 : v_7 = 1 := ev_7.trans (by decide)
    subst ev_7
    refine va_sld hx hb hX hbl hbA hS (by exact fun h => by rcases h with h | h <;> revert h <;> decide) dL_law_1800 ?_
    refine lv_topi (fun v_8 ev_8 => ?_)
    have ev_8 : v_8 = xs 1 := ev_8
    subst ev_8
    refine lv_aload_n hx hb dL_law_1801 rfl (lv_at hl 5 rfl) ?_
    refine lv_iload hx hb dL_law_1802 (lv_at hl 1 rfl) ?_
    refine lv_iconst (v := 2) hx hb dL_law_1804 (by decide) ?_
    refine lv_iadd hx hb dL_law_1805 ?_
    refine lv_topi (fun v_9 ev_9 => ?_)
    have ev_9 : v_9 = 2 := ev_9.trans (by decide)
    subst ev_9
    refine va_sld hx hb hX hbl hbA hS (by exact fun h => by rcases h with h | h <;> revert h <;> decide) dL_law_1806 ?_
    refine lv_topi (fun v_10 ev_10 => ?_)
    have ev_10 : v_10 = xs 2 := ev_10
    subst ev_10
    have hPc := hP.sub (ws' := [(n0, .inr (15, fs_n0))]) [1] rfl
    have hDc := hD.sub (ws' := [(n0, .inr (15, fs_n0))]) [1] (by decide) rfl
    have hKc := hK.sub (tys' := []) [] rfl
    have hFc := va_free (wc := [(n0, .inr (15, fs_n0))]) hD hS hA [1] rfl
    refine va_calli (va_runV (As := [.int (xs 1), .int (xs 2)]) (rest := []) ⟨hx, hb, hml, hown, hts⟩ (c_m_stretched l dC dI n0 qfed qf qfd qs qk ((xs 1)) ((xs 2)) fs_n0 (mF.sub hF_n0 [0, 1, 2, 3, 4, 5, 6, 7, 8, 9, 10, 11, 12, 13, 14, 15, 16, 17, 18] rfl) H.size) (cwV 2 hts g_law_wv_m_stretched_197 rfl rfl rfl hv_X15_stretched ⟨Nat.le_of_ble_eq_true rfl, Nat.le_of_ble_eq_true rfl⟩) ⟨fun a U g mk q => by obtain ⟨q0, q1, qP, qK, qD, qE0⟩ := q; exact ⟨q0, q1, qP, va_K.moved (u := U) (U := U.calling g mk a) (Vm.Alike.refl U.vm) qK, qD, w_N.same rfl qE0⟩, va_recv hKc hPc (ci := 15) (q0 := 0) rfl rfl, fun U hU hW => ⟨rfl, by rw [hU], by rw [hU]; exact hPc, va_K.moved hW.alike hKc, hDc.weaken (fun _ _ _ _ => trivial), w_N.warm hW hN⟩⟩ rfl rfl hl.1 rfl (lv_room (Nat.le_of_ble_eq_true rfl)) dL_law_1807 ⟨(Nat.le_of_ble_eq_true rfl), (Nat.le_of_ble_eq_true rfl)⟩) hS (fun q _ h => hFc q h) hFc (fun r_11 u t H1 locs1 ht hvm hw hB hz1 hk1 hS1 => ?_)
    obtain ⟨fs_12, hP1, hK1, hD1, hp_13⟩ := hB
    rw [ht] at hP1
    have hK1 := va_K.moved hvm.symm hK1
    have hJ := va_join (wr := [(qo, .inl (ko, 1, .inr (.inl fo)))]) (w1 := [(n0, .inr (15, fs_12))]) hP hD [1] [0] rfl rfl (by decide) (by decide) hk1 hFc hP1 hD1
    clear hP hD hPc hDc hKc hFc hz1; try clear hk1
    obtain ⟨hP, hD⟩ := hJ
    replace hK := (hK.sub (tys' := [(ko, .long)]) [0] rfl).app (hK1.sub (tys' := []) [] rfl)
    clear hP1 hK1 hD1 hvm ht hS; try clear t
    try clear H
    revert hS1
    intro hS
    generalize H1 = H at hP hS ⊢; try clear H1
    replace hP : va_P (dC, dI) vwCl [(qo, .inl (ko, 1, .inr (.inl fo))), (n0, .inr (15, fs_12))] H := hP
    replace hD : va_D A [(qo, .inl (ko, 1, .inr (.inl fo))), (n0, .inr (15, fs_12))] := hD
    replace hK : va_K (dC, dI) vwCl [(ko, .long)] s := hK
    have hw_14 : True := hw; clear hw
    refine lv_istore (lv' := [(6, .int r_11), (5, .int 3), (4, .int 0), (3, .ref qo), (2, .ref n0), (1, .ref c0), (0, .ref b)]) hx hb dL_law_1810 hl (by decide) rfl (fun ls hl => ?_)
    refine lv_aload_n hx hb dL_law_1812 rfl (lv_at hl 4 rfl) ?_
    have hPc := hP.sub (ws' := [(n0, .inr (15, fs_12))]) [1] rfl
    have hDc := hD.sub (ws' := [(n0, .inr (15, fs_12))]) [1] (by decide) rfl
    have hKc := hK.sub (tys' := []) [] rfl
    have hFc := va_free (wc := [(n0, .inr (15, fs_12))]) hD hS hA [1] rfl
    refine va_calli (va_runV (As := []) (rest := []) ⟨hx, hb, hml, hown, hts⟩ (c_m_thrown l dC dI n0 3 fs_12 (mF.sub hp_13 [0] rfl) H.size) (cwV 0 hts g_law_wv_m_thrown_117 rfl rfl rfl hv_X15_thrown ⟨Nat.le_of_ble_eq_true rfl, Nat.le_of_ble_eq_true rfl⟩) ⟨fun a U g mk q => by obtain ⟨q0, q1, qP, qK, qD, qE0⟩ := q; exact ⟨q0, q1, qP, va_K.moved (u := U) (U := U.calling g mk a) (Vm.Alike.refl U.vm) qK, qD, w_N.same rfl qE0⟩, va_recv hKc hPc (ci := 15) (q0 := 0) rfl rfl, fun U hU hW => ⟨rfl, by rw [hU], by rw [hU]; exact hPc, va_K.moved hW.alike hKc, hDc.weaken (fun _ _ _ _ => trivial), w_N.warm hW hN⟩⟩ rfl rfl hl.1 rfl (lv_room (Nat.le_of_ble_eq_true rfl)) dL_law_1813 ⟨(Nat.le_of_ble_eq_true rfl), (Nat.le_of_ble_eq_true rfl)⟩) hS (fun q _ h => hFc q h) hFc (fun r_15 u t H1 locs1 ht hvm hw hB hz1 hk1 hS1 => ?_)
    obtain ⟨hP1, hK1, hD1⟩ := hB
    rw [ht] at hP1
    have hK1 := va_K.moved hvm.symm hK1
    have hJ := va_join (wr := [(qo, .inl (ko, 1, .inr (.inl fo)))]) (w1 := []) hP hD [1] [0] rfl rfl (by decide) (by decide) hk1 hFc hP1 hD1
    clear hP hD hPc hDc hKc hFc hz1; try clear hk1
    obtain ⟨hP, hD⟩ := hJ
    replace hK := (hK.sub (tys' := [(ko, .long)]) [0] rfl).app (hK1.sub (tys' := []) [] rfl)
    clear hP1 hK1 hD1 hvm ht hS; try clear t
    try clear H
    revert hS1
    intro hS
    generalize H1 = H at hP hS ⊢; try clear H1
    replace hP : va_P (dC, dI) vwCl [(qo, .inl (ko, 1, .inr (.inl fo)))] H := hP
    replace hD : va_D A [(qo, .inl (ko, 1, .inr (.inl fo)))] := hD
    replace hK : va_K (dC, dI) vwCl [(ko, .long)] s := hK
    have hw_16 : r_15 = 3 := hw; clear hw
    subst hw_16
    refine lv_iload hx hb dL_law_1816 (lv_at hl 1 rfl) ?_
    refine lv_icmp_eq (tgt := 1823) hx hb dL_law_1818 (by decide) (fun _ => ?_) (fun hc => absurd (by decide) hc)
    refine lv_iload hx hb dL_law_1823 (lv_at hl 1 rfl) ?_
    refine lv_if_ne (tgt := 1840) hx hb dL_law_1825 (by decide) (fun _ => ?_) (fun hc => absurd hc (by decide))
    refine lv_goto (tgt := 2018) hx hb dL_law_1840 (by decide) ?_
    exact law_tail C0 hA2 hbA hS (lv_sub hl [2, 6] rfl) (Nat.le_of_ble_eq_true rfl) (Nat.le_of_ble_eq_true rfl)
set_option maxHeartbeats 4000000 in
set_option maxRecDepth 100000 in
/-- the law at a call of wave on fresh objects -/
theorem law_case_wave {p : Program} {l : Launch} (hlt : l.stackTraces = false) {e : Env} {s : State} {m : MethodId} {below : List Frame} {meth : Method} {c : Code} {b : Nat} {xs : Nat → Int32} (C0 : lw_At p s m meth c b 6 xs) {dC : Nat → ClassId} {dI : Nat → Nat → Nat} {A : Nat → Prop} (hA : ∀ q : Nat, s.heap.size ≤ q → A q) (hA2 : ∀ q : Nat, A q → s.heap.size ≤ q) (hbA : ¬ A b) (hN : w_N s) (hT : w_T A s s.heap) (hSt : w_S A s s.heap) (hC : w_C A s s.heap) {H : Heap} {locs : List Loc} {ls : Array Slot} {c0 : Nat} {n0 : Nat} {qC : Nat} {qo : Nat} {fs_qC : List Value} {ko : Nat} {fo : Nat → Int64} {qfed : Nat} {qf : Nat} {qfd : Nat} {qs : Nat} {qk : Nat} {fs_c0 : List Value} {fs_n0 : List Value} (hP : va_P (dC, dI) vwCl [(c0, .inr (11, fs_c0)), (qC, .inr (2, fs_qC)), (qo, .inl (ko, 1, .inr (.inl fo))), (n0, .inr (15, fs_n0))] H) (hD : va_D A [(c0, .inr (11, fs_c0)), (qC, .inr (2, fs_qC)), (qo, .inl (ko, 1, .inr (.inl fo))), (n0, .inr (15, fs_n0))]) (hK : va_K (dC, dI) vwCl [(ko, .long)] s) (hS : va_S A s.heap H locs) (hl : lv_has ls 8 [(4, .int 0), (3, .ref qo), (2, .ref n0), (1, .ref c0), (0, .ref b)]) (hF_c0 : mF 19 [(7, .ref qC)] fs_c0) (hF_qC : mF 13 [(8, .int 0)] fs_qC) (hF_n0 : mF 89 [(0, .int 0), (18, .int 0), (19, .int 0), (20, .int (-1)), (21, .int 0), (22, .int 0), (23, .int 0), (24, .int 0), (25, .int 0), (27, .int 0), (28, .int 0), (29, .int 0), (35, .int 0), (17, .int (-1)), (26, .ref qfed), (30, .ref qf), (31, .ref qfd), (33, .ref qs), (36, .ref qk)] fs_n0) : W p l e room_1 s m #[Value.ref b] below meth c H locs 15894 3343160 (lw_Z below #[Value.ref b] s) (F0 m 1843 ls []) := by
  have hx := C0.1; have hb := C0.2.1; have hml := C0.2.2.2.1; have hown := C0.2.2.2.2.1; have hts := C0.2.2.2.2.2.1; have hX := C0.2.2.2.2.2.2.1; have hbl := C0.2.2.2.2.2.2.2.1; have hlocks := C0.2.2.2.2.2.2.2.2.1
  refine lv_aload_n hx hb dL_law_1843 rfl (lv_at hl 3 rfl) ?_
  refine lv_aload_n hx hb dL_law_1844 rfl (lv_at hl 4 rfl) ?_
  refine lv_iload hx hb dL_law_1845 (lv_at hl 0 rfl) ?_
  refine lv_iconst (v := 1) hx hb dL_law_1847 (by decide) ?_
  refine lv_iadd hx hb dL_law_1848 ?_
  refine lv_topi (fun v_1 ev_1 => ?_)
  have ev_1 : v_1 = 1 := ev_1.trans (by decide)
  subst ev_1
  refine va_sld hx hb hX hbl hbA hS (by exact fun h => by rcases h with h | h <;> revert h <;> decide) dL_law_1849 ?_
  refine lv_topi (fun v_2 ev_2 => ?_)
  have ev_2 : v_2 = xs 1 := ev_2
  subst ev_2
  refine lv_aload_n hx hb dL_law_1850 rfl (lv_at hl 4 rfl) ?_
  refine lv_iload hx hb dL_law_1851 (lv_at hl 0 rfl) ?_
  refine lv_iconst (v := 2) hx hb dL_law_1853 (by decide) ?_
  refine lv_iadd hx hb dL_law_1854 ?_
  refine lv_topi (fun v_3 ev_3 => ?_)
  have ev_3 : v_3 = 2 := ev_3.trans (by decide)
  subst ev_3
  refine va_sld hx hb hX hbl hbA hS (by exact fun h => by rcases h with h | h <;> revert h <;> decide) dL_law_1855 ?_
  refine lv_topi (fun v_4 ev_4 => ?_)
  have ev_4 : v_4 = xs 2 := ev_4
  subst ev_4
  refine lv_aload_n hx hb dL_law_1856 rfl (lv_at hl 1 rfl) ?_
  have hPc := hP.sub (ws' := [(c0, .inr (11, fs_c0)), (qC, .inr (2, fs_qC))]) [0, 1] rfl
  have hDc := hD.sub (ws' := [(c0, .inr (11, fs_c0)), (qC, .inr (2, fs_qC))]) [0, 1] (by decide) rfl
  have hKc := hK.sub (tys' := []) [] rfl
  have hFc := va_free (wc := [(c0, .inr (11, fs_c0)), (qC, .inr (2, fs_qC))]) hD hS hA [0, 1] rfl
  refine vx_calli (vx_runSX (As := [.ref c0, .int (xs 1), .int (xs 2), .ref qo]) (rest := []) ⟨hx, hb, hml, hown, hts⟩ (c_l_wave l hlt dC dI c0 qC qo ((xs 1)) ((xs 2)) fs_c0 fs_qC (mF.sub hF_c0 [0] rfl) (mF.sub hF_qC [0] rfl) H.size) (vx_cwSW 4 hts g_law_wv_l_wave_198 rfl rfl rfl hd_L_wave ⟨Nat.le_of_ble_eq_true rfl, Nat.le_of_ble_eq_true rfl⟩) ⟨fun a U g mk q => by obtain ⟨q0, q1, qP, qK, qD, qE0, qE1, qE2⟩ := q; exact ⟨q0, q1, qP, va_K.moved (u := U) (U := U.calling g mk a) (Vm.Alike.refl U.vm) qK, qD, w_N.same rfl qE0, w_T.same rfl rfl qE1, w_C.same rfl rfl qE2⟩, fun U hU hW => ⟨rfl, by rw [hU], by rw [hU]; exact hPc, va_K.moved hW.alike hKc, hDc.weaken (fun _ _ _ _ => trivial), w_N.warm hW hN, w_T.go hT hW hS.2.1 hFc hU, w_C.go hC hW hS.2.1 hFc hU⟩⟩ rfl rfl hl.1 rfl (lv_room (Nat.le_of_ble_eq_true rfl)) dL_law_1857 ⟨(Nat.le_of_ble_eq_true rfl), (Nat.le_of_ble_eq_true rfl)⟩) hS (fun q _ h => hFc q h) hFc (fun q _ h => hFc q h) (fun E9 ce9 q9 u t H1 locs1 ht hvm hpx hBX hz1 hk1 hS1 hcell9 hv9 hcl9 => ?_) (fun r_5 u t H1 locs1 ht hvm hw hB hz1 hk1 hS1 => ?_)
  · skip
    exact (hpx : False).elim
  · skip
    obtain ⟨hP1, hK1, hD1⟩ := hB
    rw [ht] at hP1
    have hK1 := va_K.moved hvm.symm hK1
    have hJ := va_join (wr := [(qo, .inl (ko, 1, .inr (.inl fo))), (n0, .inr (15, fs_n0))]) (w1 := []) hP hD [0, 1] [2, 3] rfl rfl (by decide) (by decide) hk1 hFc hP1 hD1
    clear hP hD hPc hDc hKc hFc hz1; try clear hk1
    obtain ⟨hP, hD⟩ := hJ
    replace hK := (hK.sub (tys' := [(ko, .long)]) [0] rfl).app (hK1.sub (tys' := []) [] rfl)
    clear hP1 hK1 hD1 hvm ht hS; try clear t
    try clear H
    revert hS1
    intro hS
    generalize H1 = H at hP hS ⊢; try clear H1
    replace hP : va_P (dC, dI) vwCl [(qo, .inl (ko, 1, .inr (.inl fo))), (n0, .inr (15, fs_n0))] H := hP
    replace hD : va_D A [(qo, .inl (ko, 1, .inr (.inl fo))), (n0, .inr (15, fs_n0))] := hD
    replace hK : va_K (dC, dI) vwCl [(ko, .long)] s := hK
    have hw_6 : r_5 = 2 := hw; clear hw
    subst hw_6
    refine lv_istore (lv' := [(5, .int 2), (4, .int 0), (3, .ref qo), (2, .ref n0), (1, .ref c0), (0, .ref b)]) hx hb dL_law_1860 hl (by decide) rfl (fun ls hl => ?_)
    refine lv_aload_n hx hb dL_law_1862 rfl (lv_at hl 3 rfl) ?_
    refine lv_aload_n hx hb dL_law_1863 rfl (lv_at hl 5 rfl) ?_
    refine lv_iload hx hb dL_law_1864 (lv_at hl 1 rfl) ?_
    refine lv_iconst (v := 1) hx hb dL_law_1866 (by decide) ?_
    refine lv_iadd hx hb dL_law_1867 ?_
    refine lv_topi (fun v_7 ev_7 => ?_)
    have ev_7 : v_7 = 1 := ev_7.trans (by decide)
    subst ev_7
    refine va_sld hx hb hX hbl hbA hS (by exact fun h => by rcases h with h | h <;> revert h <;> decide) dL_law_1868 ?_
    refine lv_topi (fun v_8 ev_8 => ?_)
    have ev_8 : v_8 = xs 1 := ev_8
    subst ev_8
    refine lv_aload_n hx hb dL_law_1869 rfl (lv_at hl 5 rfl) ?_
    refine lv_iload hx hb dL_law_1870 (lv_at hl 1 rfl) ?_
    refine lv_iconst (v := 2) hx hb dL_law_1872 (by decide) ?_
    refine lv_iadd hx hb dL_law_1873 ?_
    refine lv_topi (fun v_9 ev_9 => ?_)
    have ev_9 : v_9 = 2 := ev_9.trans (by decide)
    subst ev_9
    refine va_sld hx hb hX hbl hbA hS (by exact fun h => by rcases h with h | h <;> revert h <;> decide) dL_law_1874 ?_
    refine lv_topi (fun v_10 ev_10 => ?_)
    have ev_10 : v_10 = xs 2 := ev_10
    subst ev_10
    have hPc := hP.sub (ws' := [(n0, .inr (15, fs_n0))]) [1] rfl
    have hDc := hD.sub (ws' := [(n0, .inr (15, fs_n0))]) [1] (by decide) rfl
    have hKc := hK.sub (tys' := []) [] rfl
    have hFc := va_free (wc := [(n0, .inr (15, fs_n0))]) hD hS hA [1] rfl
    refine va_calli (va_runV (As := [.int (xs 1), .int (xs 2)]) (rest := []) ⟨hx, hb, hml, hown, hts⟩ (c_m_wave l dC dI n0 qfed qf qfd qs qk ((xs 1)) ((xs 2)) fs_n0 (mF.sub hF_n0 [0, 1, 2, 3, 4, 5, 6, 7, 8, 9, 10, 11, 12, 13, 14, 15, 16, 17, 18] rfl) H.size) (cwV 2 hts g_law_wv_m_wave_200 rfl rfl rfl hv_X15_wave ⟨Nat.le_of_ble_eq_true rfl, Nat.le_of_ble_eq_true rfl⟩) ⟨fun a U g mk q => by obtain ⟨q0, q1, qP, qK, qD, qE0⟩ := q; exact ⟨q0, q1, qP, va_K.moved (u := U) (U := U.calling g mk a) (Vm.Alike.refl U.vm) qK, qD, w_N.same rfl qE0⟩, va_recv hKc hPc (ci := 15) (q0 := 0) rfl rfl, fun U hU hW => ⟨rfl, by rw [hU], by rw [hU]; exact hPc, va_K.moved hW.alike hKc, hDc.weaken (fun _ _ _ _ => trivial), w_N.warm hW hN⟩⟩ rfl rfl hl.1 rfl (lv_room (Nat.le_of_ble_eq_true rfl)) dL_law_1875 ⟨(Nat.le_of_ble_eq_true rfl), (Nat.le_of_ble_eq_true rfl)⟩) hS (fun q _ h => hFc q h) hFc (fun r_11 u t H1 locs1 ht hvm hw hB hz1 hk1 hS1 => ?_)
    obtain ⟨fs_12, hP1, hK1, hD1, hp_13⟩ := hB
    rw [ht] at hP1
    have hK1 := va_K.moved hvm.symm hK1
    have hJ := va_join (wr := [(qo, .inl (ko, 1, .inr (.inl fo)))]) (w1 := [(n0, .inr (15, fs_12))]) hP hD [1] [0] rfl rfl (by decide) (by decide) hk1 hFc hP1 hD1
    clear hP hD hPc hDc hKc hFc hz1; try clear hk1
    obtain ⟨hP, hD⟩ := hJ
    replace hK := (hK.sub (tys' := [(ko, .long)]) [0] rfl).app (hK1.sub (tys' := []) [] rfl)
    clear hP1 hK1 hD1 hvm ht hS; try clear t
    try clear H
    revert hS1
    intro hS
    generalize H1 = H at hP hS ⊢; try clear H1
    replace hP : va_P (dC, dI) vwCl [(qo, .inl (ko, 1, .inr (.inl fo))), (n0, .inr (15, fs_12))] H := hP
    replace hD : va_D A [(qo, .inl (ko, 1, .inr (.inl fo))), (n0, .inr (15, fs_12))] := hD
    replace hK : va_K (dC, dI) vwCl [(ko, .long)] s := hK
    have hw_14 : True := hw; clear hw
    refine lv_istore (lv' := [(6, .int r_11), (5, .int 2), (4, .int 0), (3, .ref qo), (2, .ref n0), (1, .ref c0), (0, .ref b)]) hx hb dL_law_1878 hl (by decide) rfl (fun ls hl => ?_)
    refine lv_aload_n hx hb dL_law_1880 rfl (lv_at hl 4 rfl) ?_
    have hPc := hP.sub (ws' := [(n0, .inr (15, fs_12))]) [1] rfl
    have hDc := hD.sub (ws' := [(n0, .inr (15, fs_12))]) [1] (by decide) rfl
    have hKc := hK.sub (tys' := []) [] rfl
    have hFc := va_free (wc := [(n0, .inr (15, fs_12))]) hD hS hA [1] rfl
    refine va_calli (va_runV (As := []) (rest := []) ⟨hx, hb, hml, hown, hts⟩ (c_m_thrown l dC dI n0 2 fs_12 (mF.sub hp_13 [0] rfl) H.size) (cwV 0 hts g_law_wv_m_thrown_117 rfl rfl rfl hv_X15_thrown ⟨Nat.le_of_ble_eq_true rfl, Nat.le_of_ble_eq_true rfl⟩) ⟨fun a U g mk q => by obtain ⟨q0, q1, qP, qK, qD, qE0⟩ := q; exact ⟨q0, q1, qP, va_K.moved (u := U) (U := U.calling g mk a) (Vm.Alike.refl U.vm) qK, qD, w_N.same rfl qE0⟩, va_recv hKc hPc (ci := 15) (q0 := 0) rfl rfl, fun U hU hW => ⟨rfl, by rw [hU], by rw [hU]; exact hPc, va_K.moved hW.alike hKc, hDc.weaken (fun _ _ _ _ => trivial), w_N.warm hW hN⟩⟩ rfl rfl hl.1 rfl (lv_room (Nat.le_of_ble_eq_true rfl)) dL_law_1881 ⟨(Nat.le_of_ble_eq_true rfl), (Nat.le_of_ble_eq_true rfl)⟩) hS (fun q _ h => hFc q h) hFc (fun r_15 u t H1 locs1 ht hvm hw hB hz1 hk1 hS1 => ?_)
    obtain ⟨hP1, hK1, hD1⟩ := hB
    rw [ht] at hP1
    have hK1 := va_K.moved hvm.symm hK1
    have hJ := va_join (wr := [(qo, .inl (ko, 1, .inr (.inl fo)))]) (w1 := []) hP hD [1] [0] rfl rfl (by decide) (by decide) hk1 hFc hP1 hD1
    clear hP hD hPc hDc hKc hFc hz1; try clear hk1
    obtain ⟨hP, hD⟩ := hJ
    replace hK := (hK.sub (tys' := [(ko, .long)]) [0] rfl).app (hK1.sub (tys' := []) [] rfl)
    clear hP1 hK1 hD1 hvm ht hS; try clear t
    try clear H
    revert hS1
    intro hS
    generalize H1 = H at hP hS ⊢; try clear H1
    replace hP : va_P (dC, dI) vwCl [(qo, .inl (ko, 1, .inr (.inl fo)))] H := hP
    replace hD : va_D A [(qo, .inl (ko, 1, .inr (.inl fo)))] := hD
    replace hK : va_K (dC, dI) vwCl [(ko, .long)] s := hK
    have hw_16 : r_15 = 2 := hw; clear hw
    subst hw_16
    refine lv_iload hx hb dL_law_1884 (lv_at hl 1 rfl) ?_
    refine lv_icmp_eq (tgt := 1891) hx hb dL_law_1886 (by decide) (fun _ => ?_) (fun hc => absurd (by decide) hc)
    refine lv_iload hx hb dL_law_1891 (lv_at hl 1 rfl) ?_
    refine lv_if_ne (tgt := 1908) hx hb dL_law_1893 (by decide) (fun _ => ?_) (fun hc => absurd hc (by decide))
    refine lv_goto (tgt := 2018) hx hb dL_law_1908 (by decide) ?_
    exact law_tail C0 hA2 hbA hS (lv_sub hl [2, 6] rfl) (Nat.le_of_ble_eq_true rfl) (Nat.le_of_ble_eq_true rfl)
set_option maxHeartbeats 4000000 in
set_option maxRecDepth 100000 in
/-- the law at a call of lines on fresh objects -/
theorem law_case_lines {p : Program} {l : Launch} (hlt : l.stackTraces = false) {e : Env} {s : State} {m : MethodId} {below : List Frame} {meth : Method} {c : Code} {b : Nat} {xs : Nat → Int32} (C0 : lw_At p s m meth c b 6 xs) {dC : Nat → ClassId} {dI : Nat → Nat → Nat} {A : Nat → Prop} (hA : ∀ q : Nat, s.heap.size ≤ q → A q) (hA2 : ∀ q : Nat, A q → s.heap.size ≤ q) (hbA : ¬ A b) (hN : w_N s) (hT : w_T A s s.heap) (hSt : w_S A s s.heap) (hC : w_C A s s.heap) {H : Heap} {locs : List Loc} {ls : Array Slot} {c0 : Nat} {n0 : Nat} {qC : Nat} {qo : Nat} {fs_qC : List Value} {ko : Nat} {fo : Nat → Int64} {qfed : Nat} {qf : Nat} {qfd : Nat} {qs : Nat} {qk : Nat} {fs_c0 : List Value} {fs_n0 : List Value} (hP : va_P (dC, dI) vwCl [(c0, .inr (11, fs_c0)), (qC, .inr (2, fs_qC)), (qo, .inl (ko, 1, .inr (.inl fo))), (n0, .inr (15, fs_n0))] H) (hD : va_D A [(c0, .inr (11, fs_c0)), (qC, .inr (2, fs_qC)), (qo, .inl (ko, 1, .inr (.inl fo))), (n0, .inr (15, fs_n0))]) (hK : va_K (dC, dI) vwCl [(ko, .long)] s) (hS : va_S A s.heap H locs) (hl : lv_has ls 8 [(4, .int 0), (3, .ref qo), (2, .ref n0), (1, .ref c0), (0, .ref b)]) (hF_c0 : mF 19 [(7, .ref qC)] fs_c0) (hF_qC : mF 13 [(8, .int 0)] fs_qC) (hF_n0 : mF 89 [(0, .int 0), (18, .int 0), (19, .int 0), (20, .int (-1)), (21, .int 0), (22, .int 0), (23, .int 0), (24, .int 0), (25, .int 0), (27, .int 0), (28, .int 0), (29, .int 0), (35, .int 0), (17, .int (-1)), (26, .ref qfed), (30, .ref qf), (31, .ref qfd), (33, .ref qs), (36, .ref qk)] fs_n0) : W p l e room_1 s m #[Value.ref b] below meth c H locs 15894 3343160 (lw_Z below #[Value.ref b] s) (F0 m 1911 ls []) := by
  have hx := C0.1; have hb := C0.2.1; have hml := C0.2.2.2.1; have hown := C0.2.2.2.2.1; have hts := C0.2.2.2.2.2.1; have hX := C0.2.2.2.2.2.2.1; have hbl := C0.2.2.2.2.2.2.2.1; have hlocks := C0.2.2.2.2.2.2.2.2.1
  refine lv_aload_n hx hb dL_law_1911 rfl (lv_at hl 3 rfl) ?_
  refine lv_aload_n hx hb dL_law_1912 rfl (lv_at hl 4 rfl) ?_
  refine lv_iload hx hb dL_law_1913 (lv_at hl 0 rfl) ?_
  refine lv_iconst (v := 1) hx hb dL_law_1915 (by decide) ?_
  refine lv_iadd hx hb dL_law_1916 ?_
  refine lv_topi (fun v_1 ev_1 => ?_)
  have ev_1 : v_1 = 1 := ev_1.trans (by decide)
  subst ev_1
  refine va_sld hx hb hX hbl hbA hS (by exact fun h => by rcases h with h | h <;> revert h <;> decide) dL_law_1917 ?_
  refine lv_topi (fun v_2 ev_2 => ?_)
  have ev_2 : v_2 = xs 1 := ev_2
  subst ev_2
  refine lv_aload_n hx hb dL_law_1918 rfl (lv_at hl 1 rfl) ?_
  have hPc := hP.sub (ws' := [(c0, .inr (11, fs_c0)), (qC, .inr (2, fs_qC))]) [0, 1] rfl
  have hDc := hD.sub (ws' := [(c0, .inr (11, fs_c0)), (qC, .inr (2, fs_qC))]) [0, 1] (by decide) rfl
  have hKc := hK.sub (tys' := []) [] rfl
  have hFc := va_free (wc := [(c0, .inr (11, fs_c0)), (qC, .inr (2, fs_qC))]) hD hS hA [0, 1] rfl
  refine vx_calli (vx_runSX (As := [.ref c0, .int (xs 1), .ref qo]) (rest := []) ⟨hx, hb, hml, hown, hts⟩ (c_l_lines l hlt dC dI c0 qC qo ((xs 1)) fs_c0 fs_qC (mF.sub hF_c0 [0] rfl) (mF.sub hF_qC [0] rfl) H.size) (vx_cwSW 3 hts g_law_wv_l_lines_201 rfl rfl rfl hd_L_lines ⟨Nat.le_of_ble_eq_true rfl, Nat.le_of_ble_eq_true rfl⟩) ⟨fun a U g mk q => by obtain ⟨q0, q1, qP, qK, qD, qE0, qE1, qE2⟩ := q; exact ⟨q0, q1, qP, va_K.moved (u := U) (U := U.calling g mk a) (Vm.Alike.refl U.vm) qK, qD, w_N.same rfl qE0, w_T.same rfl rfl qE1, w_C.same rfl rfl qE2⟩, fun U hU hW => ⟨rfl, by rw [hU], by rw [hU]; exact hPc, va_K.moved hW.alike hKc, hDc.weaken (fun _ _ _ _ => trivial), w_N.warm hW hN, w_T.go hT hW hS.2.1 hFc hU, w_C.go hC hW hS.2.1 hFc hU⟩⟩ rfl rfl hl.1 rfl (lv_room (Nat.le_of_ble_eq_true rfl)) dL_law_1919 ⟨(Nat.le_of_ble_eq_true rfl), (Nat.le_of_ble_eq_true rfl)⟩) hS (fun q _ h => hFc q h) hFc (fun q _ h => hFc q h) (fun E9 ce9 q9 u t H1 locs1 ht hvm hpx hBX hz1 hk1 hS1 hcell9 hv9 hcl9 => ?_) (fun r_3 u t H1 locs1 ht hvm hw hB hz1 hk1 hS1 => ?_)
  · skip
    exact (hpx : False).elim
  · skip
    obtain ⟨hP1, hK1, hD1⟩ := hB
    rw [ht] at hP1
    have hK1 := va_K.moved hvm.symm hK1
    have hJ := va_join (wr := [(qo, .inl (ko, 1, .inr (.inl fo))), (n0, .inr (15, fs_n0))]) (w1 := []) hP hD [0, 1] [2, 3] rfl rfl (by decide) (by decide) hk1 hFc hP1 hD1
    clear hP hD hPc hDc hKc hFc hz1; try clear hk1
    obtain ⟨hP, hD⟩ := hJ
    replace hK := (hK.sub (tys' := [(ko, .long)]) [0] rfl).app (hK1.sub (tys' := []) [] rfl)
    clear hP1 hK1 hD1 hvm ht hS; try clear t
    try clear H
    revert hS1
    intro hS
    generalize H1 = H at hP hS ⊢; try clear H1
    replace hP : va_P (dC, dI) vwCl [(qo, .inl (ko, 1, .inr (.inl fo))), (n0, .inr (15, fs_n0))] H := hP
    replace hD : va_D A [(qo, .inl (ko, 1, .inr (.inl fo))), (n0, .inr (15, fs_n0))] := hD
    replace hK : va_K (dC, dI) vwCl [(ko, .long)] s := hK
    have hw_4 : r_3 = 2 := hw; clear hw
    subst hw_4
    refine lv_istore (lv' := [(5, .int 2), (4, .int 0), (3, .ref qo), (2, .ref n0), (1, .ref c0), (0, .ref b)]) hx hb dL_law_1922 hl (by decide) rfl (fun ls hl => ?_)
    refine lv_aload_n hx hb dL_law_1924 rfl (lv_at hl 3 rfl) ?_
    refine lv_aload_n hx hb dL_law_1925 rfl (lv_at hl 5 rfl) ?_
    refine lv_iload hx hb dL_law_1926 (lv_at hl 1 rfl) ?_
    refine lv_iconst (v := 1) hx hb dL_law_1928 (by decide) ?_
    refine lv_iadd hx hb dL_law_1929 ?_
    refine lv_topi (fun v_5 ev_5 => ?_)
    have ev_5 : v_5 = 1 := ev_5.trans (by decide)
    subst ev_5
    refine va_sld hx hb hX hbl hbA hS (by exact fun h => by rcases h with h | h <;> revert h <;> decide) dL_law_1930 ?_
    refine lv_topi (fun v_6 ev_6 => ?_)
    have ev_6 : v_6 = xs 1 := ev_6
    subst ev_6
    have hPc := hP.sub (ws' := [(n0, .inr (15, fs_n0))]) [1] rfl
    have hDc := hD.sub (ws' := [(n0, .inr (15, fs_n0))]) [1] (by decide) rfl
    have hKc := hK.sub (tys' := []) [] rfl
    have hFc := va_free (wc := [(n0, .inr (15, fs_n0))]) hD hS hA [1] rfl
    refine va_calli (va_runV (As := [.int (xs 1)]) (rest := []) ⟨hx, hb, hml, hown, hts⟩ (c_m_lines l dC dI n0 qfed qf qfd qs qk ((xs 1)) fs_n0 (mF.sub hF_n0 [0, 1, 2, 3, 4, 5, 6, 7, 8, 9, 10, 11, 12, 13, 14, 15, 16, 17, 18] rfl) H.size) (cwV 1 hts g_law_wv_m_lines_203 rfl rfl rfl hv_X15_lines ⟨Nat.le_of_ble_eq_true rfl, Nat.le_of_ble_eq_true rfl⟩) ⟨fun a U g mk q => by obtain ⟨q0, q1, qP, qK, qD, qE0⟩ := q; exact ⟨q0, q1, qP, va_K.moved (u := U) (U := U.calling g mk a) (Vm.Alike.refl U.vm) qK, qD, w_N.same rfl qE0⟩, va_recv hKc hPc (ci := 15) (q0 := 0) rfl rfl, fun U hU hW => ⟨rfl, by rw [hU], by rw [hU]; exact hPc, va_K.moved hW.alike hKc, hDc.weaken (fun _ _ _ _ => trivial), w_N.warm hW hN⟩⟩ rfl rfl hl.1 rfl (lv_room (Nat.le_of_ble_eq_true rfl)) dL_law_1931 ⟨(Nat.le_of_ble_eq_true rfl), (Nat.le_of_ble_eq_true rfl)⟩) hS (fun q _ h => hFc q h) hFc (fun r_7 u t H1 locs1 ht hvm hw hB hz1 hk1 hS1 => ?_)
    obtain ⟨fs_8, hP1, hK1, hD1, hp_9⟩ := hB
    rw [ht] at hP1
    have hK1 := va_K.moved hvm.symm hK1
    have hJ := va_join (wr := [(qo, .inl (ko, 1, .inr (.inl fo)))]) (w1 := [(n0, .inr (15, fs_8))]) hP hD [1] [0] rfl rfl (by decide) (by decide) hk1 hFc hP1 hD1
    clear hP hD hPc hDc hKc hFc hz1; try clear hk1
    obtain ⟨hP, hD⟩ := hJ
    replace hK := (hK.sub (tys' := [(ko, .long)]) [0] rfl).app (hK1.sub (tys' := []) [] rfl)
    clear hP1 hK1 hD1 hvm ht hS; try clear t
    try clear H
    revert hS1
    intro hS
    generalize H1 = H at hP hS ⊢; try clear H1
    replace hP : va_P (dC, dI) vwCl [(qo, .inl (ko, 1, .inr (.inl fo))), (n0, .inr (15, fs_8))] H := hP
    replace hD : va_D A [(qo, .inl (ko, 1, .inr (.inl fo))), (n0, .inr (15, fs_8))] := hD
    replace hK : va_K (dC, dI) vwCl [(ko, .long)] s := hK
    have hw_10 : True := hw; clear hw
    refine lv_istore (lv' := [(6, .int r_7), (5, .int 2), (4, .int 0), (3, .ref qo), (2, .ref n0), (1, .ref c0), (0, .ref b)]) hx hb dL_law_1934 hl (by decide) rfl (fun ls hl => ?_)
    refine lv_aload_n hx hb dL_law_1936 rfl (lv_at hl 4 rfl) ?_
    have hPc := hP.sub (ws' := [(n0, .inr (15, fs_8))]) [1] rfl
    have hDc := hD.sub (ws' := [(n0, .inr (15, fs_8))]) [1] (by decide) rfl
    have hKc := hK.sub (tys' := []) [] rfl
    have hFc := va_free (wc := [(n0, .inr (15, fs_8))]) hD hS hA [1] rfl
    refine va_calli (va_runV (As := []) (rest := []) ⟨hx, hb, hml, hown, hts⟩ (c_m_thrown l dC dI n0 2 fs_8 (mF.sub hp_9 [0] rfl) H.size) (cwV 0 hts g_law_wv_m_thrown_117 rfl rfl rfl hv_X15_thrown ⟨Nat.le_of_ble_eq_true rfl, Nat.le_of_ble_eq_true rfl⟩) ⟨fun a U g mk q => by obtain ⟨q0, q1, qP, qK, qD, qE0⟩ := q; exact ⟨q0, q1, qP, va_K.moved (u := U) (U := U.calling g mk a) (Vm.Alike.refl U.vm) qK, qD, w_N.same rfl qE0⟩, va_recv hKc hPc (ci := 15) (q0 := 0) rfl rfl, fun U hU hW => ⟨rfl, by rw [hU], by rw [hU]; exact hPc, va_K.moved hW.alike hKc, hDc.weaken (fun _ _ _ _ => trivial), w_N.warm hW hN⟩⟩ rfl rfl hl.1 rfl (lv_room (Nat.le_of_ble_eq_true rfl)) dL_law_1937 ⟨(Nat.le_of_ble_eq_true rfl), (Nat.le_of_ble_eq_true rfl)⟩) hS (fun q _ h => hFc q h) hFc (fun r_11 u t H1 locs1 ht hvm hw hB hz1 hk1 hS1 => ?_)
    obtain ⟨hP1, hK1, hD1⟩ := hB
    rw [ht] at hP1
    have hK1 := va_K.moved hvm.symm hK1
    have hJ := va_join (wr := [(qo, .inl (ko, 1, .inr (.inl fo)))]) (w1 := []) hP hD [1] [0] rfl rfl (by decide) (by decide) hk1 hFc hP1 hD1
    clear hP hD hPc hDc hKc hFc hz1; try clear hk1
    obtain ⟨hP, hD⟩ := hJ
    replace hK := (hK.sub (tys' := [(ko, .long)]) [0] rfl).app (hK1.sub (tys' := []) [] rfl)
    clear hP1 hK1 hD1 hvm ht hS; try clear t
    try clear H
    revert hS1
    intro hS
    generalize H1 = H at hP hS ⊢; try clear H1
    replace hP : va_P (dC, dI) vwCl [(qo, .inl (ko, 1, .inr (.inl fo)))] H := hP
    replace hD : va_D A [(qo, .inl (ko, 1, .inr (.inl fo)))] := hD
    replace hK : va_K (dC, dI) vwCl [(ko, .long)] s := hK
    have hw_12 : r_11 = 2 := hw; clear hw
    subst hw_12
    refine lv_iload hx hb dL_law_1940 (lv_at hl 1 rfl) ?_
    refine lv_icmp_eq (tgt := 1947) hx hb dL_law_1942 (by decide) (fun _ => ?_) (fun hc => absurd (by decide) hc)
    refine lv_iload hx hb dL_law_1947 (lv_at hl 1 rfl) ?_
    refine lv_if_ne (tgt := 1964) hx hb dL_law_1949 (by decide) (fun _ => ?_) (fun hc => absurd hc (by decide))
    refine lv_goto (tgt := 2018) hx hb dL_law_1964 (by decide) ?_
    exact law_tail C0 hA2 hbA hS (lv_sub hl [2, 6] rfl) (Nat.le_of_ble_eq_true rfl) (Nat.le_of_ble_eq_true rfl)
set_option maxHeartbeats 4000000 in
set_option maxRecDepth 100000 in
/-- the law at a call of image on fresh objects -/
theorem law_case_image {p : Program} {l : Launch} (hlt : l.stackTraces = false) {e : Env} {s : State} {m : MethodId} {below : List Frame} {meth : Method} {c : Code} {b : Nat} {xs : Nat → Int32} (C0 : lw_At p s m meth c b 6 xs) {dC : Nat → ClassId} {dI : Nat → Nat → Nat} {A : Nat → Prop} (hA : ∀ q : Nat, s.heap.size ≤ q → A q) (hA2 : ∀ q : Nat, A q → s.heap.size ≤ q) (hbA : ¬ A b) (hN : w_N s) (hT : w_T A s s.heap) (hSt : w_S A s s.heap) (hC : w_C A s s.heap) {H : Heap} {locs : List Loc} {ls : Array Slot} {c0 : Nat} {n0 : Nat} {qMK : Nat} {qGK : Nat} {qM : Nat} {qG : Nat} {km : Nat} {kg : Nat} {m0a : Nat} {m0b : Nat} {g0a : Nat} {g0b : Nat} {qMa : Nat} {qMb : Nat} {k3a : Nat} {k3b : Nat} {qGa : Nat} {qGb : Nat} {k4a : Nat} {k4b : Nat} {fm : Nat → Option Nat} {fg : Nat → Option Nat} {m0 : Nat} {g0 : Nat} {fs_m0 : List Value} {fs_g0 : List Value} {fs_qM : List Value} {fs_qG : List Value} {qo : Nat} {ko : Nat} {fo : Nat → Int64} {qfed : Nat} {qf : Nat} {qfd : Nat} {qs : Nat} {qk : Nat} {kf : Nat} {kk : Nat} {qk0 : Nat} {ki : Nat} {d0 : Nat} {d1 : Nat} {d2 : Nat} {e0 : Nat} {e1 : Nat} {e2 : Nat} {e3 : Nat} {ff : Nat → Option Nat} {fk : Nat → Option Nat} {fi : Nat → Option Nat} {fs_d0 : List Value} {fs_d1 : List Value} {fs_d2 : List Value} {fs_qs : List Value} {fs_e0 : List Value} {fs_e1 : List Value} {fs_e2 : List Value} {fs_e3 : List Value} {fs_c0 : List Value} {fs_n0 : List Value} (hP : va_P (dC, dI) vwCl [(c0, .inr (11, fs_c0)), (qMK, .inl (km, 3, .inr (.inr (.inr (.inr fm))))), (qGK, .inl (kg, 3, .inr (.inr (.inr (.inr fg))))), (m0, .inr (6, fs_m0)), (g0, .inr (6, fs_g0)), (qM, .inr (6, fs_qM)), (qMa, .inl (k3a, 16, .inr (.inl (fun _ => 0)))), (qMb, .inl (k3b, 16, .inr (.inl (fun _ => 0)))), (qG, .inr (6, fs_qG)), (qGa, .inl (k4a, 16, .inr (.inl (fun _ => 0)))), (qGb, .inl (k4b, 16, .inr (.inl (fun _ => 0)))), (qo, .inl (ko, 1, .inr (.inl fo))), (n0, .inr (15, fs_n0)), (qfd, .inl (kf, 3, .inr (.inr (.inr (.inr ff))))), (qk, .inl (kk, 3, .inr (.inr (.inr (.inr fk))))), (qk0, .inl (ki, 4, .inr (.inr (.inr (.inr fi))))), (d0, .inr (13, fs_d0)), (d1, .inr (13, fs_d1)), (d2, .inr (13, fs_d2)), (qs, .inr (13, fs_qs)), (e0, .inr (13, fs_e0)), (e1, .inr (13, fs_e1)), (e2, .inr (13, fs_e2)), (e3, .inr (13, fs_e3))] H) (hD : va_D A [(c0, .inr (11, fs_c0)), (qMK, .inl (km, 3, .inr (.inr (.inr (.inr fm))))), (qGK, .inl (kg, 3, .inr (.inr (.inr (.inr fg))))), (m0, .inr (6, fs_m0)), (g0, .inr (6, fs_g0)), (qM, .inr (6, fs_qM)), (qMa, .inl (k3a, 16, .inr (.inl (fun _ => 0)))), (qMb, .inl (k3b, 16, .inr (.inl (fun _ => 0)))), (qG, .inr (6, fs_qG)), (qGa, .inl (k4a, 16, .inr (.inl (fun _ => 0)))), (qGb, .inl (k4b, 16, .inr (.inl (fun _ => 0)))), (qo, .inl (ko, 1, .inr (.inl fo))), (n0, .inr (15, fs_n0)), (qfd, .inl (kf, 3, .inr (.inr (.inr (.inr ff))))), (qk, .inl (kk, 3, .inr (.inr (.inr (.inr fk))))), (qk0, .inl (ki, 4, .inr (.inr (.inr (.inr fi))))), (d0, .inr (13, fs_d0)), (d1, .inr (13, fs_d1)), (d2, .inr (13, fs_d2)), (qs, .inr (13, fs_qs)), (e0, .inr (13, fs_e0)), (e1, .inr (13, fs_e1)), (e2, .inr (13, fs_e2)), (e3, .inr (13, fs_e3))]) (hK : va_K (dC, dI) vwCl [(km, .object RX6), (kg, .object RX6), (k3a, .long), (k3b, .long), (k4a, .long), (k4b, .long), (ko, .long), (kf, .object RX13), (kk, .array (.object RX13)), (ki, .object RX13)] s) (hS : va_S A s.heap H locs) (hl : lv_has ls 8 [(4, .int 0), (3, .ref qo), (2, .ref n0), (1, .ref c0), (0, .ref b)]) (hF_c0 : mF 19 [(16, .int 0), (14, .ref qMK), (15, .ref qGK), (12, .ref qM), (13, .ref qG)] fs_c0) (hF_m0 : mF 3 [(0, .ref m0a), (1, .ref m0b), (2, .int 0)] fs_m0) (hF_g0 : mF 3 [(0, .ref g0a), (1, .ref g0b), (2, .int 0)] fs_g0) (hF_qM : mF 3 [(0, .ref qMa), (1, .ref qMb), (2, .int 0)] fs_qM) (hF_qG : mF 3 [(0, .ref qGa), (1, .ref qGb), (2, .int 0)] fs_qG) (hF_n0 : mF 89 [(0, .int 0), (18, .int 0), (19, .int 0), (20, .int (-1)), (21, .int 0), (22, .int 0), (23, .int 0), (24, .int 0), (25, .int 0), (27, .int 0), (28, .int 0), (29, .int 0), (35, .int 0), (17, .int (-1)), (26, .ref qfed), (30, .ref qf), (31, .ref qfd), (33, .ref qs), (36, .ref qk)] fs_n0) (hF_d0 : mF 5 [(4, .int 0)] fs_d0) (hF_d1 : mF 5 [(4, .int 0)] fs_d1) (hF_d2 : mF 5 [(4, .int 0)] fs_d2) (hF_qs : mF 5 [(4, .int 0)] fs_qs) (hF_e0 : mF 5 [(4, .int 0)] fs_e0) (hF_e1 : mF 5 [(4, .int 0)] fs_e1) (hF_e2 : mF 5 [(4, .int 0)] fs_e2) (hF_e3 : mF 5 [(4, .int 0)] fs_e3) (hfm : fm 0 = some m0) (hfg : fg 0 = some g0) (hd0 : ff 0 = some d0) (hd1 : ff 1 = some d1) (hd2 : ff 2 = some d2) (hk0 : fk 0 = some qk0) (hi0 : fi 0 = some e0) (hi1 : fi 1 = some e1) (hi2 : fi 2 = some e2) (hi3 : fi 3 = some e3) : W p l e room_1 s m #[Value.ref b] below meth c H locs 15894 3343160 (lw_Z below #[Value.ref b] s) (F0 m 1967 ls []) := by
  have hx := C0.1; have hb := C0.2.1; have hml := C0.2.2.2.1; have hown := C0.2.2.2.2.1; have hts := C0.2.2.2.2.2.1; have hX := C0.2.2.2.2.2.2.1; have hbl := C0.2.2.2.2.2.2.2.1; have hlocks := C0.2.2.2.2.2.2.2.2.1
  refine lv_aload_n hx hb dL_law_1967 rfl (lv_at hl 3 rfl) ?_
  have hPc := hP.sub (ws' := [(c0, .inr (11, fs_c0)), (qMK, .inl (km, 3, .inr (.inr (.inr (.inr fm))))), (qGK, .inl (kg, 3, .inr (.inr (.inr (.inr fg))))), (m0, .inr (6, fs_m0)), (g0, .inr (6, fs_g0)), (qM, .inr (6, fs_qM)), (qMa, .inl (k3a, 16, .inr (.inl (fun _ => 0)))), (qMb, .inl (k3b, 16, .inr (.inl (fun _ => 0)))), (qG, .inr (6, fs_qG)), (qGa, .inl (k4a, 16, .inr (.inl (fun _ => 0)))), (qGb, .inl (k4b, 16, .inr (.inl (fun _ => 0))))]) [0, 1, 2, 3, 4, 5, 6, 7, 8, 9, 10] rfl
  have hDc := hD.sub (ws' := [(c0, .inr (11, fs_c0)), (qMK, .inl (km, 3, .inr (.inr (.inr (.inr fm))))), (qGK, .inl (kg, 3, .inr (.inr (.inr (.inr fg))))), (m0, .inr (6, fs_m0)), (g0, .inr (6, fs_g0)), (qM, .inr (6, fs_qM)), (qMa, .inl (k3a, 16, .inr (.inl (fun _ => 0)))), (qMb, .inl (k3b, 16, .inr (.inl (fun _ => 0)))), (qG, .inr (6, fs_qG)), (qGa, .inl (k4a, 16, .inr (.inl (fun _ => 0)))), (qGb, .inl (k4b, 16, .inr (.inl (fun _ => 0))))]) [0, 1, 2, 3, 4, 5, 6, 7, 8, 9, 10] (by decide) rfl
  have hKc := hK.sub (tys' := [(km, .object RX6), (kg, .object RX6), (k3a, .long), (k3b, .long), (k4a, .long), (k4b, .long)]) [0, 1, 2, 3, 4, 5] rfl
  have hFc := va_free (wc := [(c0, .inr (11, fs_c0)), (qMK, .inl (km, 3, .inr (.inr (.inr (.inr fm))))), (qGK, .inl (kg, 3, .inr (.inr (.inr (.inr fg))))), (m0, .inr (6, fs_m0)), (g0, .inr (6, fs_g0)), (qM, .inr (6, fs_qM)), (qMa, .inl (k3a, 16, .inr (.inl (fun _ => 0)))), (qMb, .inl (k3b, 16, .inr (.inl (fun _ => 0)))), (qG, .inr (6, fs_qG)), (qGa, .inl (k4a, 16, .inr (.inl (fun _ => 0)))), (qGb, .inl (k4b, 16, .inr (.inl (fun _ => 0))))]) hD hS hA [0, 1, 2, 3, 4, 5, 6, 7, 8, 9, 10] rfl
  refine va_calli (va_runV (As := []) (rest := []) ⟨hx, hb, hml, hown, hts⟩ (c_f_image l dC dI c0 qMK qGK qM qG km kg m0a m0b g0a g0b qMa qMb k3a k3b qGa qGb k4a k4b fm fg m0 g0 fs_c0 fs_m0 fs_g0 fs_qM fs_qG (mF.sub hF_c0 [0, 1, 2, 3, 4] rfl) (mF.sub hF_m0 [0, 1, 2] rfl) (mF.sub hF_g0 [0, 1, 2] rfl) (mF.sub hF_qM [0, 1, 2] rfl) (mF.sub hF_qG [0, 1, 2] rfl) hfm hfg H.size) (cwV 0 hts g_law_wv_f_image_204 rfl rfl rfl hv_X11_image ⟨Nat.le_of_ble_eq_true rfl, Nat.le_of_ble_eq_true rfl⟩) ⟨fun a U g mk q => by obtain ⟨q0, q1, qP, qK, qD, qE0⟩ := q; exact ⟨q0, q1, qP, va_K.moved (u := U) (U := U.calling g mk a) (Vm.Alike.refl U.vm) qK, qD, w_N.same rfl qE0⟩, va_recv hKc hPc (ci := 11) (q0 := 0) rfl rfl, fun U hU hW => ⟨rfl, by rw [hU], by rw [hU]; exact hPc, va_K.moved hW.alike hKc, hDc.weaken (fun _ _ _ _ => trivial), w_N.warm hW hN⟩⟩ rfl rfl hl.1 rfl (lv_room (Nat.le_of_ble_eq_true rfl)) dL_law_1968 ⟨(Nat.le_of_ble_eq_true rfl), (Nat.le_of_ble_eq_true rfl)⟩) hS (fun q _ h => hFc q h) hFc (fun r_1 u t H1 locs1 ht hvm hw hB hz1 hk1 hS1 => ?_)
  obtain ⟨hP1, hK1, hD1⟩ := hB
  rw [ht] at hP1
  have hK1 := va_K.moved hvm.symm hK1
  have hJ := va_join (wr := [(qo, .inl (ko, 1, .inr (.inl fo))), (n0, .inr (15, fs_n0)), (qfd, .inl (kf, 3, .inr (.inr (.inr (.inr ff))))), (qk, .inl (kk, 3, .inr (.inr (.inr (.inr fk))))), (qk0, .inl (ki, 4, .inr (.inr (.inr (.inr fi))))), (d0, .inr (13, fs_d0)), (d1, .inr (13, fs_d1)), (d2, .inr (13, fs_d2)), (qs, .inr (13, fs_qs)), (e0, .inr (13, fs_e0)), (e1, .inr (13, fs_e1)), (e2, .inr (13, fs_e2)), (e3, .inr (13, fs_e3))]) (w1 := []) hP hD [0, 1, 2, 3, 4, 5, 6, 7, 8, 9, 10] [11, 12, 13, 14, 15, 16, 17, 18, 19, 20, 21, 22, 23] rfl rfl (by decide) (by decide) hk1 hFc hP1 hD1
  clear hP hD hPc hDc hKc hFc hz1; try clear hk1
  obtain ⟨hP, hD⟩ := hJ
  replace hK := (hK.sub (tys' := [(km, .object RX6), (kg, .object RX6), (k3a, .long), (k3b, .long), (k4a, .long), (k4b, .long), (ko, .long), (kf, .object RX13), (kk, .array (.object RX13)), (ki, .object RX13)]) [0, 1, 2, 3, 4, 5, 6, 7, 8, 9] rfl).app (hK1.sub (tys' := []) [] rfl)
  clear hP1 hK1 hD1 hvm ht hS; try clear t
  try clear H
  revert hS1
  intro hS
  generalize H1 = H at hP hS ⊢; try clear H1
  replace hP : va_P (dC, dI) vwCl [(qo, .inl (ko, 1, .inr (.inl fo))), (n0, .inr (15, fs_n0)), (qfd, .inl (kf, 3, .inr (.inr (.inr (.inr ff))))), (qk, .inl (kk, 3, .inr (.inr (.inr (.inr fk))))), (qk0, .inl (ki, 4, .inr (.inr (.inr (.inr fi))))), (d0, .inr (13, fs_d0)), (d1, .inr (13, fs_d1)), (d2, .inr (13, fs_d2)), (qs, .inr (13, fs_qs)), (e0, .inr (13, fs_e0)), (e1, .inr (13, fs_e1)), (e2, .inr (13, fs_e2)), (e3, .inr (13, fs_e3))] H := hP
  replace hD : va_D A [(qo, .inl (ko, 1, .inr (.inl fo))), (n0, .inr (15, fs_n0)), (qfd, .inl (kf, 3, .inr (.inr (.inr (.inr ff))))), (qk, .inl (kk, 3, .inr (.inr (.inr (.inr fk))))), (qk0, .inl (ki, 4, .inr (.inr (.inr (.inr fi))))), (d0, .inr (13, fs_d0)), (d1, .inr (13, fs_d1)), (d2, .inr (13, fs_d2)), (qs, .inr (13, fs_qs)), (e0, .inr (13, fs_e0)), (e1, .inr (13, fs_e1)), (e2, .inr (13, fs_e2)), (e3, .inr (13, fs_e3))] := hD
  replace hK : va_K (dC, dI) vwCl [(km, .object RX6), (kg, .object RX6), (k3a, .long), (k3b, .long), (k4a, .long), (k4b, .long), (ko, .long), (kf, .object RX13), (kk, .array (.object RX13)), (ki, .object RX13)] s := hK
  have hw_2 : r_1 = 1 := hw; clear hw
  subst hw_2
  refine lv_aload_n hx hb dL_law_1971 rfl (lv_at hl 2 rfl) ?_
  have hPc := hP.sub (ws' := [(n0, .inr (15, fs_n0)), (qfd, .inl (kf, 3, .inr (.inr (.inr (.inr ff))))), (qk, .inl (kk, 3, .inr (.inr (.inr (.inr fk))))), (qk0, .inl (ki, 4, .inr (.inr (.inr (.inr fi))))), (d0, .inr (13, fs_d0)), (d1, .inr (13, fs_d1)), (d2, .inr (13, fs_d2)), (qs, .inr (13, fs_qs)), (e0, .inr (13, fs_e0)), (e1, .inr (13, fs_e1)), (e2, .inr (13, fs_e2)), (e3, .inr (13, fs_e3))]) [1, 2, 3, 4, 5, 6, 7, 8, 9, 10, 11, 12] rfl
  have hDc := hD.sub (ws' := [(n0, .inr (15, fs_n0)), (qfd, .inl (kf, 3, .inr (.inr (.inr (.inr ff))))), (qk, .inl (kk, 3, .inr (.inr (.inr (.inr fk))))), (qk0, .inl (ki, 4, .inr (.inr (.inr (.inr fi))))), (d0, .inr (13, fs_d0)), (d1, .inr (13, fs_d1)), (d2, .inr (13, fs_d2)), (qs, .inr (13, fs_qs)), (e0, .inr (13, fs_e0)), (e1, .inr (13, fs_e1)), (e2, .inr (13, fs_e2)), (e3, .inr (13, fs_e3))]) [1, 2, 3, 4, 5, 6, 7, 8, 9, 10, 11, 12] (by decide) rfl
  have hKc := hK.sub (tys' := [(kf, .object RX13), (kk, .array (.object RX13)), (ki, .object RX13)]) [7, 8, 9] rfl
  have hFc := va_free (wc := [(n0, .inr (15, fs_n0)), (qfd, .inl (kf, 3, .inr (.inr (.inr (.inr ff))))), (qk, .inl (kk, 3, .inr (.inr (.inr (.inr fk))))), (qk0, .inl (ki, 4, .inr (.inr (.inr (.inr fi))))), (d0, .inr (13, fs_d0)), (d1, .inr (13, fs_d1)), (d2, .inr (13, fs_d2)), (qs, .inr (13, fs_qs)), (e0, .inr (13, fs_e0)), (e1, .inr (13, fs_e1)), (e2, .inr (13, fs_e2)), (e3, .inr (13, fs_e3))]) hD hS hA [1, 2, 3, 4, 5, 6, 7, 8, 9, 10, 11, 12] rfl
  refine va_calli (va_runV (As := []) (rest := [.int 1]) ⟨hx, hb, hml, hown, hts⟩ (c_m_image l dC dI n0 qfed qf qfd qs qk kf kk qk0 ki d0 d1 d2 e0 e1 e2 e3 ff fk fi fs_n0 fs_d0 fs_d1 fs_d2 fs_qs fs_e0 fs_e1 fs_e2 fs_e3 (mF.sub hF_n0 [0, 1, 2, 3, 4, 5, 6, 7, 8, 9, 10, 11, 12, 13, 14, 15, 16, 17, 18] rfl) (mF.sub hF_d0 [0] rfl) (mF.sub hF_d1 [0] rfl) (mF.sub hF_d2 [0] rfl) (mF.sub hF_qs [0] rfl) (mF.sub hF_e0 [0] rfl) (mF.sub hF_e1 [0] rfl) (mF.sub hF_e2 [0] rfl) (mF.sub hF_e3 [0] rfl) hd0 hd1 hd2 hk0 hi0 hi1 hi2 hi3 H.size) (cwV 0 hts g_law_wv_m_image_207 rfl rfl rfl hv_X15_image ⟨Nat.le_of_ble_eq_true rfl, Nat.le_of_ble_eq_true rfl⟩) ⟨fun a U g mk q => by obtain ⟨q0, q1, qP, qK, qD, qE0⟩ := q; exact ⟨q0, q1, qP, va_K.moved (u := U) (U := U.calling g mk a) (Vm.Alike.refl U.vm) qK, qD, w_N.same rfl qE0⟩, va_recv hKc hPc (ci := 15) (q0 := 0) rfl rfl, fun U hU hW => ⟨rfl, by rw [hU], by rw [hU]; exact hPc, va_K.moved hW.alike hKc, hDc.weaken (fun _ _ _ _ => trivial), w_N.warm hW hN⟩⟩ rfl rfl hl.1 rfl (lv_room (Nat.le_of_ble_eq_true rfl)) dL_law_1972 ⟨(Nat.le_of_ble_eq_true rfl), (Nat.le_of_ble_eq_true rfl)⟩) hS (fun q _ h => hFc q h) hFc (fun r_3 u t H1 locs1 ht hvm hw hB hz1 hk1 hS1 => ?_)
  obtain ⟨fs_4, hP1, hK1, hD1, hp_5⟩ := hB
  rw [ht] at hP1
  have hK1 := va_K.moved hvm.symm hK1
  have hJ := va_join (wr := [(qo, .inl (ko, 1, .inr (.inl fo)))]) (w1 := [(n0, .inr (15, fs_4))]) hP hD [1, 2, 3, 4, 5, 6, 7, 8, 9, 10, 11, 12] [0] rfl rfl (by decide) (by decide) hk1 hFc hP1 hD1
  clear hP hD hPc hDc hKc hFc hz1; try clear hk1
  obtain ⟨hP, hD⟩ := hJ
  replace hK := (hK.sub (tys' := [(km, .object RX6), (kg, .object RX6), (k3a, .long), (k3b, .long), (k4a, .long), (k4b, .long), (ko, .long), (kf, .object RX13), (kk, .array (.object RX13)), (ki, .object RX13)]) [0, 1, 2, 3, 4, 5, 6, 7, 8, 9] rfl).app (hK1.sub (tys' := []) [] rfl)
  clear hP1 hK1 hD1 hvm ht hS; try clear t
  try clear H
  revert hS1
  intro hS
  generalize H1 = H at hP hS ⊢; try clear H1
  replace hP : va_P (dC, dI) vwCl [(qo, .inl (ko, 1, .inr (.inl fo))), (n0, .inr (15, fs_4))] H := hP
  replace hD : va_D A [(qo, .inl (ko, 1, .inr (.inl fo))), (n0, .inr (15, fs_4))] := hD
  replace hK : va_K (dC, dI) vwCl [(km, .object RX6), (kg, .object RX6), (k3a, .long), (k3b, .long), (k4a, .long), (k4b, .long), (ko, .long), (kf, .object RX13), (kk, .array (.object RX13)), (ki, .object RX13)] s := hK
  have hw_6 : r_3 = 1 := hw; clear hw
  subst hw_6
  refine lv_icmp_eq (tgt := 2018) hx hb dL_law_1975 (by decide) (fun _ => ?_) (fun hc => absurd (by decide) hc)
  exact law_tail C0 hA2 hbA hS (lv_sub hl [0, 4] rfl) (Nat.le_of_ble_eq_true rfl) (Nat.le_of_ble_eq_true rfl)
set_option maxHeartbeats 4000000 in
set_option maxRecDepth 100000 in
/-- the law at a call of restore on fresh objects -/
theorem law_case_restore {p : Program} {l : Launch} (hlt : l.stackTraces = false) {e : Env} {s : State} {m : MethodId} {below : List Frame} {meth : Method} {c : Code} {b : Nat} {xs : Nat → Int32} (C0 : lw_At p s m meth c b 6 xs) {dC : Nat → ClassId} {dI : Nat → Nat → Nat} {A : Nat → Prop} (hA : ∀ q : Nat, s.heap.size ≤ q → A q) (hA2 : ∀ q : Nat, A q → s.heap.size ≤ q) (hbA : ¬ A b) (hN : w_N s) (hT : w_T A s s.heap) (hSt : w_S A s s.heap) (hC : w_C A s s.heap) {H : Heap} {locs : List Loc} {ls : Array Slot} {c0 : Nat} {n0 : Nat} {qo : Nat} {ko : Nat} {fo : Nat → Int64} {qfed : Nat} {qf : Nat} {qfd : Nat} {qs : Nat} {qk : Nat} {fs_c0 : List Value} {fs_n0 : List Value} (hP : va_P (dC, dI) vwCl [(c0, .inr (11, fs_c0)), (qo, .inl (ko, 1, .inr (.inl fo))), (n0, .inr (15, fs_n0))] H) (hD : va_D A [(c0, .inr (11, fs_c0)), (qo, .inl (ko, 1, .inr (.inl fo))), (n0, .inr (15, fs_n0))]) (hK : va_K (dC, dI) vwCl [(ko, .long)] s) (hS : va_S A s.heap H locs) (hl : lv_has ls 8 [(4, .int 0), (3, .ref qo), (2, .ref n0), (1, .ref c0), (0, .ref b)]) (hF_c0 : mF 19 [(16, .int 0)] fs_c0) (hF_n0 : mF 89 [(0, .int 0), (18, .int 0), (19, .int 0), (20, .int (-1)), (21, .int 0), (22, .int 0), (23, .int 0), (24, .int 0), (25, .int 0), (27, .int 0), (28, .int 0), (29, .int 0), (35, .int 0), (17, .int (-1)), (26, .ref qfed), (30, .ref qf), (31, .ref qfd), (33, .ref qs), (36, .ref qk)] fs_n0) : W p l e room_1 s m #[Value.ref b] below meth c H locs 15894 3343160 (lw_Z below #[Value.ref b] s) (F0 m 1980 ls []) := by
  have hx := C0.1; have hb := C0.2.1; have hml := C0.2.2.2.1; have hown := C0.2.2.2.2.1; have hts := C0.2.2.2.2.2.1; have hX := C0.2.2.2.2.2.2.1; have hbl := C0.2.2.2.2.2.2.2.1; have hlocks := C0.2.2.2.2.2.2.2.2.1
  refine lv_aload_n hx hb dL_law_1980 rfl (lv_at hl 3 rfl) ?_
  have hPc := hP.sub (ws' := [(c0, .inr (11, fs_c0))]) [0] rfl
  have hDc := hD.sub (ws' := [(c0, .inr (11, fs_c0))]) [0] (by decide) rfl
  have hKc := hK.sub (tys' := []) [] rfl
  have hFc := va_free (wc := [(c0, .inr (11, fs_c0))]) hD hS hA [0] rfl
  refine va_calli (va_runV (As := []) (rest := []) ⟨hx, hb, hml, hown, hts⟩ (c_f_restore l dC dI c0 fs_c0 (mF.sub hF_c0 [0] rfl) H.size) (cwV 0 hts g_law_wv_f_restore_208 rfl rfl rfl hv_X11_restore ⟨Nat.le_of_ble_eq_true rfl, Nat.le_of_ble_eq_true rfl⟩) ⟨fun a U g mk q => by obtain ⟨q0, q1, qP, qK, qD, qE0⟩ := q; exact ⟨q0, q1, qP, va_K.moved (u := U) (U := U.calling g mk a) (Vm.Alike.refl U.vm) qK, qD, w_N.same rfl qE0⟩, va_recv hKc hPc (ci := 11) (q0 := 0) rfl rfl, fun U hU hW => ⟨rfl, by rw [hU], by rw [hU]; exact hPc, va_K.moved hW.alike hKc, hDc.weaken (fun _ _ _ _ => trivial), w_N.warm hW hN⟩⟩ rfl rfl hl.1 rfl (lv_room (Nat.le_of_ble_eq_true rfl)) dL_law_1981 ⟨(Nat.le_of_ble_eq_true rfl), (Nat.le_of_ble_eq_true rfl)⟩) hS (fun q _ h => hFc q h) hFc (fun r_1 u t H1 locs1 ht hvm hw hB hz1 hk1 hS1 => ?_)
  obtain ⟨hP1, hK1, hD1⟩ := hB
  rw [ht] at hP1
  have hK1 := va_K.moved hvm.symm hK1
  have hJ := va_join (wr := [(qo, .inl (ko, 1, .inr (.inl fo))), (n0, .inr (15, fs_n0))]) (w1 := []) hP hD [0] [1, 2] rfl rfl (by decide) (by decide) hk1 hFc hP1 hD1
  clear hP hD hPc hDc hKc hFc hz1; try clear hk1
  obtain ⟨hP, hD⟩ := hJ
  replace hK := (hK.sub (tys' := [(ko, .long)]) [0] rfl).app (hK1.sub (tys' := []) [] rfl)
  clear hP1 hK1 hD1 hvm ht hS; try clear t
  try clear H
  revert hS1
  intro hS
  generalize H1 = H at hP hS ⊢; try clear H1
  replace hP : va_P (dC, dI) vwCl [(qo, .inl (ko, 1, .inr (.inl fo))), (n0, .inr (15, fs_n0))] H := hP
  replace hD : va_D A [(qo, .inl (ko, 1, .inr (.inl fo))), (n0, .inr (15, fs_n0))] := hD
  replace hK : va_K (dC, dI) vwCl [(ko, .long)] s := hK
  have hw_2 : r_1 = (-1) := hw; clear hw
  subst hw_2
  refine lv_aload_n hx hb dL_law_1984 rfl (lv_at hl 2 rfl) ?_
  have hPc := hP.sub (ws' := [(n0, .inr (15, fs_n0))]) [1] rfl
  have hDc := hD.sub (ws' := [(n0, .inr (15, fs_n0))]) [1] (by decide) rfl
  have hKc := hK.sub (tys' := []) [] rfl
  have hFc := va_free (wc := [(n0, .inr (15, fs_n0))]) hD hS hA [1] rfl
  refine va_calli (va_runV (As := []) (rest := [.int (-1)]) ⟨hx, hb, hml, hown, hts⟩ (c_m_restore l dC dI n0 qfed qf qfd qs qk fs_n0 (mF.sub hF_n0 [0, 1, 2, 3, 4, 5, 6, 7, 8, 9, 10, 11, 12, 13, 14, 15, 16, 17, 18] rfl) H.size) (cwV 0 hts g_law_wv_m_restore_211 rfl rfl rfl hv_X15_restore ⟨Nat.le_of_ble_eq_true rfl, Nat.le_of_ble_eq_true rfl⟩) ⟨fun a U g mk q => by obtain ⟨q0, q1, qP, qK, qD, qE0⟩ := q; exact ⟨q0, q1, qP, va_K.moved (u := U) (U := U.calling g mk a) (Vm.Alike.refl U.vm) qK, qD, w_N.same rfl qE0⟩, va_recv hKc hPc (ci := 15) (q0 := 0) rfl rfl, fun U hU hW => ⟨rfl, by rw [hU], by rw [hU]; exact hPc, va_K.moved hW.alike hKc, hDc.weaken (fun _ _ _ _ => trivial), w_N.warm hW hN⟩⟩ rfl rfl hl.1 rfl (lv_room (Nat.le_of_ble_eq_true rfl)) dL_law_1985 ⟨(Nat.le_of_ble_eq_true rfl), (Nat.le_of_ble_eq_true rfl)⟩) hS (fun q _ h => hFc q h) hFc (fun r_3 u t H1 locs1 ht hvm hw hB hz1 hk1 hS1 => ?_)
  obtain ⟨fs_4, hP1, hK1, hD1, hp_5⟩ := hB
  rw [ht] at hP1
  have hK1 := va_K.moved hvm.symm hK1
  have hJ := va_join (wr := [(qo, .inl (ko, 1, .inr (.inl fo)))]) (w1 := [(n0, .inr (15, fs_4))]) hP hD [1] [0] rfl rfl (by decide) (by decide) hk1 hFc hP1 hD1
  clear hP hD hPc hDc hKc hFc hz1; try clear hk1
  obtain ⟨hP, hD⟩ := hJ
  replace hK := (hK.sub (tys' := [(ko, .long)]) [0] rfl).app (hK1.sub (tys' := []) [] rfl)
  clear hP1 hK1 hD1 hvm ht hS; try clear t
  try clear H
  revert hS1
  intro hS
  generalize H1 = H at hP hS ⊢; try clear H1
  replace hP : va_P (dC, dI) vwCl [(qo, .inl (ko, 1, .inr (.inl fo))), (n0, .inr (15, fs_4))] H := hP
  replace hD : va_D A [(qo, .inl (ko, 1, .inr (.inl fo))), (n0, .inr (15, fs_4))] := hD
  replace hK : va_K (dC, dI) vwCl [(ko, .long)] s := hK
  have hw_6 : r_3 = (-1) := hw; clear hw
  subst hw_6
  refine lv_icmp_eq (tgt := 2018) hx hb dL_law_1988 (by decide) (fun _ => ?_) (fun hc => absurd (by decide) hc)
  exact law_tail C0 hA2 hbA hS (lv_sub hl [0, 4] rfl) (Nat.le_of_ble_eq_true rfl) (Nat.le_of_ble_eq_true rfl)
set_option maxHeartbeats 4000000 in
set_option maxRecDepth 100000 in
/-- the law at a call of count on fresh objects -/
theorem law_case_count {p : Program} {l : Launch} (hlt : l.stackTraces = false) {e : Env} {s : State} {m : MethodId} {below : List Frame} {meth : Method} {c : Code} {b : Nat} {xs : Nat → Int32} (C0 : lw_At p s m meth c b 6 xs) {dC : Nat → ClassId} {dI : Nat → Nat → Nat} {A : Nat → Prop} (hA : ∀ q : Nat, s.heap.size ≤ q → A q) (hA2 : ∀ q : Nat, A q → s.heap.size ≤ q) (hbA : ¬ A b) (hN : w_N s) (hT : w_T A s s.heap) (hSt : w_S A s s.heap) (hC : w_C A s s.heap) {H : Heap} {locs : List Loc} {ls : Array Slot} {c0 : Nat} {n0 : Nat} {qo : Nat} {ko : Nat} {fo : Nat → Int64} {qfed : Nat} {qf : Nat} {qfd : Nat} {qs : Nat} {qk : Nat} {fs_c0 : List Value} {fs_n0 : List Value} (hP : va_P (dC, dI) vwCl [(c0, .inr (11, fs_c0)), (qo, .inl (ko, 1, .inr (.inl fo))), (n0, .inr (15, fs_n0))] H) (hD : va_D A [(c0, .inr (11, fs_c0)), (qo, .inl (ko, 1, .inr (.inl fo))), (n0, .inr (15, fs_n0))]) (hK : va_K (dC, dI) vwCl [(ko, .long)] s) (hS : va_S A s.heap H locs) (hl : lv_has ls 8 [(4, .int 0), (3, .ref qo), (2, .ref n0), (1, .ref c0), (0, .ref b)]) (hF_c0 : mF 19 [(1, .int 0), (16, .int 0)] fs_c0) (hF_n0 : mF 89 [(0, .int 0), (18, .int 0), (19, .int 0), (20, .int (-1)), (21, .int 0), (22, .int 0), (23, .int 0), (24, .int 0), (25, .int 0), (27, .int 0), (28, .int 0), (29, .int 0), (35, .int 0), (17, .int (-1)), (26, .ref qfed), (30, .ref qf), (31, .ref qfd), (33, .ref qs), (36, .ref qk)] fs_n0) : W p l e room_1 s m #[Value.ref b] below meth c H locs 15894 3343160 (lw_Z below #[Value.ref b] s) (F0 m 1993 ls []) := by
  have hx := C0.1; have hb := C0.2.1; have hml := C0.2.2.2.1; have hown := C0.2.2.2.2.1; have hts := C0.2.2.2.2.2.1; have hX := C0.2.2.2.2.2.2.1; have hbl := C0.2.2.2.2.2.2.2.1; have hlocks := C0.2.2.2.2.2.2.2.2.1
  refine lv_aload_n hx hb dL_law_1993 rfl (lv_at hl 3 rfl) ?_
  refine lv_aload_n hx hb dL_law_1994 rfl (lv_at hl 4 rfl) ?_
  refine lv_iload hx hb dL_law_1995 (lv_at hl 0 rfl) ?_
  refine lv_iconst (v := 1) hx hb dL_law_1997 (by decide) ?_
  refine lv_iadd hx hb dL_law_1998 ?_
  refine lv_topi (fun v_1 ev_1 => ?_)
  have ev_1 : v_1 = 1 := ev_1.trans (by decide)
  subst ev_1
  refine va_sld hx hb hX hbl hbA hS (by exact fun h => by rcases h with h | h <;> revert h <;> decide) dL_law_1999 ?_
  refine lv_topi (fun v_2 ev_2 => ?_)
  have ev_2 : v_2 = xs 1 := ev_2
  subst ev_2
  have hPc := hP.sub (ws' := [(c0, .inr (11, fs_c0))]) [0] rfl
  have hDc := hD.sub (ws' := [(c0, .inr (11, fs_c0))]) [0] (by decide) rfl
  have hKc := hK.sub (tys' := []) [] rfl
  have hFc := va_free (wc := [(c0, .inr (11, fs_c0))]) hD hS hA [0] rfl
  refine va_calli (va_runV (As := [.int (xs 1)]) (rest := []) ⟨hx, hb, hml, hown, hts⟩ (c_f_count l dC dI c0 ((xs 1)) fs_c0 (mF.sub hF_c0 [0, 1] rfl) H.size) (cwV 1 hts g_law_wv_f_count_212 rfl rfl rfl hv_X11_count ⟨Nat.le_of_ble_eq_true rfl, Nat.le_of_ble_eq_true rfl⟩) ⟨fun a U g mk q => by obtain ⟨q0, q1, qP, qK, qD, qE0⟩ := q; exact ⟨q0, q1, qP, va_K.moved (u := U) (U := U.calling g mk a) (Vm.Alike.refl U.vm) qK, qD, w_N.same rfl qE0⟩, va_recv hKc hPc (ci := 11) (q0 := 0) rfl rfl, fun U hU hW => ⟨rfl, by rw [hU], by rw [hU]; exact hPc, va_K.moved hW.alike hKc, hDc.weaken (fun _ _ _ _ => trivial), w_N.warm hW hN⟩⟩ rfl rfl hl.1 rfl (lv_room (Nat.le_of_ble_eq_true rfl)) dL_law_2000 ⟨(Nat.le_of_ble_eq_true rfl), (Nat.le_of_ble_eq_true rfl)⟩) hS (fun q _ h => hFc q h) hFc (fun r_3 u t H1 locs1 ht hvm hw hB hz1 hk1 hS1 => ?_)
  obtain ⟨hP1, hK1, hD1⟩ := hB
  rw [ht] at hP1
  have hK1 := va_K.moved hvm.symm hK1
  have hJ := va_join (wr := [(qo, .inl (ko, 1, .inr (.inl fo))), (n0, .inr (15, fs_n0))]) (w1 := []) hP hD [0] [1, 2] rfl rfl (by decide) (by decide) hk1 hFc hP1 hD1
  clear hP hD hPc hDc hKc hFc hz1; try clear hk1
  obtain ⟨hP, hD⟩ := hJ
  replace hK := (hK.sub (tys' := [(ko, .long)]) [0] rfl).app (hK1.sub (tys' := []) [] rfl)
  clear hP1 hK1 hD1 hvm ht hS; try clear t
  try clear H
  revert hS1
  intro hS
  generalize H1 = H at hP hS ⊢; try clear H1
  replace hP : va_P (dC, dI) vwCl [(qo, .inl (ko, 1, .inr (.inl fo))), (n0, .inr (15, fs_n0))] H := hP
  replace hD : va_D A [(qo, .inl (ko, 1, .inr (.inl fo))), (n0, .inr (15, fs_n0))] := hD
  replace hK : va_K (dC, dI) vwCl [(ko, .long)] s := hK
  have hw_4 : r_3 = kCount ((xs 1)) := hw; clear hw
  subst hw_4
  refine lv_aload_n hx hb dL_law_2003 rfl (lv_at hl 2 rfl) ?_
  refine lv_aload_n hx hb dL_law_2004 rfl (lv_at hl 4 rfl) ?_
  refine lv_iload hx hb dL_law_2005 (lv_at hl 0 rfl) ?_
  refine lv_iconst (v := 1) hx hb dL_law_2007 (by decide) ?_
  refine lv_iadd hx hb dL_law_2008 ?_
  refine lv_topi (fun v_5 ev_5 => ?_)
  have ev_5 : v_5 = 1 := ev_5.trans (by decide)
  subst ev_5
  refine va_sld hx hb hX hbl hbA hS (by exact fun h => by rcases h with h | h <;> revert h <;> decide) dL_law_2009 ?_
  refine lv_topi (fun v_6 ev_6 => ?_)
  have ev_6 : v_6 = xs 1 := ev_6
  subst ev_6
  have hPc := hP.sub (ws' := [(n0, .inr (15, fs_n0))]) [1] rfl
  have hDc := hD.sub (ws' := [(n0, .inr (15, fs_n0))]) [1] (by decide) rfl
  have hKc := hK.sub (tys' := []) [] rfl
  have hFc := va_free (wc := [(n0, .inr (15, fs_n0))]) hD hS hA [1] rfl
  refine va_calli (va_runV (As := [.int (xs 1)]) (rest := [.int (kCount ((xs 1)))]) ⟨hx, hb, hml, hown, hts⟩ (c_m_count l dC dI n0 qfed qf qfd qs qk ((xs 1)) fs_n0 (mF.sub hF_n0 [0, 1, 2, 3, 4, 5, 6, 7, 8, 9, 10, 11, 12, 13, 14, 15, 16, 17, 18] rfl) H.size) (cwV 1 hts g_law_wv_m_count_215 rfl rfl rfl hv_X15_count ⟨Nat.le_of_ble_eq_true rfl, Nat.le_of_ble_eq_true rfl⟩) ⟨fun a U g mk q => by obtain ⟨q0, q1, qP, qK, qD, qE0⟩ := q; exact ⟨q0, q1, qP, va_K.moved (u := U) (U := U.calling g mk a) (Vm.Alike.refl U.vm) qK, qD, w_N.same rfl qE0⟩, va_recv hKc hPc (ci := 15) (q0 := 0) rfl rfl, fun U hU hW => ⟨rfl, by rw [hU], by rw [hU]; exact hPc, va_K.moved hW.alike hKc, hDc.weaken (fun _ _ _ _ => trivial), w_N.warm hW hN⟩⟩ rfl rfl hl.1 rfl (lv_room (Nat.le_of_ble_eq_true rfl)) dL_law_2010 ⟨(Nat.le_of_ble_eq_true rfl), (Nat.le_of_ble_eq_true rfl)⟩) hS (fun q _ h => hFc q h) hFc (fun r_7 u t H1 locs1 ht hvm hw hB hz1 hk1 hS1 => ?_)
  obtain ⟨fs_8, hP1, hK1, hD1, hp_9⟩ := hB
  rw [ht] at hP1
  have hK1 := va_K.moved hvm.symm hK1
  have hJ := va_join (wr := [(qo, .inl (ko, 1, .inr (.inl fo)))]) (w1 := [(n0, .inr (15, fs_8))]) hP hD [1] [0] rfl rfl (by decide) (by decide) hk1 hFc hP1 hD1
  clear hP hD hPc hDc hKc hFc hz1; try clear hk1
  obtain ⟨hP, hD⟩ := hJ
  replace hK := (hK.sub (tys' := [(ko, .long)]) [0] rfl).app (hK1.sub (tys' := []) [] rfl)
  clear hP1 hK1 hD1 hvm ht hS; try clear t
  try clear H
  revert hS1
  intro hS
  generalize H1 = H at hP hS ⊢; try clear H1
  replace hP : va_P (dC, dI) vwCl [(qo, .inl (ko, 1, .inr (.inl fo))), (n0, .inr (15, fs_8))] H := hP
  replace hD : va_D A [(qo, .inl (ko, 1, .inr (.inl fo))), (n0, .inr (15, fs_8))] := hD
  replace hK : va_K (dC, dI) vwCl [(ko, .long)] s := hK
  have hw_10 : r_7 = kCount ((xs 1)) := hw; clear hw
  subst hw_10
  refine lv_icmp_eq (tgt := 2018) hx hb dL_law_2013 (by decide) (fun _ => ?_) (fun h9 => absurd rfl h9)
  exact law_tail C0 hA2 hbA hS (lv_sub hl [0, 4] rfl) (Nat.le_of_ble_eq_true rfl) (Nat.le_of_ble_eq_true rfl)
