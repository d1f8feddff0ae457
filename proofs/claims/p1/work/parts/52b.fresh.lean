set_option maxHeartbeats 4000000 in
set_option maxRecDepth 100000 in
/-- the law at a call of within on fresh objects -/
theorem law_case_within {p : Program} {l : Launch} (hlt : l.stackTraces = false) {e : Env} {s : State} {m : MethodId} {below : List Frame} {meth : Method} {c : Code} {b : Nat} {xs : Nat → Int32} (C0 : lw_At p s m meth c b 6 xs) {dC : Nat → ClassId} {dI : Nat → Nat → Nat} {A : Nat → Prop} (hA : ∀ q : Nat, s.heap.size ≤ q → A q) (hA2 : ∀ q : Nat, A q → s.heap.size ≤ q) (hbA : ¬ A b) (hN : w_N s) (hT : w_T A s s.heap) (hSt : w_S A s s.heap) (hC : w_C A s s.heap) {H : Heap} {locs : List Loc} {ls : Array Slot} {c0 : Nat} {n0 : Nat} {qC : Nat} {r_h0_algebra : Nat} {qo : Nat} {fs_qC : List Value} {ko : Nat} {fo : Nat → Int64} {qfed : Nat} {qf : Nat} {qfd : Nat} {qs : Nat} {qk : Nat} {fs_c0 : List Value} {fs_n0 : List Value} (hP : va_P (dC, dI) vwCl [(c0, .inr (11, fs_c0)), (qC, .inr (2, fs_qC)), (qo, .inl (ko, 1, .inr (.inl fo))), (n0, .inr (15, fs_n0))] H) (hD : va_D A [(c0, .inr (11, fs_c0)), (qC, .inr (2, fs_qC)), (qo, .inl (ko, 1, .inr (.inl fo))), (n0, .inr (15, fs_n0))]) (hK : va_K (dC, dI) vwCl [(ko, .long)] s) (hS : va_S A s.heap H locs) (hl : lv_has ls 8 [(4, .int 0), (3, .ref qo), (2, .ref n0), (1, .ref c0), (0, .ref b)]) (hF_c0 : mF 19 [(7, .ref qC), (8, .ref r_h0_algebra)] fs_c0) (hF_qC : mF 13 [(8, .int 0)] fs_qC) (hF_n0 : mF 89 [(0, .int 0), (18, .int 0), (19, .int 0), (20, .int (-1)), (21, .int 0), (22, .int 0), (23, .int 0), (24, .int 0), (25, .int 0), (27, .int 0), (28, .int 0), (29, .int 0), (35, .int 0), (17, .int (-1)), (26, .ref qfed), (30, .ref qf), (31, .ref qfd), (33, .ref qs), (36, .ref qk)] fs_n0) : W p l e room_1 s m #[Value.ref b] below meth c H locs 15894 3343160 (lw_Z below #[Value.ref b] s) (F0 m 800 ls []) := by
  have hx := C0.1; have hb := C0.2.1; have hml := C0.2.2.2.1; have hown := C0.2.2.2.2.1; have hts := C0.2.2.2.2.2.1; have hX := C0.2.2.2.2.2.2.1; have hbl := C0.2.2.2.2.2.2.2.1; have hlocks := C0.2.2.2.2.2.2.2.2.1
  refine lv_aload_n hx hb dL_law_800 rfl (lv_at hl 3 rfl) ?_
  refine lv_aload_n hx hb dL_law_801 rfl (lv_at hl 4 rfl) ?_
  refine lv_iload hx hb dL_law_802 (lv_at hl 0 rfl) ?_
  refine lv_iconst (v := 1) hx hb dL_law_804 (by decide) ?_
  refine lv_iadd hx hb dL_law_805 ?_
  refine lv_topi (fun v_1 ev_1 => ?_)
  have ev_1 : v_1 = 1 := ev_1.trans (by decide)
  subst ev_1
  refine va_sld hx hb hX hbl hbA hS (by exact fun h => by rcases h with h | h <;> revert h <;> decide) dL_law_806 ?_
  refine lv_topi (fun v_2 ev_2 => ?_)
  have ev_2 : v_2 = xs 1 := ev_2
  subst ev_2
  refine lv_aload_n hx hb dL_law_807 rfl (lv_at hl 1 rfl) ?_
  have hPc := hP.sub (ws' := [(c0, .inr (11, fs_c0)), (qC, .inr (2, fs_qC))]) [0, 1] rfl
  have hDc := hD.sub (ws' := [(c0, .inr (11, fs_c0)), (qC, .inr (2, fs_qC))]) [0, 1] (by decide) rfl
  have hKc := hK.sub (tys' := []) [] rfl
  have hFc := va_free (wc := [(c0, .inr (11, fs_c0)), (qC, .inr (2, fs_qC))]) hD hS hA [0, 1] rfl
  refine vx_calli (vx_runSX (As := [.ref c0, .int (xs 1), .ref qo]) (rest := []) ⟨hx, hb, hml, hown, hts⟩ (c_l_within l hlt dC dI c0 qC r_h0_algebra qo ((xs 1)) fs_c0 fs_qC (mF.sub hF_c0 [0, 1] rfl) (mF.sub hF_qC [0] rfl) H.size) (vx_cwSW 3 hts g_law_wv_l_within_150 rfl rfl rfl hd_L_within ⟨Nat.le_of_ble_eq_true rfl, Nat.le_of_ble_eq_true rfl⟩) ⟨fun a U g mk q => by obtain ⟨q0, q1, qP, qK, qD, qE0, qE1, qE2⟩ := q; exact ⟨q0, q1, qP, va_K.moved (u := U) (U := U.calling g mk a) (Vm.Alike.refl U.vm) qK, qD, w_N.same rfl qE0, w_T.same rfl rfl qE1, w_C.same rfl rfl qE2⟩, fun U hU hW => ⟨rfl, by rw [hU], by rw [hU]; exact hPc, va_K.moved hW.alike hKc, hDc.weaken (fun _ _ _ _ => trivial), w_N.warm hW hN, w_T.go hT hW hS.2.1 hFc hU, w_C.go hC hW hS.2.1 hFc hU⟩⟩ rfl rfl hl.1 rfl (lv_room (Nat.le_of_ble_eq_true rfl)) dL_law_808 ⟨(Nat.le_of_ble_eq_true rfl), (Nat.le_of_ble_eq_true rfl)⟩) hS (fun q _ h => hFc q h) hFc (fun q _ h => hFc q h) (fun E9 ce9 q9 u t H1 locs1 ht hvm hpx hBX hz1 hk1 hS1 hcell9 hv9 hcl9 => ?_) (fun r_3 u t H1 locs1 ht hvm hw hB hz1 hk1 hS1 => ?_)
  · skip
    exact (hpx : False).elim
  · skip
    obtain ⟨hP1, hK1, hD1⟩ := hB
    rw [ht] at hP1
    have hK1 := va_K.moved hvm.symm hK1
    have hJ := va_join (wr := [(qo, .inl (ko, 1, .inr (.inl fo))), (n0, .inr (15, fs_n0))]) (w1 := []) hP hD [0, 1] [2, 3] rfl rfl (by decide) (by decide) hk1 hFc hP1 hD1
    clear hP hD hPc hDc hKc hFc hz1; try clear hk1
    obtain ⟨hP, hD⟩ := hJ
    replace hK := (hK.sub (tys' := [(ko, .long)]) [0] rfl).app (hK1.sub (tys' := []) [] rfl)
    clear hP1 hK1 hD1 hvm ht hS; try clear t
    try clear H
    revert hS1
    intro hS
    generalize H1 = H at hP hS ⊢; try clear H1
    replace hP : va_P (dC, dI) vwCl [(qo, .inl (ko, 1, .inr (.inl fo))), (n0, .inr (15, fs_n0))] H := hP
    replace hD : va_D A [(qo, .inl (ko, 1, .inr (.inl fo))), (n0, .inr (15, fs_n0))] := hD
    replace hK : va_K (dC, dI) vwCl [(ko, .long)] s := hK
    have hw_4 : r_3 = 2 := hw; clear hw
    subst hw_4
    refine lv_istore (lv' := [(5, .int 2), (4, .int 0), (3, .ref qo), (2, .ref n0), (1, .ref c0), (0, .ref b)]) hx hb dL_law_811 hl (by decide) rfl (fun ls hl => ?_)
    refine lv_aload_n hx hb dL_law_813 rfl (lv_at hl 3 rfl) ?_
    refine lv_aload_n hx hb dL_law_814 rfl (lv_at hl 5 rfl) ?_
    refine lv_iload hx hb dL_law_815 (lv_at hl 1 rfl) ?_
    refine lv_iconst (v := 1) hx hb dL_law_817 (by decide) ?_
    refine lv_iadd hx hb dL_law_818 ?_
    refine lv_topi (fun v_5 ev_5 => ?_)
    have ev_5 : v_5 = 1 := ev_5.trans (by decide)
    subst ev_5
    refine va_sld hx hb hX hbl hbA hS (by exact fun h => by rcases h with h | h <;> revert h <;> decide) dL_law_819 ?_
    refine lv_topi (fun v_6 ev_6 => ?_)
    have ev_6 : v_6 = xs 1 := ev_6
    subst ev_6
    have hPc := hP.sub (ws' := [(n0, .inr (15, fs_n0))]) [1] rfl
    have hDc := hD.sub (ws' := [(n0, .inr (15, fs_n0))]) [1] (by decide) rfl
    have hKc := hK.sub (tys' := []) [] rfl
    have hFc := va_free (wc := [(n0, .inr (15, fs_n0))]) hD hS hA [1] rfl
    refine va_calli (va_runV (As := [.int (xs 1)]) (rest := []) ⟨hx, hb, hml, hown, hts⟩ (c_m_within l dC dI n0 qfed qf qfd qs qk ((xs 1)) fs_n0 (mF.sub hF_n0 [0, 1, 2, 3, 4, 5, 6, 7, 8, 9, 10, 11, 12, 13, 14, 15, 16, 17, 18] rfl) H.size) (cwV 1 hts g_law_wv_m_within_152 rfl rfl rfl hv_X15_within ⟨Nat.le_of_ble_eq_true rfl, Nat.le_of_ble_eq_true rfl⟩) ⟨fun a U g mk q => by obtain ⟨q0, q1, qP, qK, qD, qE0⟩ := q; exact ⟨q0, q1, qP, va_K.moved (u := U) (U := U.calling g mk a) (Vm.Alike.refl U.vm) qK, qD, w_N.same rfl qE0⟩, va_recv hKc hPc (ci := 15) (q0 := 0) rfl rfl, fun U hU hW => ⟨rfl, by rw [hU], by rw [hU]; exact hPc, va_K.moved hW.alike hKc, hDc.weaken (fun _ _ _ _ => trivial), w_N.warm hW hN⟩⟩ rfl rfl hl.1 rfl (lv_room (Nat.le_of_ble_eq_true rfl)) dL_law_820 ⟨(Nat.le_of_ble_eq_true rfl), (Nat.le_of_ble_eq_true rfl)⟩) hS (fun q _ h => hFc q h) hFc (fun r_7 u t H1 locs1 ht hvm hw hB hz1 hk1 hS1 => ?_)
    obtain ⟨fs_8, hP1, hK1, hD1, hp_9⟩ := hB
    rw [ht] at hP1
    have hK1 := va_K.moved hvm.symm hK1
    have hJ := va_join (wr := [(qo, .inl (ko, 1, .inr (.inl fo)))]) (w1 := [(n0, .inr (15, fs_8))]) hP hD [1] [0] rfl rfl (by decide) (by decide) hk1 hFc hP1 hD1
    clear hP hD hPc hDc hKc hFc hz1; try clear hk1
    obtain ⟨hP, hD⟩ := hJ
    replace hK := (hK.sub (tys' := [(ko, .long)]) [0] rfl).app (hK1.sub (tys' := []) [] rfl)
    clear hP1 hK1 hD1 hvm ht hS; try clear t
    try clear H
    revert hS1
    intro hS
    generalize H1 = H at hP hS ⊢; try clear H1
    replace hP : va_P (dC, dI) vwCl [(qo, .inl (ko, 1, .inr (.inl fo))), (n0, .inr (15, fs_8))] H := hP
    replace hD : va_D A [(qo, .inl (ko, 1, .inr (.inl fo))), (n0, .inr (15, fs_8))] := hD
    replace hK : va_K (dC, dI) vwCl [(ko, .long)] s := hK
    have hw_10 : True := hw; clear hw
    refine lv_istore (lv' := [(6, .int r_7), (5, .int 2), (4, .int 0), (3, .ref qo), (2, .ref n0), (1, .ref c0), (0, .ref b)]) hx hb dL_law_823 hl (by decide) rfl (fun ls hl => ?_)
    refine lv_aload_n hx hb dL_law_825 rfl (lv_at hl 4 rfl) ?_
    have hPc := hP.sub (ws' := [(n0, .inr (15, fs_8))]) [1] rfl
    have hDc := hD.sub (ws' := [(n0, .inr (15, fs_8))]) [1] (by decide) rfl
    have hKc := hK.sub (tys' := []) [] rfl
    have hFc := va_free (wc := [(n0, .inr (15, fs_8))]) hD hS hA [1] rfl
    refine va_calli (va_runV (As := []) (rest := []) ⟨hx, hb, hml, hown, hts⟩ (c_m_thrown l dC dI n0 2 fs_8 (mF.sub hp_9 [0] rfl) H.size) (cwV 0 hts g_law_wv_m_thrown_117 rfl rfl rfl hv_X15_thrown ⟨Nat.le_of_ble_eq_true rfl, Nat.le_of_ble_eq_true rfl⟩) ⟨fun a U g mk q => by obtain ⟨q0, q1, qP, qK, qD, qE0⟩ := q; exact ⟨q0, q1, qP, va_K.moved (u := U) (U := U.calling g mk a) (Vm.Alike.refl U.vm) qK, qD, w_N.same rfl qE0⟩, va_recv hKc hPc (ci := 15) (q0 := 0) rfl rfl, fun U hU hW => ⟨rfl, by rw [hU], by rw [hU]; exact hPc, va_K.moved hW.alike hKc, hDc.weaken (fun _ _ _ _ => trivial), w_N.warm hW hN⟩⟩ rfl rfl hl.1 rfl (lv_room (Nat.le_of_ble_eq_true rfl)) dL_law_826 ⟨(Nat.le_of_ble_eq_true rfl), (Nat.le_of_ble_eq_true rfl)⟩) hS (fun q _ h => hFc q h) hFc (fun r_11 u t H1 locs1 ht hvm hw hB hz1 hk1 hS1 => ?_)
    obtain ⟨hP1, hK1, hD1⟩ := hB
    rw [ht] at hP1
    have hK1 := va_K.moved hvm.symm hK1
    have hJ := va_join (wr := [(qo, .inl (ko, 1, .inr (.inl fo)))]) (w1 := []) hP hD [1] [0] rfl rfl (by decide) (by decide) hk1 hFc hP1 hD1
    clear hP hD hPc hDc hKc hFc hz1; try clear hk1
    obtain ⟨hP, hD⟩ := hJ
    replace hK := (hK.sub (tys' := [(ko, .long)]) [0] rfl).app (hK1.sub (tys' := []) [] rfl)
    clear hP1 hK1 hD1 hvm ht hS; try clear t
    try clear H
    revert hS1
    intro hS
    generalize H1 = H at hP hS ⊢; try clear H1
    replace hP : va_P (dC, dI) vwCl [(qo, .inl (ko, 1, .inr (.inl fo)))] H := hP
    replace hD : va_D A [(qo, .inl (ko, 1, .inr (.inl fo)))] := hD
    replace hK : va_K (dC, dI) vwCl [(ko, .long)] s := hK
    have hw_12 : r_11 = 2 := hw; clear hw
    subst hw_12
    refine lv_iload hx hb dL_law_829 (lv_at hl 1 rfl) ?_
    refine lv_icmp_eq (tgt := 836) hx hb dL_law_831 (by decide) (fun _ => ?_) (fun hc => absurd (by decide) hc)
    refine lv_iload hx hb dL_law_836 (lv_at hl 1 rfl) ?_
    refine lv_if_ne (tgt := 860) hx hb dL_law_838 (by decide) (fun _ => ?_) (fun hc => absurd hc (by decide))
    refine lv_goto (tgt := 2018) hx hb dL_law_860 (by decide) ?_
    exact law_tail C0 hA2 hbA hS (lv_sub hl [2, 6] rfl) (Nat.le_of_ble_eq_true rfl) (Nat.le_of_ble_eq_true rfl)
set_option maxHeartbeats 4000000 in
set_option maxRecDepth 100000 in
/-- the law at a call of closed on fresh objects -/
theorem law_case_closed {p : Program} {l : Launch} (hlt : l.stackTraces = false) {e : Env} {s : State} {m : MethodId} {below : List Frame} {meth : Method} {c : Code} {b : Nat} {xs : Nat → Int32} (C0 : lw_At p s m meth c b 6 xs) {dC : Nat → ClassId} {dI : Nat → Nat → Nat} {A : Nat → Prop} (hA : ∀ q : Nat, s.heap.size ≤ q → A q) (hA2 : ∀ q : Nat, A q → s.heap.size ≤ q) (hbA : ¬ A b) (hN : w_N s) (hT : w_T A s s.heap) (hSt : w_S A s s.heap) (hC : w_C A s s.heap) {H : Heap} {locs : List Loc} {ls : Array Slot} {c0 : Nat} {n0 : Nat} {qC : Nat} {r_h0_algebra : Nat} {qo : Nat} {fs_qC : List Value} {ko : Nat} {fo : Nat → Int64} {qfed : Nat} {qf : Nat} {qfd : Nat} {qs : Nat} {qk : Nat} {fs_c0 : List Value} {fs_n0 : List Value} (hP : va_P (dC, dI) vwCl [(c0, .inr (11, fs_c0)), (qC, .inr (2, fs_qC)), (qo, .inl (ko, 1, .inr (.inl fo))), (n0, .inr (15, fs_n0))] H) (hD : va_D A [(c0, .inr (11, fs_c0)), (qC, .inr (2, fs_qC)), (qo, .inl (ko, 1, .inr (.inl fo))), (n0, .inr (15, fs_n0))]) (hK : va_K (dC, dI) vwCl [(ko, .long)] s) (hS : va_S A s.heap H locs) (hl : lv_has ls 8 [(4, .int 0), (3, .ref qo), (2, .ref n0), (1, .ref c0), (0, .ref b)]) (hF_c0 : mF 19 [(7, .ref qC), (8, .ref r_h0_algebra)] fs_c0) (hF_qC : mF 13 [(8, .int 0)] fs_qC) (hF_n0 : mF 89 [(0, .int 0), (18, .int 0), (19, .int 0), (20, .int (-1)), (21, .int 0), (22, .int 0), (23, .int 0), (24, .int 0), (25, .int 0), (27, .int 0), (28, .int 0), (29, .int 0), (35, .int 0), (17, .int (-1)), (26, .ref qfed), (30, .ref qf), (31, .ref qfd), (33, .ref qs), (36, .ref qk)] fs_n0) : W p l e room_1 s m #[Value.ref b] below meth c H locs 15894 3343160 (lw_Z below #[Value.ref b] s) (F0 m 863 ls []) := by
  have hx := C0.1; have hb := C0.2.1; have hml := C0.2.2.2.1; have hown := C0.2.2.2.2.1; have hts := C0.2.2.2.2.2.1; have hX := C0.2.2.2.2.2.2.1; have hbl := C0.2.2.2.2.2.2.2.1; have hlocks := C0.2.2.2.2.2.2.2.2.1
  refine lv_aload_n hx hb dL_law_863 rfl (lv_at hl 3 rfl) ?_
  refine lv_aload_n hx hb dL_law_864 rfl (lv_at hl 4 rfl) ?_
  refine lv_iload hx hb dL_law_865 (lv_at hl 0 rfl) ?_
  refine lv_iconst (v := 1) hx hb dL_law_867 (by decide) ?_
  refine lv_iadd hx hb dL_law_868 ?_
  refine lv_topi (fun v_1 ev_1 => ?_)
  have ev_1 : v_1 = 1 := ev_1.trans (by decide)
  subst ev_1
  refine va_sld hx hb hX hbl hbA hS (by exact fun h => by rcases h with h | h <;> revert h <;> decide) dL_law_869 ?_
  refine lv_topi (fun v_2 ev_2 => ?_)
  have ev_2 : v_2 = xs 1 := ev_2
  subst ev_2
  refine lv_aload_n hx hb dL_law_870 rfl (lv_at hl 1 rfl) ?_
  have hPc := hP.sub (ws' := [(c0, .inr (11, fs_c0)), (qC, .inr (2, fs_qC))]) [0, 1] rfl
  have hDc := hD.sub (ws' := [(c0, .inr (11, fs_c0)), (qC, .inr (2, fs_qC))]) [0, 1] (by decide) rfl
  have hKc := hK.sub (tys' := []) [] rfl
  have hFc := va_free (wc := [(c0, .inr (11, fs_c0)), (qC, .inr (2, fs_qC))]) hD hS hA [0, 1] rfl
  refine vx_calli (vx_runSX (As := [.ref c0, .int (xs 1), .ref qo]) (rest := []) ⟨hx, hb, hml, hown, hts⟩ (c_l_closed l hlt dC dI c0 qC r_h0_algebra qo ((xs 1)) fs_c0 fs_qC (mF.sub hF_c0 [0, 1] rfl) (mF.sub hF_qC [0] rfl) H.size) (vx_cwSW 3 hts g_law_wv_l_closed_153 rfl rfl rfl hd_L_closed ⟨Nat.le_of_ble_eq_true rfl, Nat.le_of_ble_eq_true rfl⟩) ⟨fun a U g mk q => by obtain ⟨q0, q1, qP, qK, qD, qE0, qE1, qE2⟩ := q; exact ⟨q0, q1, qP, va_K.moved (u := U) (U := U.calling g mk a) (Vm.Alike.refl U.vm) qK, qD, w_N.same rfl qE0, w_T.same rfl rfl qE1, w_C.same rfl rfl qE2⟩, fun U hU hW => ⟨rfl, by rw [hU], by rw [hU]; exact hPc, va_K.moved hW.alike hKc, hDc.weaken (fun _ _ _ _ => trivial), w_N.warm hW hN, w_T.go hT hW hS.2.1 hFc hU, w_C.go hC hW hS.2.1 hFc hU⟩⟩ rfl rfl hl.1 rfl (lv_room (Nat.le_of_ble_eq_true rfl)) dL_law_871 ⟨(Nat.le_of_ble_eq_true rfl), (Nat.le_of_ble_eq_true rfl)⟩) hS (fun q _ h => hFc q h) hFc (fun q _ h => hFc q h) (fun E9 ce9 q9 u t H1 locs1 ht hvm hpx hBX hz1 hk1 hS1 hcell9 hv9 hcl9 => ?_) (fun r_3 u t H1 locs1 ht hvm hw hB hz1 hk1 hS1 => ?_)
  · skip
    exact (hpx : False).elim
  · skip
    obtain ⟨hP1, hK1, hD1⟩ := hB
    rw [ht] at hP1
    have hK1 := va_K.moved hvm.symm hK1
    have hJ := va_join (wr := [(qo, .inl (ko, 1, .inr (.inl fo))), (n0, .inr (15, fs_n0))]) (w1 := []) hP hD [0, 1] [2, 3] rfl rfl (by decide) (by decide) hk1 hFc hP1 hD1
    clear hP hD hPc hDc hKc hFc hz1; try clear hk1
    obtain ⟨hP, hD⟩ := hJ
    replace hK := (hK.sub (tys' := [(ko, .long)]) [0] rfl).app (hK1.sub (tys' := []) [] rfl)
    clear hP1 hK1 hD1 hvm ht hS; try clear t
    try clear H
    revert hS1
    intro hS
    generalize H1 = H at hP hS ⊢; try clear H1
    replace hP : va_P (dC, dI) vwCl [(qo, .inl (ko, 1, .inr (.inl fo))), (n0, .inr (15, fs_n0))] H := hP
    replace hD : va_D A [(qo, .inl (ko, 1, .inr (.inl fo))), (n0, .inr (15, fs_n0))] := hD
    replace hK : va_K (dC, dI) vwCl [(ko, .long)] s := hK
    have hw_4 : r_3 = 2 := hw; clear hw
    subst hw_4
    refine lv_istore (lv' := [(5, .int 2), (4, .int 0), (3, .ref qo), (2, .ref n0), (1, .ref c0), (0, .ref b)]) hx hb dL_law_874 hl (by decide) rfl (fun ls hl => ?_)
    refine lv_aload_n hx hb dL_law_876 rfl (lv_at hl 3 rfl) ?_
    refine lv_aload_n hx hb dL_law_877 rfl (lv_at hl 5 rfl) ?_
    refine lv_iload hx hb dL_law_878 (lv_at hl 1 rfl) ?_
    refine lv_iconst (v := 1) hx hb dL_law_880 (by decide) ?_
    refine lv_iadd hx hb dL_law_881 ?_
    refine lv_topi (fun v_5 ev_5 => ?_)
    have ev_5 : v_5 = 1 := ev_5.trans (by decide)
    subst ev_5
    refine va_sld hx hb hX hbl hbA hS (by exact fun h => by rcases h with h | h <;> revert h <;> decide) dL_law_882 ?_
    refine lv_topi (fun v_6 ev_6 => ?_)
    have ev_6 : v_6 = xs 1 := ev_6
    subst ev_6
    have hPc := hP.sub (ws' := [(n0, .inr (15, fs_n0))]) [1] rfl
    have hDc := hD.sub (ws' := [(n0, .inr (15, fs_n0))]) [1] (by decide) rfl
    have hKc := hK.sub (tys' := []) [] rfl
    have hFc := va_free (wc := [(n0, .inr (15, fs_n0))]) hD hS hA [1] rfl
    refine va_calli (va_runV (As := [.int (xs 1)]) (rest := []) ⟨hx, hb, hml, hown, hts⟩ (c_m_closed l dC dI n0 qfed qf qfd qs qk ((xs 1)) fs_n0 (mF.sub hF_n0 [0, 1, 2, 3, 4, 5, 6, 7, 8, 9, 10, 11, 12, 13, 14, 15, 16, 17, 18] rfl) H.size) (cwV 1 hts g_law_wv_m_closed_155 rfl rfl rfl hv_X15_closed ⟨Nat.le_of_ble_eq_true rfl, Nat.le_of_ble_eq_true rfl⟩) ⟨fun a U g mk q => by obtain ⟨q0, q1, qP, qK, qD, qE0⟩ := q; exact ⟨q0, q1, qP, va_K.moved (u := U) (U := U.calling g mk a) (Vm.Alike.refl U.vm) qK, qD, w_N.same rfl qE0⟩, va_recv hKc hPc (ci := 15) (q0 := 0) rfl rfl, fun U hU hW => ⟨rfl, by rw [hU], by rw [hU]; exact hPc, va_K.moved hW.alike hKc, hDc.weaken (fun _ _ _ _ => trivial), w_N.warm hW hN⟩⟩ rfl rfl hl.1 rfl (lv_room (Nat.le_of_ble_eq_true rfl)) dL_law_883 ⟨(Nat.le_of_ble_eq_true rfl), (Nat.le_of_ble_eq_true rfl)⟩) hS (fun q _ h => hFc q h) hFc (fun r_7 u t H1 locs1 ht hvm hw hB hz1 hk1 hS1 => ?_)
    obtain ⟨fs_8, hP1, hK1, hD1, hp_9⟩ := hB
    rw [ht] at hP1
    have hK1 := va_K.moved hvm.symm hK1
    have hJ := va_join (wr := [(qo, .inl (ko, 1, .inr (.inl fo)))]) (w1 := [(n0, .inr (15, fs_8))]) hP hD [1] [0] rfl rfl (by decide) (by decide) hk1 hFc hP1 hD1
    clear hP hD hPc hDc hKc hFc hz1; try clear hk1
    obtain ⟨hP, hD⟩ := hJ
    replace hK := (hK.sub (tys' := [(ko, .long)]) [0] rfl).app (hK1.sub (tys' := []) [] rfl)
    clear hP1 hK1 hD1 hvm ht hS; try clear t
    try clear H
    revert hS1
    intro hS
    generalize H1 = H at hP hS ⊢; try clear H1
    replace hP : va_P (dC, dI) vwCl [(qo, .inl (ko, 1, .inr (.inl fo))), (n0, .inr (15, fs_8))] H := hP
    replace hD : va_D A [(qo, .inl (ko, 1, .inr (.inl fo))), (n0, .inr (15, fs_8))] := hD
    replace hK : va_K (dC, dI) vwCl [(ko, .long)] s := hK
    have hw_10 : True := hw; clear hw
    refine lv_istore (lv' := [(6, .int r_7), (5, .int 2), (4, .int 0), (3, .ref qo), (2, .ref n0), (1, .ref c0), (0, .ref b)]) hx hb dL_law_886 hl (by decide) rfl (fun ls hl => ?_)
    refine lv_aload_n hx hb dL_law_888 rfl (lv_at hl 4 rfl) ?_
    have hPc := hP.sub (ws' := [(n0, .inr (15, fs_8))]) [1] rfl
    have hDc := hD.sub (ws' := [(n0, .inr (15, fs_8))]) [1] (by decide) rfl
    have hKc := hK.sub (tys' := []) [] rfl
    have hFc := va_free (wc := [(n0, .inr (15, fs_8))]) hD hS hA [1] rfl
    refine va_calli (va_runV (As := []) (rest := []) ⟨hx, hb, hml, hown, hts⟩ (c_m_thrown l dC dI n0 2 fs_8 (mF.sub hp_9 [0] rfl) H.size) (cwV 0 hts g_law_wv_m_thrown_117 rfl rfl rfl hv_X15_thrown ⟨Nat.le_of_ble_eq_true rfl, Nat.le_of_ble_eq_true rfl⟩) ⟨fun a U g mk q => by obtain ⟨q0, q1, qP, qK, qD, qE0⟩ := q; exact ⟨q0, q1, qP, va_K.moved (u := U) (U := U.calling g mk a) (Vm.Alike.refl U.vm) qK, qD, w_N.same rfl qE0⟩, va_recv hKc hPc (ci := 15) (q0 := 0) rfl rfl, fun U hU hW => ⟨rfl, by rw [hU], by rw [hU]; exact hPc, va_K.moved hW.alike hKc, hDc.weaken (fun _ _ _ _ => trivial), w_N.warm hW hN⟩⟩ rfl rfl hl.1 rfl (lv_room (Nat.le_of_ble_eq_true rfl)) dL_law_889 ⟨(Nat.le_of_ble_eq_true rfl), (Nat.le_of_ble_eq_true rfl)⟩) hS (fun q _ h => hFc q h) hFc (fun r_11 u t H1 locs1 ht hvm hw hB hz1 hk1 hS1 => ?_)
    obtain ⟨hP1, hK1, hD1⟩ := hB
    rw [ht] at hP1
    have hK1 := va_K.moved hvm.symm hK1
    have hJ := va_join (wr := [(qo, .inl (ko, 1, .inr (.inl fo)))]) (w1 := []) hP hD [1] [0] rfl rfl (by decide) (by decide) hk1 hFc hP1 hD1
    clear hP hD hPc hDc hKc hFc hz1; try clear hk1
    obtain ⟨hP, hD⟩ := hJ
    replace hK := (hK.sub (tys' := [(ko, .long)]) [0] rfl).app (hK1.sub (tys' := []) [] rfl)
    clear hP1 hK1 hD1 hvm ht hS; try clear t
    try clear H
    revert hS1
    intro hS
    generalize H1 = H at hP hS ⊢; try clear H1
    replace hP : va_P (dC, dI) vwCl [(qo, .inl (ko, 1, .inr (.inl fo)))] H := hP
    replace hD : va_D A [(qo, .inl (ko, 1, .inr (.inl fo)))] := hD
    replace hK : va_K (dC, dI) vwCl [(ko, .long)] s := hK
    have hw_12 : r_11 = 2 := hw; clear hw
    subst hw_12
    refine lv_iload hx hb dL_law_892 (lv_at hl 1 rfl) ?_
    refine lv_icmp_eq (tgt := 899) hx hb dL_law_894 (by decide) (fun _ => ?_) (fun hc => absurd (by decide) hc)
    refine lv_iload hx hb dL_law_899 (lv_at hl 1 rfl) ?_
    refine lv_if_ne (tgt := 923) hx hb dL_law_901 (by decide) (fun _ => ?_) (fun hc => absurd hc (by decide))
    refine lv_goto (tgt := 2018) hx hb dL_law_923 (by decide) ?_
    exact law_tail C0 hA2 hbA hS (lv_sub hl [2, 6] rfl) (Nat.le_of_ble_eq_true rfl) (Nat.le_of_ble_eq_true rfl)
set_option maxHeartbeats 4000000 in
set_option maxRecDepth 100000 in
/-- the law at a call of constant on fresh objects -/
theorem law_case_constant {p : Program} {l : Launch} (hlt : l.stackTraces = false) {e : Env} {s : State} {m : MethodId} {below : List Frame} {meth : Method} {c : Code} {b : Nat} {xs : Nat → Int32} (C0 : lw_At p s m meth c b 6 xs) {dC : Nat → ClassId} {dI : Nat → Nat → Nat} {A : Nat → Prop} (hA : ∀ q : Nat, s.heap.size ≤ q → A q) (hA2 : ∀ q : Nat, A q → s.heap.size ≤ q) (hbA : ¬ A b) (hN : w_N s) (hT : w_T A s s.heap) (hSt : w_S A s s.heap) (hC : w_C A s s.heap) {H : Heap} {locs : List Loc} {ls : Array Slot} {c0 : Nat} {n0 : Nat} {qC : Nat} {qo : Nat} {fs_qC : List Value} {ko : Nat} {fo : Nat → Int64} {qfed : Nat} {qf : Nat} {qfd : Nat} {qs : Nat} {qk : Nat} {fs_c0 : List Value} {fs_n0 : List Value} (hP : va_P (dC, dI) vwCl [(c0, .inr (11, fs_c0)), (qC, .inr (2, fs_qC)), (qo, .inl (ko, 1, .inr (.inl fo))), (n0, .inr (15, fs_n0))] H) (hD : va_D A [(c0, .inr (11, fs_c0)), (qC, .inr (2, fs_qC)), (qo, .inl (ko, 1, .inr (.inl fo))), (n0, .inr (15, fs_n0))]) (hK : va_K (dC, dI) vwCl [(ko, .long)] s) (hS : va_S A s.heap H locs) (hl : lv_has ls 8 [(4, .int 0), (3, .ref qo), (2, .ref n0), (1, .ref c0), (0, .ref b)]) (hF_c0 : mF 19 [(7, .ref qC)] fs_c0) (hF_qC : mF 13 [(8, .int 0)] fs_qC) (hF_n0 : mF 89 [(0, .int 0), (18, .int 0), (19, .int 0), (20, .int (-1)), (21, .int 0), (22, .int 0), (23, .int 0), (24, .int 0), (25, .int 0), (27, .int 0), (28, .int 0), (29, .int 0), (35, .int 0), (17, .int (-1)), (26, .ref qfed), (30, .ref qf), (31, .ref qfd), (33, .ref qs), (36, .ref qk)] fs_n0) : W p l e room_1 s m #[Value.ref b] below meth c H locs 15894 3343160 (lw_Z below #[Value.ref b] s) (F0 m 926 ls []) := by
  have hx := C0.1; have hb := C0.2.1; have hml := C0.2.2.2.1; have hown := C0.2.2.2.2.1; have hts := C0.2.2.2.2.2.1; have hX := C0.2.2.2.2.2.2.1; have hbl := C0.2.2.2.2.2.2.2.1; have hlocks := C0.2.2.2.2.2.2.2.2.1
  refine lv_aload_n hx hb dL_law_926 rfl (lv_at hl 3 rfl) ?_
  refine lv_aload_n hx hb dL_law_927 rfl (lv_at hl 4 rfl) ?_
  refine lv_iload hx hb dL_law_928 (lv_at hl 0 rfl) ?_
  refine lv_iconst (v := 1) hx hb dL_law_930 (by decide) ?_
  refine lv_iadd hx hb dL_law_931 ?_
  refine lv_topi (fun v_1 ev_1 => ?_)
  have ev_1 : v_1 = 1 := ev_1.trans (by decide)
  subst ev_1
  refine va_sld hx hb hX hbl hbA hS (by exact fun h => by rcases h with h | h <;> revert h <;> decide) dL_law_932 ?_
  refine lv_topi (fun v_2 ev_2 => ?_)
  have ev_2 : v_2 = xs 1 := ev_2
  subst ev_2
  refine lv_aload_n hx hb dL_law_933 rfl (lv_at hl 4 rfl) ?_
  refine lv_iload hx hb dL_law_934 (lv_at hl 0 rfl) ?_
  refine lv_iconst (v := 2) hx hb dL_law_936 (by decide) ?_
  refine lv_iadd hx hb dL_law_937 ?_
  refine lv_topi (fun v_3 ev_3 => ?_)
  have ev_3 : v_3 = 2 := ev_3.trans (by decide)
  subst ev_3
  refine va_sld hx hb hX hbl hbA hS (by exact fun h => by rcases h with h | h <;> revert h <;> decide) dL_law_938 ?_
  refine lv_topi (fun v_4 ev_4 => ?_)
  have ev_4 : v_4 = xs 2 := ev_4
  subst ev_4
  refine lv_aload_n hx hb dL_law_939 rfl (lv_at hl 4 rfl) ?_
  refine lv_iload hx hb dL_law_940 (lv_at hl 0 rfl) ?_
  refine lv_iconst (v := 3) hx hb dL_law_942 (by decide) ?_
  refine lv_iadd hx hb dL_law_943 ?_
  refine lv_topi (fun v_5 ev_5 => ?_)
  have ev_5 : v_5 = 3 := ev_5.trans (by decide)
  subst ev_5
  refine va_sld hx hb hX hbl hbA hS (by exact fun h => by rcases h with h | h <;> revert h <;> decide) dL_law_944 ?_
  refine lv_topi (fun v_6 ev_6 => ?_)
  have ev_6 : v_6 = xs 3 := ev_6
  subst ev_6
  refine lv_aload_n hx hb dL_law_945 rfl (lv_at hl 4 rfl) ?_
  refine lv_iload hx hb dL_law_946 (lv_at hl 0 rfl) ?_
  refine lv_iconst (v := 4) hx hb dL_law_948 (by decide) ?_
  refine lv_iadd hx hb dL_law_949 ?_
  refine lv_topi (fun v_7 ev_7 => ?_)
  have ev_7 : v_7 = 4 := ev_7.trans (by decide)
  subst ev_7
  refine va_sld hx hb hX hbl hbA hS (by exact fun h => by rcases h with h | h <;> revert h <;> decide) dL_law_950 ?_
  refine lv_topi (fun v_8 ev_8 => ?_)
  have ev_8 : v_8 = xs 4 := ev_8
  subst ev_8
  refine lv_aload_n hx hb dL_law_951 rfl (lv_at hl 4 rfl) ?_
  refine lv_iload hx hb dL_law_952 (lv_at hl 0 rfl) ?_
  refine lv_iconst (v := 5) hx hb dL_law_954 (by decide) ?_
  refine lv_iadd hx hb dL_law_955 ?_
  refine lv_topi (fun v_9 ev_9 => ?_)
  have ev_9 : v_9 = 5 := ev_9.trans (by decide)
  subst ev_9
  refine va_sld hx hb hX hbl hbA hS (by exact fun h => by rcases h with h | h <;> revert h <;> decide) dL_law_956 ?_
  refine lv_topi (fun v_10 ev_10 => ?_)
  have ev_10 : v_10 = xs 5 := ev_10
  subst ev_10
  refine lv_aload_n hx hb dL_law_957 rfl (lv_at hl 1 rfl) ?_
  have hPc := hP.sub (ws' := [(c0, .inr (11, fs_c0)), (qC, .inr (2, fs_qC))]) [0, 1] rfl
  have hDc := hD.sub (ws' := [(c0, .inr (11, fs_c0)), (qC, .inr (2, fs_qC))]) [0, 1] (by decide) rfl
  have hKc := hK.sub (tys' := []) [] rfl
  have hFc := va_free (wc := [(c0, .inr (11, fs_c0)), (qC, .inr (2, fs_qC))]) hD hS hA [0, 1] rfl
  refine vx_calli (vx_runSX (As := [.ref c0, .int (xs 1), .int (xs 2), .int (xs 3), .int (xs 4), .int (xs 5), .ref qo]) (rest := []) ⟨hx, hb, hml, hown, hts⟩ (c_l_constant l hlt dC dI c0 qC qo ((xs 1)) ((xs 2)) ((xs 3)) ((xs 4)) ((xs 5)) fs_c0 fs_qC (mF.sub hF_c0 [0] rfl) (mF.sub hF_qC [0] rfl) H.size) (vx_cwSW 7 hts g_law_wv_l_constant_156 rfl rfl rfl hd_L_constant ⟨Nat.le_of_ble_eq_true rfl, Nat.le_of_ble_eq_true rfl⟩) ⟨fun a U g mk q => by obtain ⟨q0, q1, qP, qK, qD, qE0, qE1, qE2⟩ := q; exact ⟨q0, q1, qP, va_K.moved (u := U) (U := U.calling g mk a) (Vm.Alike.refl U.vm) qK, qD, w_N.same rfl qE0, w_T.same rfl rfl qE1, w_C.same rfl rfl qE2⟩, fun U hU hW => ⟨rfl, by rw [hU], by rw [hU]; exact hPc, va_K.moved hW.alike hKc, hDc.weaken (fun _ _ _ _ => trivial), w_N.warm hW hN, w_T.go hT hW hS.2.1 hFc hU, w_C.go hC hW hS.2.1 hFc hU⟩⟩ rfl rfl hl.1 rfl (lv_room (Nat.le_of_ble_eq_true rfl)) dL_law_958 ⟨(Nat.le_of_ble_eq_true rfl), (Nat.le_of_ble_eq_true rfl)⟩) hS (fun q _ h => hFc q h) hFc (fun q _ h => hFc q h) (fun E9 ce9 q9 u t H1 locs1 ht hvm hpx hBX hz1 hk1 hS1 hcell9 hv9 hcl9 => ?_) (fun r_11 u t H1 locs1 ht hvm hw hB hz1 hk1 hS1 => ?_)
  · skip
    exact (hpx : False).elim
  · skip
    obtain ⟨hP1, hK1, hD1⟩ := hB
    rw [ht] at hP1
    have hK1 := va_K.moved hvm.symm hK1
    have hJ := va_join (wr := [(qo, .inl (ko, 1, .inr (.inl fo))), (n0, .inr (15, fs_n0))]) (w1 := []) hP hD [0, 1] [2, 3] rfl rfl (by decide) (by decide) hk1 hFc hP1 hD1
    clear hP hD hPc hDc hKc hFc hz1; try clear hk1
    obtain ⟨hP, hD⟩ := hJ
    replace hK := (hK.sub (tys' := [(ko, .long)]) [0] rfl).app (hK1.sub (tys' := []) [] rfl)
    clear hP1 hK1 hD1 hvm ht hS; try clear t
    try clear H
    revert hS1
    intro hS
    generalize H1 = H at hP hS ⊢; try clear H1
    replace hP : va_P (dC, dI) vwCl [(qo, .inl (ko, 1, .inr (.inl fo))), (n0, .inr (15, fs_n0))] H := hP
    replace hD : va_D A [(qo, .inl (ko, 1, .inr (.inl fo))), (n0, .inr (15, fs_n0))] := hD
    replace hK : va_K (dC, dI) vwCl [(ko, .long)] s := hK
    have hw_12 : r_11 = 3 := hw; clear hw
    subst hw_12
    refine lv_istore (lv' := [(5, .int 3), (4, .int 0), (3, .ref qo), (2, .ref n0), (1, .ref c0), (0, .ref b)]) hx hb dL_law_961 hl (by decide) rfl (fun ls hl => ?_)
    refine lv_aload_n hx hb dL_law_963 rfl (lv_at hl 3 rfl) ?_
    refine lv_aload_n hx hb dL_law_964 rfl (lv_at hl 5 rfl) ?_
    refine lv_iload hx hb dL_law_965 (lv_at hl 1 rfl) ?_
    refine lv_iconst (v := 1) hx hb dL_law_967 (by decide) ?_
    refine lv_iadd hx hb dL_law_968 ?_
    refine lv_topi (fun v_13 ev_13 => ?_)
    have ev_13 : v_13 = 1 := ev_13.trans (by decide)
    subst ev_13
    refine va_sld hx hb hX hbl hbA hS (by exact fun h => by rcases h with h | h <;> revert h <;> decide) dL_law_969 ?_
    refine lv_topi (fun v_14 ev_14 => ?_)
    have ev_14 : v_14 = xs 1 := ev_14
    subst ev_14
    refine lv_aload_n hx hb dL_law_970 rfl (lv_at hl 5 rfl) ?_
    refine lv_iload hx hb dL_law_971 (lv_at hl 1 rfl) ?_
    refine lv_iconst (v := 2) hx hb dL_law_973 (by decide) ?_
    refine lv_iadd hx hb dL_law_974 ?_
    refine lv_topi (fun v_15 ev_15 => ?_)
    have ev_15 : v_15 = 2 := ev_15.trans (by decide)
    subst ev_15
    refine va_sld hx hb hX hbl hbA hS (by exact fun h => by rcases h with h | h <;> revert h <;> decide) dL_law_975 ?_
    refine lv_topi (fun v_16 ev_16 => ?_)
    have ev_16 : v_16 = xs 2 := ev_16
    subst ev_16
    refine lv_aload_n hx hb dL_law_976 rfl (lv_at hl 5 rfl) ?_
    refine lv_iload hx hb dL_law_977 (lv_at hl 1 rfl) ?_
    refine lv_iconst (v := 3) hx hb dL_law_979 (by decide) ?_
    refine lv_iadd hx hb dL_law_980 ?_
    refine lv_topi (fun v_17 ev_17 => ?_)
    have ev_17 : v_17 = 3 := ev_17.trans (by decide)
    subst ev_17
    refine va_sld hx hb hX hbl hbA hS (by exact fun h => by rcases h with h | h <;> revert h <;> decide) dL_law_981 ?_
    refine lv_topi (fun v_18 ev_18 => ?_)
    have ev_18 : v_18 = xs 3 := ev_18
    subst ev_18
    refine lv_aload_n hx hb dL_law_982 rfl (lv_at hl 5 rfl) ?_
    refine lv_iload hx hb dL_law_983 (lv_at hl 1 rfl) ?_
    refine lv_iconst (v := 4) hx hb dL_law_985 (by decide) ?_
    refine lv_iadd hx hb dL_law_986 ?_
    refine lv_topi (fun v_19 ev_19 => ?_)
    have ev_19 : v_19 = 4 := ev_19.trans (by decide)
    subst ev_19
    refine va_sld hx hb hX hbl hbA hS (by exact fun h => by rcases h with h | h <;> revert h <;> decide) dL_law_987 ?_
    refine lv_topi (fun v_20 ev_20 => ?_)
    have ev_20 : v_20 = xs 4 := ev_20
    subst ev_20
    refine lv_aload_n hx hb dL_law_988 rfl (lv_at hl 5 rfl) ?_
    refine lv_iload hx hb dL_law_989 (lv_at hl 1 rfl) ?_
    refine lv_iconst (v := 5) hx hb dL_law_991 (by decide) ?_
    refine lv_iadd hx hb dL_law_992 ?_
    refine lv_topi (fun v_21 ev_21 => ?_)
    have ev_21 : v_21 = 5 := ev_21.trans (by decide)
    subst ev_21
    refine va_sld hx hb hX hbl hbA hS (by exact fun h => by rcases h with h | h <;> revert h <;> decide) dL_law_993 ?_
    refine lv_topi (fun v_22 ev_22 => ?_)
    have ev_22 : v_22 = xs 5 := ev_22
    subst ev_22
    have hPc := hP.sub (ws' := [(n0, .inr (15, fs_n0))]) [1] rfl
    have hDc := hD.sub (ws' := [(n0, .inr (15, fs_n0))]) [1] (by decide) rfl
    have hKc := hK.sub (tys' := []) [] rfl
    have hFc := va_free (wc := [(n0, .inr (15, fs_n0))]) hD hS hA [1] rfl
    refine va_calll (va_runV (As := [.int (xs 1), .int (xs 2), .int (xs 3), .int (xs 4), .int (xs 5)]) (rest := []) ⟨hx, hb, hml, hown, hts⟩ (c_m_constant l dC dI n0 qfed qf qfd qs qk ((xs 1)) ((xs 2)) ((xs 3)) ((xs 4)) ((xs 5)) fs_n0 (mF.sub hF_n0 [0, 1, 2, 3, 4, 5, 6, 7, 8, 9, 10, 11, 12, 13, 14, 15, 16, 17, 18] rfl) H.size) (cwV 5 hts g_law_wv_m_constant_159 rfl rfl rfl hv_X15_constant ⟨Nat.le_of_ble_eq_true rfl, Nat.le_of_ble_eq_true rfl⟩) ⟨fun a U g mk q => by obtain ⟨q0, q1, qP, qK, qD, qE0⟩ := q; exact ⟨q0, q1, qP, va_K.moved (u := U) (U := U.calling g mk a) (Vm.Alike.refl U.vm) qK, qD, w_N.same rfl qE0⟩, va_recv hKc hPc (ci := 15) (q0 := 0) rfl rfl, fun U hU hW => ⟨rfl, by rw [hU], by rw [hU]; exact hPc, va_K.moved hW.alike hKc, hDc.weaken (fun _ _ _ _ => trivial), w_N.warm hW hN⟩⟩ rfl rfl hl.1 rfl (lv_room (Nat.le_of_ble_eq_true rfl)) dL_law_994 ⟨(Nat.le_of_ble_eq_true rfl), (Nat.le_of_ble_eq_true rfl)⟩) hS (fun q _ h => hFc q h) hFc (fun r_23 u t H1 locs1 ht hvm hw hB hz1 hk1 hS1 => ?_)
    obtain ⟨fs_24, hP1, hK1, hD1, hp_25⟩ := hB
    rw [ht] at hP1
    have hK1 := va_K.moved hvm.symm hK1
    have hJ := va_join (wr := [(qo, .inl (ko, 1, .inr (.inl fo)))]) (w1 := [(n0, .inr (15, fs_24))]) hP hD [1] [0] rfl rfl (by decide) (by decide) hk1 hFc hP1 hD1
    clear hP hD hPc hDc hKc hFc hz1; try clear hk1
    obtain ⟨hP, hD⟩ := hJ
    replace hK := (hK.sub (tys' := [(ko, .long)]) [0] rfl).app (hK1.sub (tys' := []) [] rfl)
    clear hP1 hK1 hD1 hvm ht hS; try clear t
    try clear H
    revert hS1
    intro hS
    generalize H1 = H at hP hS ⊢; try clear H1
    replace hP : va_P (dC, dI) vwCl [(qo, .inl (ko, 1, .inr (.inl fo))), (n0, .inr (15, fs_24))] H := hP
    replace hD : va_D A [(qo, .inl (ko, 1, .inr (.inl fo))), (n0, .inr (15, fs_24))] := hD
    replace hK : va_K (dC, dI) vwCl [(ko, .long)] s := hK
    have hw_26 : True := hw; clear hw
    refine lv_lstore (lv' := [(6, .long r_23), (5, .int 3), (4, .int 0), (3, .ref qo), (2, .ref n0), (1, .ref c0), (0, .ref b)]) hx hb dL_law_997 hl (by decide) rfl (fun ls hl => ?_)
    refine lv_aload_n hx hb dL_law_999 rfl (lv_at hl 4 rfl) ?_
    have hPc := hP.sub (ws' := [(n0, .inr (15, fs_24))]) [1] rfl
    have hDc := hD.sub (ws' := [(n0, .inr (15, fs_24))]) [1] (by decide) rfl
    have hKc := hK.sub (tys' := []) [] rfl
    have hFc := va_free (wc := [(n0, .inr (15, fs_24))]) hD hS hA [1] rfl
    refine va_calli (va_runV (As := []) (rest := []) ⟨hx, hb, hml, hown, hts⟩ (c_m_thrown l dC dI n0 3 fs_24 (mF.sub hp_25 [0] rfl) H.size) (cwV 0 hts g_law_wv_m_thrown_117 rfl rfl rfl hv_X15_thrown ⟨Nat.le_of_ble_eq_true rfl, Nat.le_of_ble_eq_true rfl⟩) ⟨fun a U g mk q => by obtain ⟨q0, q1, qP, qK, qD, qE0⟩ := q; exact ⟨q0, q1, qP, va_K.moved (u := U) (U := U.calling g mk a) (Vm.Alike.refl U.vm) qK, qD, w_N.same rfl qE0⟩, va_recv hKc hPc (ci := 15) (q0 := 0) rfl rfl, fun U hU hW => ⟨rfl, by rw [hU], by rw [hU]; exact hPc, va_K.moved hW.alike hKc, hDc.weaken (fun _ _ _ _ => trivial), w_N.warm hW hN⟩⟩ rfl rfl hl.1 rfl (lv_room (Nat.le_of_ble_eq_true rfl)) dL_law_1000 ⟨(Nat.le_of_ble_eq_true rfl), (Nat.le_of_ble_eq_true rfl)⟩) hS (fun q _ h => hFc q h) hFc (fun r_27 u t H1 locs1 ht hvm hw hB hz1 hk1 hS1 => ?_)
    obtain ⟨hP1, hK1, hD1⟩ := hB
    rw [ht] at hP1
    have hK1 := va_K.moved hvm.symm hK1
    have hJ := va_join (wr := [(qo, .inl (ko, 1, .inr (.inl fo)))]) (w1 := []) hP hD [1] [0] rfl rfl (by decide) (by decide) hk1 hFc hP1 hD1
    clear hP hD hPc hDc hKc hFc hz1; try clear hk1
    obtain ⟨hP, hD⟩ := hJ
    replace hK := (hK.sub (tys' := [(ko, .long)]) [0] rfl).app (hK1.sub (tys' := []) [] rfl)
    clear hP1 hK1 hD1 hvm ht hS; try clear t
    try clear H
    revert hS1
    intro hS
    generalize H1 = H at hP hS ⊢; try clear H1
    replace hP : va_P (dC, dI) vwCl [(qo, .inl (ko, 1, .inr (.inl fo)))] H := hP
    replace hD : va_D A [(qo, .inl (ko, 1, .inr (.inl fo)))] := hD
    replace hK : va_K (dC, dI) vwCl [(ko, .long)] s := hK
    have hw_28 : r_27 = 3 := hw; clear hw
    subst hw_28
    refine lv_iload hx hb dL_law_1003 (lv_at hl 1 rfl) ?_
    refine lv_icmp_eq (tgt := 1010) hx hb dL_law_1005 (by decide) (fun _ => ?_) (fun hc => absurd (by decide) hc)
    refine lv_iload hx hb dL_law_1010 (lv_at hl 1 rfl) ?_
    refine lv_if_ne (tgt := 1026) hx hb dL_law_1012 (by decide) (fun _ => ?_) (fun hc => absurd hc (by decide))
    refine lv_goto (tgt := 2018) hx hb dL_law_1026 (by decide) ?_
    exact law_tail C0 hA2 hbA hS (lv_sub hl [2, 6] rfl) (Nat.le_of_ble_eq_true rfl) (Nat.le_of_ble_eq_true rfl)
set_option maxHeartbeats 4000000 in
set_option maxRecDepth 100000 in
/-- the law at a call of kind on fresh objects -/
theorem law_case_kind {p : Program} {l : Launch} (hlt : l.stackTraces = false) {e : Env} {s : State} {m : MethodId} {below : List Frame} {meth : Method} {c : Code} {b : Nat} {xs : Nat → Int32} (C0 : lw_At p s m meth c b 6 xs) {dC : Nat → ClassId} {dI : Nat → Nat → Nat} {A : Nat → Prop} (hA : ∀ q : Nat, s.heap.size ≤ q → A q) (hA2 : ∀ q : Nat, A q → s.heap.size ≤ q) (hbA : ¬ A b) (hN : w_N s) (hT : w_T A s s.heap) (hSt : w_S A s s.heap) (hC : w_C A s s.heap) {H : Heap} {locs : List Loc} {ls : Array Slot} {c0 : Nat} {n0 : Nat} {qC : Nat} {qo : Nat} {fs_qC : List Value} {ko : Nat} {fo : Nat → Int64} {qfed : Nat} {qf : Nat} {qfd : Nat} {qs : Nat} {qk : Nat} {fs_c0 : List Value} {fs_n0 : List Value} (hP : va_P (dC, dI) vwCl [(c0, .inr (11, fs_c0)), (qC, .inr (2, fs_qC)), (qo, .inl (ko, 1, .inr (.inl fo))), (n0, .inr (15, fs_n0))] H) (hD : va_D A [(c0, .inr (11, fs_c0)), (qC, .inr (2, fs_qC)), (qo, .inl (ko, 1, .inr (.inl fo))), (n0, .inr (15, fs_n0))]) (hK : va_K (dC, dI) vwCl [(ko, .long)] s) (hS : va_S A s.heap H locs) (hl : lv_has ls 8 [(4, .int 0), (3, .ref qo), (2, .ref n0), (1, .ref c0), (0, .ref b)]) (hF_c0 : mF 19 [(7, .ref qC)] fs_c0) (hF_qC : mF 13 [(8, .int 0)] fs_qC) (hF_n0 : mF 89 [(0, .int 0), (18, .int 0), (19, .int 0), (20, .int (-1)), (21, .int 0), (22, .int 0), (23, .int 0), (24, .int 0), (25, .int 0), (27, .int 0), (28, .int 0), (29, .int 0), (35, .int 0), (17, .int (-1)), (26, .ref qfed), (30, .ref qf), (31, .ref qfd), (33, .ref qs), (36, .ref qk)] fs_n0) : W p l e room_1 s m #[Value.ref b] below meth c H locs 15894 3343160 (lw_Z below #[Value.ref b] s) (F0 m 1029 ls []) := by
  have hx := C0.1; have hb := C0.2.1; have hml := C0.2.2.2.1; have hown := C0.2.2.2.2.1; have hts := C0.2.2.2.2.2.1; have hX := C0.2.2.2.2.2.2.1; have hbl := C0.2.2.2.2.2.2.2.1; have hlocks := C0.2.2.2.2.2.2.2.2.1
  refine lv_aload_n hx hb dL_law_1029 rfl (lv_at hl 3 rfl) ?_
  refine lv_aload_n hx hb dL_law_1030 rfl (lv_at hl 4 rfl) ?_
  refine lv_iload hx hb dL_law_1031 (lv_at hl 0 rfl) ?_
  refine lv_iconst (v := 1) hx hb dL_law_1033 (by decide) ?_
  refine lv_iadd hx hb dL_law_1034 ?_
  refine lv_topi (fun v_1 ev_1 => ?_)
  have ev_1 : v_1 = 1 := ev_1.trans (by decide)
  subst ev_1
  refine va_sld hx hb hX hbl hbA hS (by exact fun h => by rcases h with h | h <;> revert h <;> decide) dL_law_1035 ?_
  refine lv_topi (fun v_2 ev_2 => ?_)
  have ev_2 : v_2 = xs 1 := ev_2
  subst ev_2
  refine lv_aload_n hx hb dL_law_1036 rfl (lv_at hl 4 rfl) ?_
  refine lv_iload hx hb dL_law_1037 (lv_at hl 0 rfl) ?_
  refine lv_iconst (v := 2) hx hb dL_law_1039 (by decide) ?_
  refine lv_iadd hx hb dL_law_1040 ?_
  refine lv_topi (fun v_3 ev_3 => ?_)
  have ev_3 : v_3 = 2 := ev_3.trans (by decide)
  subst ev_3
  refine va_sld hx hb hX hbl hbA hS (by exact fun h => by rcases h with h | h <;> revert h <;> decide) dL_law_1041 ?_
  refine lv_topi (fun v_4 ev_4 => ?_)
  have ev_4 : v_4 = xs 2 := ev_4
  subst ev_4
  refine lv_aload_n hx hb dL_law_1042 rfl (lv_at hl 1 rfl) ?_
  have hPc := hP.sub (ws' := [(c0, .inr (11, fs_c0)), (qC, .inr (2, fs_qC))]) [0, 1] rfl
  have hDc := hD.sub (ws' := [(c0, .inr (11, fs_c0)), (qC, .inr (2, fs_qC))]) [0, 1] (by decide) rfl
  have hKc := hK.sub (tys' := []) [] rfl
  have hFc := va_free (wc := [(c0, .inr (11, fs_c0)), (qC, .inr (2, fs_qC))]) hD hS hA [0, 1] rfl
  refine vx_calli (vx_runSX (As := [.ref c0, .int (xs 1), .int (xs 2), .ref qo]) (rest := []) ⟨hx, hb, hml, hown, hts⟩ (c_l_kind l hlt dC dI c0 qC qo ((xs 1)) ((xs 2)) fs_c0 fs_qC (mF.sub hF_c0 [0] rfl) (mF.sub hF_qC [0] rfl) H.size) (vx_cwSW 4 hts g_law_wv_l_kind_160 rfl rfl rfl hd_L_kind ⟨Nat.le_of_ble_eq_true rfl, Nat.le_of_ble_eq_true rfl⟩) ⟨fun a U g mk q => by obtain ⟨q0, q1, qP, qK, qD, qE0, qE1, qE2⟩ := q; exact ⟨q0, q1, qP, va_K.moved (u := U) (U := U.calling g mk a) (Vm.Alike.refl U.vm) qK, qD, w_N.same rfl qE0, w_T.same rfl rfl qE1, w_C.same rfl rfl qE2⟩, fun U hU hW => ⟨rfl, by rw [hU], by rw [hU]; exact hPc, va_K.moved hW.alike hKc, hDc.weaken (fun _ _ _ _ => trivial), w_N.warm hW hN, w_T.go hT hW hS.2.1 hFc hU, w_C.go hC hW hS.2.1 hFc hU⟩⟩ rfl rfl hl.1 rfl (lv_room (Nat.le_of_ble_eq_true rfl)) dL_law_1043 ⟨(Nat.le_of_ble_eq_true rfl), (Nat.le_of_ble_eq_true rfl)⟩) hS (fun q _ h => hFc q h) hFc (fun q _ h => hFc q h) (fun E9 ce9 q9 u t H1 locs1 ht hvm hpx hBX hz1 hk1 hS1 hcell9 hv9 hcl9 => ?_) (fun r_5 u t H1 locs1 ht hvm hw hB hz1 hk1 hS1 => ?_)
  · skip
    exact (hpx : False).elim
  · skip
    obtain ⟨hP1, hK1, hD1⟩ := hB
    rw [ht] at hP1
    have hK1 := va_K.moved hvm.symm hK1
    have hJ := va_join (wr := [(qo, .inl (ko, 1, .inr (.inl fo))), (n0, .inr (15, fs_n0))]) (w1 := []) hP hD [0, 1] [2, 3] rfl rfl (by decide) (by decide) hk1 hFc hP1 hD1
    clear hP hD hPc hDc hKc hFc hz1; try clear hk1
    obtain ⟨hP, hD⟩ := hJ
    replace hK := (hK.sub (tys' := [(ko, .long)]) [0] rfl).app (hK1.sub (tys' := []) [] rfl)
    clear hP1 hK1 hD1 hvm ht hS; try clear t
    try clear H
    revert hS1
    intro hS
    generalize H1 = H at hP hS ⊢; try clear H1
    replace hP : va_P (dC, dI) vwCl [(qo, .inl (ko, 1, .inr (.inl fo))), (n0, .inr (15, fs_n0))] H := hP
    replace hD : va_D A [(qo, .inl (ko, 1, .inr (.inl fo))), (n0, .inr (15, fs_n0))] := hD
    replace hK : va_K (dC, dI) vwCl [(ko, .long)] s := hK
    have hw_6 : r_5 = 2 := hw; clear hw
    subst hw_6
    refine lv_istore (lv' := [(5, .int 2), (4, .int 0), (3, .ref qo), (2, .ref n0), (1, .ref c0), (0, .ref b)]) hx hb dL_law_1046 hl (by decide) rfl (fun ls hl => ?_)
    refine lv_aload_n hx hb dL_law_1048 rfl (lv_at hl 3 rfl) ?_
    refine lv_aload_n hx hb dL_law_1049 rfl (lv_at hl 5 rfl) ?_
    refine lv_iload hx hb dL_law_1050 (lv_at hl 1 rfl) ?_
    refine lv_iconst (v := 1) hx hb dL_law_1052 (by decide) ?_
    refine lv_iadd hx hb dL_law_1053 ?_
    refine lv_topi (fun v_7 ev_7 => ?_)
    have ev_7 : v_7 = 1 := ev_7.trans (by decide)
    subst ev_7
    refine va_sld hx hb hX hbl hbA hS (by exact fun h => by rcases h with h | h <;> revert h <;> decide) dL_law_1054 ?_
    refine lv_topi (fun v_8 ev_8 => ?_)
    have ev_8 : v_8 = xs 1 := ev_8
    subst ev_8
    refine lv_aload_n hx hb dL_law_1055 rfl (lv_at hl 5 rfl) ?_
    refine lv_iload hx hb dL_law_1056 (lv_at hl 1 rfl) ?_
    refine lv_iconst (v := 2) hx hb dL_law_1058 (by decide) ?_
    refine lv_iadd hx hb dL_law_1059 ?_
    refine lv_topi (fun v_9 ev_9 => ?_)
    have ev_9 : v_9 = 2 := ev_9.trans (by decide)
    subst ev_9
    refine va_sld hx hb hX hbl hbA hS (by exact fun h => by rcases h with h | h <;> revert h <;> decide) dL_law_1060 ?_
    refine lv_topi (fun v_10 ev_10 => ?_)
    have ev_10 : v_10 = xs 2 := ev_10
    subst ev_10
    have hPc := hP.sub (ws' := [(n0, .inr (15, fs_n0))]) [1] rfl
    have hDc := hD.sub (ws' := [(n0, .inr (15, fs_n0))]) [1] (by decide) rfl
    have hKc := hK.sub (tys' := []) [] rfl
    have hFc := va_free (wc := [(n0, .inr (15, fs_n0))]) hD hS hA [1] rfl
    refine va_calli (va_runV (As := [.int (xs 1), .int (xs 2)]) (rest := []) ⟨hx, hb, hml, hown, hts⟩ (c_m_kind l dC dI n0 qfed qf qfd qs qk ((xs 1)) ((xs 2)) fs_n0 (mF.sub hF_n0 [0, 1, 2, 3, 4, 5, 6, 7, 8, 9, 10, 11, 12, 13, 14, 15, 16, 17, 18] rfl) H.size) (cwV 2 hts g_law_wv_m_kind_163 rfl rfl rfl hv_X15_kind ⟨Nat.le_of_ble_eq_true rfl, Nat.le_of_ble_eq_true rfl⟩) ⟨fun a U g mk q => by obtain ⟨q0, q1, qP, qK, qD, qE0⟩ := q; exact ⟨q0, q1, qP, va_K.moved (u := U) (U := U.calling g mk a) (Vm.Alike.refl U.vm) qK, qD, w_N.same rfl qE0⟩, va_recv hKc hPc (ci := 15) (q0 := 0) rfl rfl, fun U hU hW => ⟨rfl, by rw [hU], by rw [hU]; exact hPc, va_K.moved hW.alike hKc, hDc.weaken (fun _ _ _ _ => trivial), w_N.warm hW hN⟩⟩ rfl rfl hl.1 rfl (lv_room (Nat.le_of_ble_eq_true rfl)) dL_law_1061 ⟨(Nat.le_of_ble_eq_true rfl), (Nat.le_of_ble_eq_true rfl)⟩) hS (fun q _ h => hFc q h) hFc (fun r_11 u t H1 locs1 ht hvm hw hB hz1 hk1 hS1 => ?_)
    obtain ⟨fs_12, hP1, hK1, hD1, hp_13⟩ := hB
    rw [ht] at hP1
    have hK1 := va_K.moved hvm.symm hK1
    have hJ := va_join (wr := [(qo, .inl (ko, 1, .inr (.inl fo)))]) (w1 := [(n0, .inr (15, fs_12))]) hP hD [1] [0] rfl rfl (by decide) (by decide) hk1 hFc hP1 hD1
    clear hP hD hPc hDc hKc hFc hz1; try clear hk1
    obtain ⟨hP, hD⟩ := hJ
    replace hK := (hK.sub (tys' := [(ko, .long)]) [0] rfl).app (hK1.sub (tys' := []) [] rfl)
    clear hP1 hK1 hD1 hvm ht hS; try clear t
    try clear H
    revert hS1
    intro hS
    generalize H1 = H at hP hS ⊢; try clear H1
    replace hP : va_P (dC, dI) vwCl [(qo, .inl (ko, 1, .inr (.inl fo))), (n0, .inr (15, fs_12))] H := hP
    replace hD : va_D A [(qo, .inl (ko, 1, .inr (.inl fo))), (n0, .inr (15, fs_12))] := hD
    replace hK : va_K (dC, dI) vwCl [(ko, .long)] s := hK
    have hw_14 : True := hw; clear hw
    refine lv_istore (lv' := [(6, .int r_11), (5, .int 2), (4, .int 0), (3, .ref qo), (2, .ref n0), (1, .ref c0), (0, .ref b)]) hx hb dL_law_1064 hl (by decide) rfl (fun ls hl => ?_)
    refine lv_aload_n hx hb dL_law_1066 rfl (lv_at hl 4 rfl) ?_
    have hPc := hP.sub (ws' := [(n0, .inr (15, fs_12))]) [1] rfl
    have hDc := hD.sub (ws' := [(n0, .inr (15, fs_12))]) [1] (by decide) rfl
    have hKc := hK.sub (tys' := []) [] rfl
    have hFc := va_free (wc := [(n0, .inr (15, fs_12))]) hD hS hA [1] rfl
    refine va_calli (va_runV (As := []) (rest := []) ⟨hx, hb, hml, hown, hts⟩ (c_m_thrown l dC dI n0 2 fs_12 (mF.sub hp_13 [0] rfl) H.size) (cwV 0 hts g_law_wv_m_thrown_117 rfl rfl rfl hv_X15_thrown ⟨Nat.le_of_ble_eq_true rfl, Nat.le_of_ble_eq_true rfl⟩) ⟨fun a U g mk q => by obtain ⟨q0, q1, qP, qK, qD, qE0⟩ := q; exact ⟨q0, q1, qP, va_K.moved (u := U) (U := U.calling g mk a) (Vm.Alike.refl U.vm) qK, qD, w_N.same rfl qE0⟩, va_recv hKc hPc (ci := 15) (q0 := 0) rfl rfl, fun U hU hW => ⟨rfl, by rw [hU], by rw [hU]; exact hPc, va_K.moved hW.alike hKc, hDc.weaken (fun _ _ _ _ => trivial), w_N.warm hW hN⟩⟩ rfl rfl hl.1 rfl (lv_room (Nat.le_of_ble_eq_true rfl)) dL_law_1067 ⟨(Nat.le_of_ble_eq_true rfl), (Nat.le_of_ble_eq_true rfl)⟩) hS (fun q _ h => hFc q h) hFc (fun r_15 u t H1 locs1 ht hvm hw hB hz1 hk1 hS1 => ?_)
    obtain ⟨hP1, hK1, hD1⟩ := hB
    rw [ht] at hP1
    have hK1 := va_K.moved hvm.symm hK1
    have hJ := va_join (wr := [(qo, .inl (ko, 1, .inr (.inl fo)))]) (w1 := []) hP hD [1] [0] rfl rfl (by decide) (by decide) hk1 hFc hP1 hD1
    clear hP hD hPc hDc hKc hFc hz1; try clear hk1
    obtain ⟨hP, hD⟩ := hJ
    replace hK := (hK.sub (tys' := [(ko, .long)]) [0] rfl).app (hK1.sub (tys' := []) [] rfl)
    clear hP1 hK1 hD1 hvm ht hS; try clear t
    try clear H
    revert hS1
    intro hS
    generalize H1 = H at hP hS ⊢; try clear H1
    replace hP : va_P (dC, dI) vwCl [(qo, .inl (ko, 1, .inr (.inl fo)))] H := hP
    replace hD : va_D A [(qo, .inl (ko, 1, .inr (.inl fo)))] := hD
    replace hK : va_K (dC, dI) vwCl [(ko, .long)] s := hK
    have hw_16 : r_15 = 2 := hw; clear hw
    subst hw_16
    refine lv_iload hx hb dL_law_1070 (lv_at hl 1 rfl) ?_
    refine lv_icmp_eq (tgt := 1077) hx hb dL_law_1072 (by decide) (fun _ => ?_) (fun hc => absurd (by decide) hc)
    refine lv_iload hx hb dL_law_1077 (lv_at hl 1 rfl) ?_
    refine lv_if_ne (tgt := 1094) hx hb dL_law_1079 (by decide) (fun _ => ?_) (fun hc => absurd hc (by decide))
    refine lv_goto (tgt := 2018) hx hb dL_law_1094 (by decide) ?_
    exact law_tail C0 hA2 hbA hS (lv_sub hl [2, 6] rfl) (Nat.le_of_ble_eq_true rfl) (Nat.le_of_ble_eq_true rfl)
set_option maxHeartbeats 4000000 in
set_option maxRecDepth 100000 in
/-- the law at a call of steps on fresh objects -/
theorem law_case_steps {p : Program} {l : Launch} (hlt : l.stackTraces = false) {e : Env} {s : State} {m : MethodId} {below : List Frame} {meth : Method} {c : Code} {b : Nat} {xs : Nat → Int32} (C0 : lw_At p s m meth c b 6 xs) {dC : Nat → ClassId} {dI : Nat → Nat → Nat} {A : Nat → Prop} (hA : ∀ q : Nat, s.heap.size ≤ q → A q) (hA2 : ∀ q : Nat, A q → s.heap.size ≤ q) (hbA : ¬ A b) (hN : w_N s) (hT : w_T A s s.heap) (hSt : w_S A s s.heap) (hC : w_C A s s.heap) {H : Heap} {locs : List Loc} {ls : Array Slot} {c0 : Nat} {n0 : Nat} {qC : Nat} {qo : Nat} {fs_qC : List Value} {ko : Nat} {fo : Nat → Int64} {qfed : Nat} {qf : Nat} {qfd : Nat} {qs : Nat} {qk : Nat} {fs_c0 : List Value} {fs_n0 : List Value} (hP : va_P (dC, dI) vwCl [(c0, .inr (11, fs_c0)), (qC, .inr (2, fs_qC)), (qo, .inl (ko, 1, .inr (.inl fo))), (n0, .inr (15, fs_n0))] H) (hD : va_D A [(c0, .inr (11, fs_c0)), (qC, .inr (2, fs_qC)), (qo, .inl (ko, 1, .inr (.inl fo))), (n0, .inr (15, fs_n0))]) (hK : va_K (dC, dI) vwCl [(ko, .long)] s) (hS : va_S A s.heap H locs) (hl : lv_has ls 8 [(4, .int 0), (3, .ref qo), (2, .ref n0), (1, .ref c0), (0, .ref b)]) (hF_c0 : mF 19 [(7, .ref qC)] fs_c0) (hF_qC : mF 13 [(8, .int 0)] fs_qC) (hF_n0 : mF 89 [(0, .int 0), (18, .int 0), (19, .int 0), (20, .int (-1)), (21, .int 0), (22, .int 0), (23, .int 0), (24, .int 0), (25, .int 0), (27, .int 0), (28, .int 0), (29, .int 0), (35, .int 0), (17, .int (-1)), (26, .ref qfed), (30, .ref qf), (31, .ref qfd), (33, .ref qs), (36, .ref qk)] fs_n0) : W p l e room_1 s m #[Value.ref b] below meth c H locs 15894 3343160 (lw_Z below #[Value.ref b] s) (F0 m 1097 ls []) := by
  have hx := C0.1; have hb := C0.2.1; have hml := C0.2.2.2.1; have hown := C0.2.2.2.2.1; have hts := C0.2.2.2.2.2.1; have hX := C0.2.2.2.2.2.2.1; have hbl := C0.2.2.2.2.2.2.2.1; have hlocks := C0.2.2.2.2.2.2.2.2.1
  refine lv_aload_n hx hb dL_law_1097 rfl (lv_at hl 3 rfl) ?_
  refine lv_aload_n hx hb dL_law_1098 rfl (lv_at hl 4 rfl) ?_
  refine lv_iload hx hb dL_law_1099 (lv_at hl 0 rfl) ?_
  refine lv_iconst (v := 1) hx hb dL_law_1101 (by decide) ?_
  refine lv_iadd hx hb dL_law_1102 ?_
  refine lv_topi (fun v_1 ev_1 => ?_)
  have ev_1 : v_1 = 1 := ev_1.trans (by decide)
  subst ev_1
  refine va_sld hx hb hX hbl hbA hS (by exact fun h => by rcases h with h | h <;> revert h <;> decide) dL_law_1103 ?_
  refine lv_topi (fun v_2 ev_2 => ?_)
  have ev_2 : v_2 = xs 1 := ev_2
  subst ev_2
  refine lv_aload_n hx hb dL_law_1104 rfl (lv_at hl 4 rfl) ?_
  refine lv_iload hx hb dL_law_1105 (lv_at hl 0 rfl) ?_
  refine lv_iconst (v := 2) hx hb dL_law_1107 (by decide) ?_
  refine lv_iadd hx hb dL_law_1108 ?_
  refine lv_topi (fun v_3 ev_3 => ?_)
  have ev_3 : v_3 = 2 := ev_3.trans (by decide)
  subst ev_3
  refine va_sld hx hb hX hbl hbA hS (by exact fun h => by rcases h with h | h <;> revert h <;> decide) dL_law_1109 ?_
  refine lv_topi (fun v_4 ev_4 => ?_)
  have ev_4 : v_4 = xs 2 := ev_4
  subst ev_4
  refine lv_aload_n hx hb dL_law_1110 rfl (lv_at hl 4 rfl) ?_
  refine lv_iload hx hb dL_law_1111 (lv_at hl 0 rfl) ?_
  refine lv_iconst (v := 3) hx hb dL_law_1113 (by decide) ?_
  refine lv_iadd hx hb dL_law_1114 ?_
  refine lv_topi (fun v_5 ev_5 => ?_)
  have ev_5 : v_5 = 3 := ev_5.trans (by decide)
  subst ev_5
  refine va_sld hx hb hX hbl hbA hS (by exact fun h => by rcases h with h | h <;> revert h <;> decide) dL_law_1115 ?_
  refine lv_topi (fun v_6 ev_6 => ?_)
  have ev_6 : v_6 = xs 3 := ev_6
  subst ev_6
  refine lv_aload_n hx hb dL_law_1116 rfl (lv_at hl 1 rfl) ?_
  have hPc := hP.sub (ws' := [(c0, .inr (11, fs_c0)), (qC, .inr (2, fs_qC))]) [0, 1] rfl
  have hDc := hD.sub (ws' := [(c0, .inr (11, fs_c0)), (qC, .inr (2, fs_qC))]) [0, 1] (by decide) rfl
  have hKc := hK.sub (tys' := []) [] rfl
  have hFc := va_free (wc := [(c0, .inr (11, fs_c0)), (qC, .inr (2, fs_qC))]) hD hS hA [0, 1] rfl
  refine vx_calli (vx_runSX (As := [.ref c0, .int (xs 1), .int (xs 2), .int (xs 3), .ref qo]) (rest := []) ⟨hx, hb, hml, hown, hts⟩ (c_l_steps l hlt dC dI c0 qC qo ((xs 1)) ((xs 2)) ((xs 3)) fs_c0 fs_qC (mF.sub hF_c0 [0] rfl) (mF.sub hF_qC [0] rfl) H.size) (vx_cwSW 5 hts g_law_wv_l_steps_164 rfl rfl rfl hd_L_steps ⟨Nat.le_of_ble_eq_true rfl, Nat.le_of_ble_eq_true rfl⟩) ⟨fun a U g mk q => by obtain ⟨q0, q1, qP, qK, qD, qE0, qE1, qE2⟩ := q; exact ⟨q0, q1, qP, va_K.moved (u := U) (U := U.calling g mk a) (Vm.Alike.refl U.vm) qK, qD, w_N.same rfl qE0, w_T.same rfl rfl qE1, w_C.same rfl rfl qE2⟩, fun U hU hW => ⟨rfl, by rw [hU], by rw [hU]; exact hPc, va_K.moved hW.alike hKc, hDc.weaken (fun _ _ _ _ => trivial), w_N.warm hW hN, w_T.go hT hW hS.2.1 hFc hU, w_C.go hC hW hS.2.1 hFc hU⟩⟩ rfl rfl hl.1 rfl (lv_room (Nat.le_of_ble_eq_true rfl)) dL_law_1117 ⟨(Nat.le_of_ble_eq_true rfl), (Nat.le_of_ble_eq_true rfl)⟩) hS (fun q _ h => hFc q h) hFc (fun q _ h => hFc q h) (fun E9 ce9 q9 u t H1 locs1 ht hvm hpx hBX hz1 hk1 hS1 hcell9 hv9 hcl9 => ?_) (fun r_7 u t H1 locs1 ht hvm hw hB hz1 hk1 hS1 => ?_)
  · skip
    exact (hpx : False).elim
  · skip
    obtain ⟨hP1, hK1, hD1⟩ := hB
    rw [ht] at hP1
    have hK1 := va_K.moved hvm.symm hK1
    have hJ := va_join (wr := [(qo, .inl (ko, 1, .inr (.inl fo))), (n0, .inr (15, fs_n0))]) (w1 := []) hP hD [0, 1] [2, 3] rfl rfl (by decide) (by decide) hk1 hFc hP1 hD1
    clear hP hD hPc hDc hKc hFc hz1; try clear hk1
    obtain ⟨hP, hD⟩ := hJ
    replace hK := (hK.sub (tys' := [(ko, .long)]) [0] rfl).app (hK1.sub (tys' := []) [] rfl)
    clear hP1 hK1 hD1 hvm ht hS; try clear t
    try clear H
    revert hS1
    intro hS
    generalize H1 = H at hP hS ⊢; try clear H1
    replace hP : va_P (dC, dI) vwCl [(qo, .inl (ko, 1, .inr (.inl fo))), (n0, .inr (15, fs_n0))] H := hP
    replace hD : va_D A [(qo, .inl (ko, 1, .inr (.inl fo))), (n0, .inr (15, fs_n0))] := hD
    replace hK : va_K (dC, dI) vwCl [(ko, .long)] s := hK
    have hw_8 : r_7 = 3 := hw; clear hw
    subst hw_8
    refine lv_istore (lv' := [(5, .int 3), (4, .int 0), (3, .ref qo), (2, .ref n0), (1, .ref c0), (0, .ref b)]) hx hb dL_law_1120 hl (by decide) rfl (fun ls hl => ?_)
    refine lv_aload_n hx hb dL_law_1122 rfl (lv_at hl 3 rfl) ?_
    refine lv_aload_n hx hb dL_law_1123 rfl (lv_at hl 5 rfl) ?_
    refine lv_iload hx hb dL_law_1124 (lv_at hl 1 rfl) ?_
    refine lv_iconst (v := 1) hx hb dL_law_1126 (by decide) ?_
    refine lv_iadd hx hb dL_law_1127 ?_
    refine lv_topi (fun v_9 ev_9 => ?_)
    have ev_9 : v_9 = 1 := ev_9.trans (by decide)
    subst ev_9
    refine va_sld hx hb hX hbl hbA hS (by exact fun h => by rcases h with h | h <;> revert h <;> decide) dL_law_1128 ?_
    refine lv_topi (fun v_10 ev_10 => ?_)
    have ev_10 : v_10 = xs 1 := ev_10
    subst ev_10
    refine lv_aload_n hx hb dL_law_1129 rfl (lv_at hl 5 rfl) ?_
    refine lv_iload hx hb dL_law_1130 (lv_at hl 1 rfl) ?_
    refine lv_iconst (v := 2) hx hb dL_law_1132 (by decide) ?_
    refine lv_iadd hx hb dL_law_1133 ?_
    refine lv_topi (fun v_11 ev_11 => ?_)
    have ev_11 : v_11 = 2 := ev_11.trans (by decide)
    subst ev_11
    refine va_sld hx hb hX hbl hbA hS (by exact fun h => by rcases h with h | h <;> revert h <;> decide) dL_law_1134 ?_
    refine lv_topi (fun v_12 ev_12 => ?_)
    have ev_12 : v_12 = xs 2 := ev_12
    subst ev_12
    refine lv_aload_n hx hb dL_law_1135 rfl (lv_at hl 5 rfl) ?_
    refine lv_iload hx hb dL_law_1136 (lv_at hl 1 rfl) ?_
    refine lv_iconst (v := 3) hx hb dL_law_1138 (by decide) ?_
    refine lv_iadd hx hb dL_law_1139 ?_
    refine lv_topi (fun v_13 ev_13 => ?_)
    have ev_13 : v_13 = 3 := ev_13.trans (by decide)
    subst ev_13
    refine va_sld hx hb hX hbl hbA hS (by exact fun h => by rcases h with h | h <;> revert h <;> decide) dL_law_1140 ?_
    refine lv_topi (fun v_14 ev_14 => ?_)
    have ev_14 : v_14 = xs 3 := ev_14
    subst ev_14
    have hPc := hP.sub (ws' := [(n0, .inr (15, fs_n0))]) [1] rfl
    have hDc := hD.sub (ws' := [(n0, .inr (15, fs_n0))]) [1] (by decide) rfl
    have hKc := hK.sub (tys' := []) [] rfl
    have hFc := va_free (wc := [(n0, .inr (15, fs_n0))]) hD hS hA [1] rfl
    refine va_calli (va_runV (As := [.int (xs 1), .int (xs 2), .int (xs 3)]) (rest := []) ⟨hx, hb, hml, hown, hts⟩ (c_m_steps l dC dI n0 qfed qf qfd qs qk ((xs 1)) ((xs 2)) ((xs 3)) fs_n0 (mF.sub hF_n0 [0, 1, 2, 3, 4, 5, 6, 7, 8, 9, 10, 11, 12, 13, 14, 15, 16, 17, 18] rfl) H.size) (cwV 3 hts g_law_wv_m_steps_167 rfl rfl rfl hv_X15_steps ⟨Nat.le_of_ble_eq_true rfl, Nat.le_of_ble_eq_true rfl⟩) ⟨fun a U g mk q => by obtain ⟨q0, q1, qP, qK, qD, qE0⟩ := q; exact ⟨q0, q1, qP, va_K.moved (u := U) (U := U.calling g mk a) (Vm.Alike.refl U.vm) qK, qD, w_N.same rfl qE0⟩, va_recv hKc hPc (ci := 15) (q0 := 0) rfl rfl, fun U hU hW => ⟨rfl, by rw [hU], by rw [hU]; exact hPc, va_K.moved hW.alike hKc, hDc.weaken (fun _ _ _ _ => trivial), w_N.warm hW hN⟩⟩ rfl rfl hl.1 rfl (lv_room (Nat.le_of_ble_eq_true rfl)) dL_law_1141 ⟨(Nat.le_of_ble_eq_true rfl), (Nat.le_of_ble_eq_true rfl)⟩) hS (fun q _ h => hFc q h) hFc (fun r_15 u t H1 locs1 ht hvm hw hB hz1 hk1 hS1 => ?_)
    obtain ⟨fs_16, hP1, hK1, hD1, hp_17⟩ := hB
    rw [ht] at hP1
    have hK1 := va_K.moved hvm.symm hK1
    have hJ := va_join (wr := [(qo, .inl (ko, 1, .inr (.inl fo)))]) (w1 := [(n0, .inr (15, fs_16))]) hP hD [1] [0] rfl rfl (by decide) (by decide) hk1 hFc hP1 hD1
    clear hP hD hPc hDc hKc hFc hz1; try clear hk1
    obtain ⟨hP, hD⟩ := hJ
    replace hK := (hK.sub (tys' := [(ko, .long)]) [0] rfl).app (hK1.sub (tys' := []) [] rfl)
    clear hP1 hK1 hD1 hvm ht hS; try clear t
    try clear H
    revert hS1
    intro hS
    generalize H1 = H at hP hS ⊢; try clear H1
    replace hP : va_P (dC, dI) vwCl [(qo, .inl (ko, 1, .inr (.inl fo))), (n0, .inr (15, fs_16))] H := hP
    replace hD : va_D A [(qo, .inl (ko, 1, .inr (.inl fo))), (n0, .inr (15, fs_16))] := hD
    replace hK : va_K (dC, dI) vwCl [(ko, .long)] s := hK
    have hw_18 : True := hw; clear hw
    refine lv_istore (lv' := [(6, .int r_15), (5, .int 3), (4, .int 0), (3, .ref qo), (2, .ref n0), (1, .ref c0), (0, .ref b)]) hx hb dL_law_1144 hl (by decide) rfl (fun ls hl => ?_)
    refine lv_aload_n hx hb dL_law_1146 rfl (lv_at hl 4 rfl) ?_
    have hPc := hP.sub (ws' := [(n0, .inr (15, fs_16))]) [1] rfl
    have hDc := hD.sub (ws' := [(n0, .inr (15, fs_16))]) [1] (by decide) rfl
    have hKc := hK.sub (tys' := []) [] rfl
    have hFc := va_free (wc := [(n0, .inr (15, fs_16))]) hD hS hA [1] rfl
    refine va_calli (va_runV (As := []) (rest := []) ⟨hx, hb, hml, hown, hts⟩ (c_m_thrown l dC dI n0 3 fs_16 (mF.sub hp_17 [0] rfl) H.size) (cwV 0 hts g_law_wv_m_thrown_117 rfl rfl rfl hv_X15_thrown ⟨Nat.le_of_ble_eq_true rfl, Nat.le_of_ble_eq_true rfl⟩) ⟨fun a U g mk q => by obtain ⟨q0, q1, qP, qK, qD, qE0⟩ := q; exact ⟨q0, q1, qP, va_K.moved (u := U) (U := U.calling g mk a) (Vm.Alike.refl U.vm) qK, qD, w_N.same rfl qE0⟩, va_recv hKc hPc (ci := 15) (q0 := 0) rfl rfl, fun U hU hW => ⟨rfl, by rw [hU], by rw [hU]; exact hPc, va_K.moved hW.alike hKc, hDc.weaken (fun _ _ _ _ => trivial), w_N.warm hW hN⟩⟩ rfl rfl hl.1 rfl (lv_room (Nat.le_of_ble_eq_true rfl)) dL_law_1147 ⟨(Nat.le_of_ble_eq_true rfl), (Nat.le_of_ble_eq_true rfl)⟩) hS (fun q _ h => hFc q h) hFc (fun r_19 u t H1 locs1 ht hvm hw hB hz1 hk1 hS1 => ?_)
    obtain ⟨hP1, hK1, hD1⟩ := hB
    rw [ht] at hP1
    have hK1 := va_K.moved hvm.symm hK1
    have hJ := va_join (wr := [(qo, .inl (ko, 1, .inr (.inl fo)))]) (w1 := []) hP hD [1] [0] rfl rfl (by decide) (by decide) hk1 hFc hP1 hD1
    clear hP hD hPc hDc hKc hFc hz1; try clear hk1
    obtain ⟨hP, hD⟩ := hJ
    replace hK := (hK.sub (tys' := [(ko, .long)]) [0] rfl).app (hK1.sub (tys' := []) [] rfl)
    clear hP1 hK1 hD1 hvm ht hS; try clear t
    try clear H
    revert hS1
    intro hS
    generalize H1 = H at hP hS ⊢; try clear H1
    replace hP : va_P (dC, dI) vwCl [(qo, .inl (ko, 1, .inr (.inl fo)))] H := hP
    replace hD : va_D A [(qo, .inl (ko, 1, .inr (.inl fo)))] := hD
    replace hK : va_K (dC, dI) vwCl [(ko, .long)] s := hK
    have hw_20 : r_19 = 3 := hw; clear hw
    subst hw_20
    refine lv_iload hx hb dL_law_1150 (lv_at hl 1 rfl) ?_
    refine lv_icmp_eq (tgt := 1157) hx hb dL_law_1152 (by decide) (fun _ => ?_) (fun hc => absurd (by decide) hc)
    refine lv_iload hx hb dL_law_1157 (lv_at hl 1 rfl) ?_
    refine lv_if_ne (tgt := 1174) hx hb dL_law_1159 (by decide) (fun _ => ?_) (fun hc => absurd hc (by decide))
    refine lv_goto (tgt := 2018) hx hb dL_law_1174 (by decide) ?_
    exact law_tail C0 hA2 hbA hS (lv_sub hl [2, 6] rfl) (Nat.le_of_ble_eq_true rfl) (Nat.le_of_ble_eq_true rfl)
set_option maxHeartbeats 4000000 in
set_option maxRecDepth 100000 in
/-- the law at a call of bracket on fresh objects -/
theorem law_case_bracket {p : Program} {l : Launch} (hlt : l.stackTraces = false) {e : Env} {s : State} {m : MethodId} {below : List Frame} {meth : Method} {c : Code} {b : Nat} {xs : Nat → Int32} (C0 : lw_At p s m meth c b 6 xs) {dC : Nat → ClassId} {dI : Nat → Nat → Nat} {A : Nat → Prop} (hA : ∀ q : Nat, s.heap.size ≤ q → A q) (hA2 : ∀ q : Nat, A q → s.heap.size ≤ q) (hbA : ¬ A b) (hN : w_N s) (hT : w_T A s s.heap) (hSt : w_S A s s.heap) (hC : w_C A s s.heap) {H : Heap} {locs : List Loc} {ls : Array Slot} {c0 : Nat} {n0 : Nat} {qC : Nat} {qo : Nat} {fs_qC : List Value} {ko : Nat} {fo : Nat → Int64} {qfed : Nat} {qf : Nat} {qfd : Nat} {qs : Nat} {qk : Nat} {fs_c0 : List Value} {fs_n0 : List Value} (hP : va_P (dC, dI) vwCl [(c0, .inr (11, fs_c0)), (qC, .inr (2, fs_qC)), (qo, .inl (ko, 1, .inr (.inl fo))), (n0, .inr (15, fs_n0))] H) (hD : va_D A [(c0, .inr (11, fs_c0)), (qC, .inr (2, fs_qC)), (qo, .inl (ko, 1, .inr (.inl fo))), (n0, .inr (15, fs_n0))]) (hK : va_K (dC, dI) vwCl [(ko, .long)] s) (hS : va_S A s.heap H locs) (hl : lv_has ls 8 [(4, .int 0), (3, .ref qo), (2, .ref n0), (1, .ref c0), (0, .ref b)]) (hF_c0 : mF 19 [(7, .ref qC)] fs_c0) (hF_qC : mF 13 [(8, .int 0)] fs_qC) (hF_n0 : mF 89 [(0, .int 0), (18, .int 0), (19, .int 0), (20, .int (-1)), (21, .int 0), (22, .int 0), (23, .int 0), (24, .int 0), (25, .int 0), (27, .int 0), (28, .int 0), (29, .int 0), (35, .int 0), (17, .int (-1)), (26, .ref qfed), (30, .ref qf), (31, .ref qfd), (33, .ref qs), (36, .ref qk)] fs_n0) : W p l e room_1 s m #[Value.ref b] below meth c H locs 15894 3343160 (lw_Z below #[Value.ref b] s) (F0 m 1177 ls []) := by
  have hx := C0.1; have hb := C0.2.1; have hml := C0.2.2.2.1; have hown := C0.2.2.2.2.1; have hts := C0.2.2.2.2.2.1; have hX := C0.2.2.2.2.2.2.1; have hbl := C0.2.2.2.2.2.2.2.1; have hlocks := C0.2.2.2.2.2.2.2.2.1
  refine lv_aload_n hx hb dL_law_1177 rfl (lv_at hl 3 rfl) ?_
  refine lv_aload_n hx hb dL_law_1178 rfl (lv_at hl 4 rfl) ?_
  refine lv_iload hx hb dL_law_1179 (lv_at hl 0 rfl) ?_
  refine lv_iconst (v := 1) hx hb dL_law_1181 (by decide) ?_
  refine lv_iadd hx hb dL_law_1182 ?_
  refine lv_topi (fun v_1 ev_1 => ?_)
  have ev_1 : v_1 = 1 := ev_1.trans (by decide)
  subst ev_1
  refine va_sld hx hb hX hbl hbA hS (by exact fun h => by rcases h with h | h <;> revert h <;> decide) dL_law_1183 ?_
  refine lv_topi (fun v_2 ev_2 => ?_)
  have ev_2 : v_2 = xs 1 := ev_2
  subst ev_2
  refine lv_aload_n hx hb dL_law_1184 rfl (lv_at hl 4 rfl) ?_
  refine lv_iload hx hb dL_law_1185 (lv_at hl 0 rfl) ?_
  refine lv_iconst (v := 2) hx hb dL_law_1187 (by decide) ?_
  refine lv_iadd hx hb dL_law_1188 ?_
  refine lv_topi (fun v_3 ev_3 => ?_)
  have ev_3 : v_3 = 2 := ev_3.trans (by decide)
  subst ev_3
  refine va_sld hx hb hX hbl hbA hS (by exact fun h => by rcases h with h | h <;> revert h <;> decide) dL_law_1189 ?_
  refine lv_topi (fun v_4 ev_4 => ?_)
  have ev_4 : v_4 = xs 2 := ev_4
  subst ev_4
  refine lv_aload_n hx hb dL_law_1190 rfl (lv_at hl 4 rfl) ?_
  refine lv_iload hx hb dL_law_1191 (lv_at hl 0 rfl) ?_
  refine lv_iconst (v := 3) hx hb dL_law_1193 (by decide) ?_
  refine lv_iadd hx hb dL_law_1194 ?_
  refine lv_topi (fun v_5 ev_5 => ?_)
  have ev_5 : v_5 = 3 := ev_5.trans (by decide)
  subst ev_5
  refine va_sld hx hb hX hbl hbA hS (by exact fun h => by rcases h with h | h <;> revert h <;> decide) dL_law_1195 ?_
  refine lv_topi (fun v_6 ev_6 => ?_)
  have ev_6 : v_6 = xs 3 := ev_6
  subst ev_6
  refine lv_aload_n hx hb dL_law_1196 rfl (lv_at hl 1 rfl) ?_
  have hPc := hP.sub (ws' := [(c0, .inr (11, fs_c0)), (qC, .inr (2, fs_qC))]) [0, 1] rfl
  have hDc := hD.sub (ws' := [(c0, .inr (11, fs_c0)), (qC, .inr (2, fs_qC))]) [0, 1] (by decide) rfl
  have hKc := hK.sub (tys' := []) [] rfl
  have hFc := va_free (wc := [(c0, .inr (11, fs_c0)), (qC, .inr (2, fs_qC))]) hD hS hA [0, 1] rfl
  refine vx_calli (vx_runSX (As := [.ref c0, .int (xs 1), .int (xs 2), .int (xs 3), .ref qo]) (rest := []) ⟨hx, hb, hml, hown, hts⟩ (c_l_bracket l hlt dC dI c0 qC qo ((xs 1)) ((xs 2)) ((xs 3)) fs_c0 fs_qC (mF.sub hF_c0 [0] rfl) (mF.sub hF_qC [0] rfl) H.size) (vx_cwSW 5 hts g_law_wv_l_bracket_168 rfl rfl rfl hd_L_bracket ⟨Nat.le_of_ble_eq_true rfl, Nat.le_of_ble_eq_true rfl⟩) ⟨fun a U g mk q => by obtain ⟨q0, q1, qP, qK, qD, qE0, qE1, qE2⟩ := q; exact ⟨q0, q1, qP, va_K.moved (u := U) (U := U.calling g mk a) (Vm.Alike.refl U.vm) qK, qD, w_N.same rfl qE0, w_T.same rfl rfl qE1, w_C.same rfl rfl qE2⟩, fun U hU hW => ⟨rfl, by rw [hU], by rw [hU]; exact hPc, va_K.moved hW.alike hKc, hDc.weaken (fun _ _ _ _ => trivial), w_N.warm hW hN, w_T.go hT hW hS.2.1 hFc hU, w_C.go hC hW hS.2.1 hFc hU⟩⟩ rfl rfl hl.1 rfl (lv_room (Nat.le_of_ble_eq_true rfl)) dL_law_1197 ⟨(Nat.le_of_ble_eq_true rfl), (Nat.le_of_ble_eq_true rfl)⟩) hS (fun q _ h => hFc q h) hFc (fun q _ h => hFc q h) (fun E9 ce9 q9 u t H1 locs1 ht hvm hpx hBX hz1 hk1 hS1 hcell9 hv9 hcl9 => ?_) (fun r_7 u t H1 locs1 ht hvm hw hB hz1 hk1 hS1 => ?_)
  · skip
    exact (hpx : False).elim
  · skip
    obtain ⟨hP1, hK1, hD1⟩ := hB
    rw [ht] at hP1
    have hK1 := va_K.moved hvm.symm hK1
    have hJ := va_join (wr := [(qo, .inl (ko, 1, .inr (.inl fo))), (n0, .inr (15, fs_n0))]) (w1 := []) hP hD [0, 1] [2, 3] rfl rfl (by decide) (by decide) hk1 hFc hP1 hD1
    clear hP hD hPc hDc hKc hFc hz1; try clear hk1
    obtain ⟨hP, hD⟩ := hJ
    replace hK := (hK.sub (tys' := [(ko, .long)]) [0] rfl).app (hK1.sub (tys' := []) [] rfl)
    clear hP1 hK1 hD1 hvm ht hS; try clear t
    try clear H
    revert hS1
    intro hS
    generalize H1 = H at hP hS ⊢; try clear H1
    replace hP : va_P (dC, dI) vwCl [(qo, .inl (ko, 1, .inr (.inl fo))), (n0, .inr (15, fs_n0))] H := hP
    replace hD : va_D A [(qo, .inl (ko, 1, .inr (.inl fo))), (n0, .inr (15, fs_n0))] := hD
    replace hK : va_K (dC, dI) vwCl [(ko, .long)] s := hK
    have hw_8 : r_7 = 3 := hw; clear hw
    subst hw_8
    refine lv_istore (lv' := [(5, .int 3), (4, .int 0), (3, .ref qo), (2, .ref n0), (1, .ref c0), (0, .ref b)]) hx hb dL_law_1200 hl (by decide) rfl (fun ls hl => ?_)
    refine lv_aload_n hx hb dL_law_1202 rfl (lv_at hl 3 rfl) ?_
    refine lv_aload_n hx hb dL_law_1203 rfl (lv_at hl 5 rfl) ?_
    refine lv_iload hx hb dL_law_1204 (lv_at hl 1 rfl) ?_
    refine lv_iconst (v := 1) hx hb dL_law_1206 (by decide) ?_
    refine lv_iadd hx hb dL_law_1207 ?_
    refine lv_topi (fun v_9 ev_9 => ?_)
    have ev_9 : v_9 = 1 := ev_9.trans (by decide)
    subst ev_9
    refine va_sld hx hb hX hbl hbA hS (by exact fun h => by rcases h with h | h <;> revert h <;> decide) dL_law_1208 ?_
    refine lv_topi (fun v_10 ev_10 => ?_)
    have ev_10 : v_10 = xs 1 := ev_10
    subst ev_10
    refine lv_aload_n hx hb dL_law_1209 rfl (lv_at hl 5 rfl) ?_
    refine lv_iload hx hb dL_law_1210 (lv_at hl 1 rfl) ?_
    refine lv_iconst (v := 2) hx hb dL_law_1212 (by decide) ?_
    refine lv_iadd hx hb dL_law_1213 ?_
    refine lv_topi (fun v_11 ev_11 => ?_)
    have ev_11 : v_11 = 2 := ev_11.trans (by decide)
    subst ev_11
    refine va_sld hx hb hX hbl hbA hS (by exact fun h => by rcases h with h | h <;> revert h <;> decide) dL_law_1214 ?_
    refine lv_topi (fun v_12 ev_12 => ?_)
    have ev_12 : v_12 = xs 2 := ev_12
    subst ev_12
    refine lv_aload_n hx hb dL_law_1215 rfl (lv_at hl 5 rfl) ?_
    refine lv_iload hx hb dL_law_1216 (lv_at hl 1 rfl) ?_
    refine lv_iconst (v := 3) hx hb dL_law_1218 (by decide) ?_
    refine lv_iadd hx hb dL_law_1219 ?_
    refine lv_topi (fun v_13 ev_13 => ?_)
    have ev_13 : v_13 = 3 := ev_13.trans (by decide)
    subst ev_13
    refine va_sld hx hb hX hbl hbA hS (by exact fun h => by rcases h with h | h <;> revert h <;> decide) dL_law_1220 ?_
    refine lv_topi (fun v_14 ev_14 => ?_)
    have ev_14 : v_14 = xs 3 := ev_14
    subst ev_14
    have hPc := hP.sub (ws' := [(n0, .inr (15, fs_n0))]) [1] rfl
    have hDc := hD.sub (ws' := [(n0, .inr (15, fs_n0))]) [1] (by decide) rfl
    have hKc := hK.sub (tys' := []) [] rfl
    have hFc := va_free (wc := [(n0, .inr (15, fs_n0))]) hD hS hA [1] rfl
    refine va_calli (va_runV (As := [.int (xs 1), .int (xs 2), .int (xs 3)]) (rest := []) ⟨hx, hb, hml, hown, hts⟩ (c_m_bracket l dC dI n0 qfed qf qfd qs qk ((xs 1)) ((xs 2)) ((xs 3)) fs_n0 (mF.sub hF_n0 [0, 1, 2, 3, 4, 5, 6, 7, 8, 9, 10, 11, 12, 13, 14, 15, 16, 17, 18] rfl) H.size) (cwV 3 hts g_law_wv_m_bracket_170 rfl rfl rfl hv_X15_bracket ⟨Nat.le_of_ble_eq_true rfl, Nat.le_of_ble_eq_true rfl⟩) ⟨fun a U g mk q => by obtain ⟨q0, q1, qP, qK, qD, qE0⟩ := q; exact ⟨q0, q1, qP, va_K.moved (u := U) (U := U.calling g mk a) (Vm.Alike.refl U.vm) qK, qD, w_N.same rfl qE0⟩, va_recv hKc hPc (ci := 15) (q0 := 0) rfl rfl, fun U hU hW => ⟨rfl, by rw [hU], by rw [hU]; exact hPc, va_K.moved hW.alike hKc, hDc.weaken (fun _ _ _ _ => trivial), w_N.warm hW hN⟩⟩ rfl rfl hl.1 rfl (lv_room (Nat.le_of_ble_eq_true rfl)) dL_law_1221 ⟨(Nat.le_of_ble_eq_true rfl), (Nat.le_of_ble_eq_true rfl)⟩) hS (fun q _ h => hFc q h) hFc (fun r_15 u t H1 locs1 ht hvm hw hB hz1 hk1 hS1 => ?_)
    obtain ⟨fs_16, hP1, hK1, hD1, hp_17⟩ := hB
    rw [ht] at hP1
    have hK1 := va_K.moved hvm.symm hK1
    have hJ := va_join (wr := [(qo, .inl (ko, 1, .inr (.inl fo)))]) (w1 := [(n0, .inr (15, fs_16))]) hP hD [1] [0] rfl rfl (by decide) (by decide) hk1 hFc hP1 hD1
    clear hP hD hPc hDc hKc hFc hz1; try clear hk1
    obtain ⟨hP, hD⟩ := hJ
    replace hK := (hK.sub (tys' := [(ko, .long)]) [0] rfl).app (hK1.sub (tys' := []) [] rfl)
    clear hP1 hK1 hD1 hvm ht hS; try clear t
    try clear H
    revert hS1
    intro hS
    generalize H1 = H at hP hS ⊢; try clear H1
    replace hP : va_P (dC, dI) vwCl [(qo, .inl (ko, 1, .inr (.inl fo))), (n0, .inr (15, fs_16))] H := hP
    replace hD : va_D A [(qo, .inl (ko, 1, .inr (.inl fo))), (n0, .inr (15, fs_16))] := hD
    replace hK : va_K (dC, dI) vwCl [(ko, .long)] s := hK
    have hw_18 : True := hw; clear hw
    refine lv_istore (lv' := [(6, .int r_15), (5, .int 3), (4, .int 0), (3, .ref qo), (2, .ref n0), (1, .ref c0), (0, .ref b)]) hx hb dL_law_1224 hl (by decide) rfl (fun ls hl => ?_)
    refine lv_aload_n hx hb dL_law_1226 rfl (lv_at hl 4 rfl) ?_
    have hPc := hP.sub (ws' := [(n0, .inr (15, fs_16))]) [1] rfl
    have hDc := hD.sub (ws' := [(n0, .inr (15, fs_16))]) [1] (by decide) rfl
    have hKc := hK.sub (tys' := []) [] rfl
    have hFc := va_free (wc := [(n0, .inr (15, fs_16))]) hD hS hA [1] rfl
    refine va_calli (va_runV (As := []) (rest := []) ⟨hx, hb, hml, hown, hts⟩ (c_m_thrown l dC dI n0 3 fs_16 (mF.sub hp_17 [0] rfl) H.size) (cwV 0 hts g_law_wv_m_thrown_117 rfl rfl rfl hv_X15_thrown ⟨Nat.le_of_ble_eq_true rfl, Nat.le_of_ble_eq_true rfl⟩) ⟨fun a U g mk q => by obtain ⟨q0, q1, qP, qK, qD, qE0⟩ := q; exact ⟨q0, q1, qP, va_K.moved (u := U) (U := U.calling g mk a) (Vm.Alike.refl U.vm) qK, qD, w_N.same rfl qE0⟩, va_recv hKc hPc (ci := 15) (q0 := 0) rfl rfl, fun U hU hW => ⟨rfl, by rw [hU], by rw [hU]; exact hPc, va_K.moved hW.alike hKc, hDc.weaken (fun _ _ _ _ => trivial), w_N.warm hW hN⟩⟩ rfl rfl hl.1 rfl (lv_room (Nat.le_of_ble_eq_true rfl)) dL_law_1227 ⟨(Nat.le_of_ble_eq_true rfl), (Nat.le_of_ble_eq_true rfl)⟩) hS (fun q _ h => hFc q h) hFc (fun r_19 u t H1 locs1 ht hvm hw hB hz1 hk1 hS1 => ?_)
    obtain ⟨hP1, hK1, hD1⟩ := hB
    rw [ht] at hP1
    have hK1 := va_K.moved hvm.symm hK1
    have hJ := va_join (wr := [(qo, .inl (ko, 1, .inr (.inl fo)))]) (w1 := []) hP hD [1] [0] rfl rfl (by decide) (by decide) hk1 hFc hP1 hD1
    clear hP hD hPc hDc hKc hFc hz1; try clear hk1
    obtain ⟨hP, hD⟩ := hJ
    replace hK := (hK.sub (tys' := [(ko, .long)]) [0] rfl).app (hK1.sub (tys' := []) [] rfl)
    clear hP1 hK1 hD1 hvm ht hS; try clear t
    try clear H
    revert hS1
    intro hS
    generalize H1 = H at hP hS ⊢; try clear H1
    replace hP : va_P (dC, dI) vwCl [(qo, .inl (ko, 1, .inr (.inl fo)))] H := hP
    replace hD : va_D A [(qo, .inl (ko, 1, .inr (.inl fo)))] := hD
    replace hK : va_K (dC, dI) vwCl [(ko, .long)] s := hK
    have hw_20 : r_19 = 3 := hw; clear hw
    subst hw_20
    refine lv_iload hx hb dL_law_1230 (lv_at hl 1 rfl) ?_
    refine lv_icmp_eq (tgt := 1237) hx hb dL_law_1232 (by decide) (fun _ => ?_) (fun hc => absurd (by decide) hc)
    refine lv_iload hx hb dL_law_1237 (lv_at hl 1 rfl) ?_
    refine lv_if_ne (tgt := 1254) hx hb dL_law_1239 (by decide) (fun _ => ?_) (fun hc => absurd hc (by decide))
    refine lv_goto (tgt := 2018) hx hb dL_law_1254 (by decide) ?_
    exact law_tail C0 hA2 hbA hS (lv_sub hl [2, 6] rfl) (Nat.le_of_ble_eq_true rfl) (Nat.le_of_ble_eq_true rfl)
set_option maxHeartbeats 4000000 in
set_option maxRecDepth 100000 in
/-- the law at a call of stretches on fresh objects -/
theorem law_case_stretches {p : Program} {l : Launch} (hlt : l.stackTraces = false) {e : Env} {s : State} {m : MethodId} {below : List Frame} {meth : Method} {c : Code} {b : Nat} {xs : Nat → Int32} (C0 : lw_At p s m meth c b 6 xs) {dC : Nat → ClassId} {dI : Nat → Nat → Nat} {A : Nat → Prop} (hA : ∀ q : Nat, s.heap.size ≤ q → A q) (hA2 : ∀ q : Nat, A q → s.heap.size ≤ q) (hbA : ¬ A b) (hN : w_N s) (hT : w_T A s s.heap) (hSt : w_S A s s.heap) (hC : w_C A s s.heap) {H : Heap} {locs : List Loc} {ls : Array Slot} {c0 : Nat} {n0 : Nat} {qC : Nat} {qo : Nat} {fs_qC : List Value} {ko : Nat} {fo : Nat → Int64} {qfed : Nat} {qf : Nat} {qfd : Nat} {qs : Nat} {qk : Nat} {fs_c0 : List Value} {fs_n0 : List Value} (hP : va_P (dC, dI) vwCl [(c0, .inr (11, fs_c0)), (qC, .inr (2, fs_qC)), (qo, .inl (ko, 1, .inr (.inl fo))), (n0, .inr (15, fs_n0))] H) (hD : va_D A [(c0, .inr (11, fs_c0)), (qC, .inr (2, fs_qC)), (qo, .inl (ko, 1, .inr (.inl fo))), (n0, .inr (15, fs_n0))]) (hK : va_K (dC, dI) vwCl [(ko, .long)] s) (hS : va_S A s.heap H locs) (hl : lv_has ls 8 [(4, .int 0), (3, .ref qo), (2, .ref n0), (1, .ref c0), (0, .ref b)]) (hF_c0 : mF 19 [(7, .ref qC)] fs_c0) (hF_qC : mF 13 [(8, .int 0)] fs_qC) (hF_n0 : mF 89 [(0, .int 0), (18, .int 0), (19, .int 0), (20, .int (-1)), (21, .int 0), (22, .int 0), (23, .int 0), (24, .int 0), (25, .int 0), (27, .int 0), (28, .int 0), (29, .int 0), (35, .int 0), (17, .int (-1)), (26, .ref qfed), (30, .ref qf), (31, .ref qfd), (33, .ref qs), (36, .ref qk)] fs_n0) : W p l e room_1 s m #[Value.ref b] below meth c H locs 15894 3343160 (lw_Z below #[Value.ref b] s) (F0 m 1257 ls []) := by
  have hx := C0.1; have hb := C0.2.1; have hml := C0.2.2.2.1; have hown := C0.2.2.2.2.1; have hts := C0.2.2.2.2.2.1; have hX := C0.2.2.2.2.2.2.1; have hbl := C0.2.2.2.2.2.2.2.1; have hlocks := C0.2.2.2.2.2.2.2.2.1
  refine lv_aload_n hx hb dL_law_1257 rfl (lv_at hl 3 rfl) ?_
  refine lv_aload_n hx hb dL_law_1258 rfl (lv_at hl 1 rfl) ?_
  have hPc := hP.sub (ws' := [(c0, .inr (11, fs_c0)), (qC, .inr (2, fs_qC))]) [0, 1] rfl
  have hDc := hD.sub (ws' := [(c0, .inr (11, fs_c0)), (qC, .inr (2, fs_qC))]) [0, 1] (by decide) rfl
  have hKc := hK.sub (tys' := []) [] rfl
  have hFc := va_free (wc := [(c0, .inr (11, fs_c0)), (qC, .inr (2, fs_qC))]) hD hS hA [0, 1] rfl
  refine vx_calli (vx_runSX (As := [.ref c0, .ref qo]) (rest := []) ⟨hx, hb, hml, hown, hts⟩ (c_l_stretches l hlt dC dI c0 qC qo fs_c0 fs_qC (mF.sub hF_c0 [0] rfl) (mF.sub hF_qC [0] rfl) H.size) (vx_cwSW 2 hts g_law_wv_l_stretches_171 rfl rfl rfl hd_L_stretches ⟨Nat.le_of_ble_eq_true rfl, Nat.le_of_ble_eq_true rfl⟩) ⟨fun a U g mk q => by obtain ⟨q0, q1, qP, qK, qD, qE0, qE1, qE2⟩ := q; exact ⟨q0, q1, qP, va_K.moved (u := U) (U := U.calling g mk a) (Vm.Alike.refl U.vm) qK, qD, w_N.same rfl qE0, w_T.same rfl rfl qE1, w_C.same rfl rfl qE2⟩, fun U hU hW => ⟨rfl, by rw [hU], by rw [hU]; exact hPc, va_K.moved hW.alike hKc, hDc.weaken (fun _ _ _ _ => trivial), w_N.warm hW hN, w_T.go hT hW hS.2.1 hFc hU, w_C.go hC hW hS.2.1 hFc hU⟩⟩ rfl rfl hl.1 rfl (lv_room (Nat.le_of_ble_eq_true rfl)) dL_law_1259 ⟨(Nat.le_of_ble_eq_true rfl), (Nat.le_of_ble_eq_true rfl)⟩) hS (fun q _ h => hFc q h) hFc (fun q _ h => hFc q h) (fun E9 ce9 q9 u t H1 locs1 ht hvm hpx hBX hz1 hk1 hS1 hcell9 hv9 hcl9 => ?_) (fun r_1 u t H1 locs1 ht hvm hw hB hz1 hk1 hS1 => ?_)
  · skip
    exact (hpx : False).elim
  · skip
    obtain ⟨hP1, hK1, hD1⟩ := hB
    rw [ht] at hP1
    have hK1 := va_K.moved hvm.symm hK1
    have hJ := va_join (wr := [(qo, .inl (ko, 1, .inr (.inl fo))), (n0, .inr (15, fs_n0))]) (w1 := []) hP hD [0, 1] [2, 3] rfl rfl (by decide) (by decide) hk1 hFc hP1 hD1
    clear hP hD hPc hDc hKc hFc hz1; try clear hk1
    obtain ⟨hP, hD⟩ := hJ
    replace hK := (hK.sub (tys' := [(ko, .long)]) [0] rfl).app (hK1.sub (tys' := []) [] rfl)
    clear hP1 hK1 hD1 hvm ht hS; try clear t
    try clear H
    revert hS1
    intro hS
    generalize H1 = H at hP hS ⊢; try clear H1
    replace hP : va_P (dC, dI) vwCl [(qo, .inl (ko, 1, .inr (.inl fo))), (n0, .inr (15, fs_n0))] H := hP
    replace hD : va_D A [(qo, .inl (ko, 1, .inr (.inl fo))), (n0, .inr (15, fs_n0))] := hD
    replace hK : va_K (dC, dI) vwCl [(ko, .long)] s := hK
    have hw_2 : r_1 = 1 := hw; clear hw
    subst hw_2
    refine lv_istore (lv' := [(5, .int 1), (4, .int 0), (3, .ref qo), (2, .ref n0), (1, .ref c0), (0, .ref b)]) hx hb dL_law_1262 hl (by decide) rfl (fun ls hl => ?_)
    refine lv_aload_n hx hb dL_law_1264 rfl (lv_at hl 3 rfl) ?_
    have hPc := hP.sub (ws' := [(n0, .inr (15, fs_n0))]) [1] rfl
    have hDc := hD.sub (ws' := [(n0, .inr (15, fs_n0))]) [1] (by decide) rfl
    have hKc := hK.sub (tys' := []) [] rfl
    have hFc := va_free (wc := [(n0, .inr (15, fs_n0))]) hD hS hA [1] rfl
    refine va_calli (va_runV (As := []) (rest := []) ⟨hx, hb, hml, hown, hts⟩ (c_m_stretches l dC dI n0 qfed qf qfd qs qk fs_n0 (mF.sub hF_n0 [0, 1, 2, 3, 4, 5, 6, 7, 8, 9, 10, 11, 12, 13, 14, 15, 16, 17, 18] rfl) H.size) (cwV 0 hts g_law_wv_m_stretches_173 rfl rfl rfl hv_X15_stretches ⟨Nat.le_of_ble_eq_true rfl, Nat.le_of_ble_eq_true rfl⟩) ⟨fun a U g mk q => by obtain ⟨q0, q1, qP, qK, qD, qE0⟩ := q; exact ⟨q0, q1, qP, va_K.moved (u := U) (U := U.calling g mk a) (Vm.Alike.refl U.vm) qK, qD, w_N.same rfl qE0⟩, va_recv hKc hPc (ci := 15) (q0 := 0) rfl rfl, fun U hU hW => ⟨rfl, by rw [hU], by rw [hU]; exact hPc, va_K.moved hW.alike hKc, hDc.weaken (fun _ _ _ _ => trivial), w_N.warm hW hN⟩⟩ rfl rfl hl.1 rfl (lv_room (Nat.le_of_ble_eq_true rfl)) dL_law_1265 ⟨(Nat.le_of_ble_eq_true rfl), (Nat.le_of_ble_eq_true rfl)⟩) hS (fun q _ h => hFc q h) hFc (fun r_3 u t H1 locs1 ht hvm hw hB hz1 hk1 hS1 => ?_)
    obtain ⟨fs_4, hP1, hK1, hD1, hp_5⟩ := hB
    rw [ht] at hP1
    have hK1 := va_K.moved hvm.symm hK1
    have hJ := va_join (wr := [(qo, .inl (ko, 1, .inr (.inl fo)))]) (w1 := [(n0, .inr (15, fs_4))]) hP hD [1] [0] rfl rfl (by decide) (by decide) hk1 hFc hP1 hD1
    clear hP hD hPc hDc hKc hFc hz1; try clear hk1
    obtain ⟨hP, hD⟩ := hJ
    replace hK := (hK.sub (tys' := [(ko, .long)]) [0] rfl).app (hK1.sub (tys' := []) [] rfl)
    clear hP1 hK1 hD1 hvm ht hS; try clear t
    try clear H
    revert hS1
    intro hS
    generalize H1 = H at hP hS ⊢; try clear H1
    replace hP : va_P (dC, dI) vwCl [(qo, .inl (ko, 1, .inr (.inl fo))), (n0, .inr (15, fs_4))] H := hP
    replace hD : va_D A [(qo, .inl (ko, 1, .inr (.inl fo))), (n0, .inr (15, fs_4))] := hD
    replace hK : va_K (dC, dI) vwCl [(ko, .long)] s := hK
    have hw_6 : True := hw; clear hw
    refine lv_istore (lv' := [(6, .int r_3), (5, .int 1), (4, .int 0), (3, .ref qo), (2, .ref n0), (1, .ref c0), (0, .ref b)]) hx hb dL_law_1268 hl (by decide) rfl (fun ls hl => ?_)
    refine lv_aload_n hx hb dL_law_1270 rfl (lv_at hl 4 rfl) ?_
    have hPc := hP.sub (ws' := [(n0, .inr (15, fs_4))]) [1] rfl
    have hDc := hD.sub (ws' := [(n0, .inr (15, fs_4))]) [1] (by decide) rfl
    have hKc := hK.sub (tys' := []) [] rfl
    have hFc := va_free (wc := [(n0, .inr (15, fs_4))]) hD hS hA [1] rfl
    refine va_calli (va_runV (As := []) (rest := []) ⟨hx, hb, hml, hown, hts⟩ (c_m_thrown l dC dI n0 1 fs_4 (mF.sub hp_5 [0] rfl) H.size) (cwV 0 hts g_law_wv_m_thrown_117 rfl rfl rfl hv_X15_thrown ⟨Nat.le_of_ble_eq_true rfl, Nat.le_of_ble_eq_true rfl⟩) ⟨fun a U g mk q => by obtain ⟨q0, q1, qP, qK, qD, qE0⟩ := q; exact ⟨q0, q1, qP, va_K.moved (u := U) (U := U.calling g mk a) (Vm.Alike.refl U.vm) qK, qD, w_N.same rfl qE0⟩, va_recv hKc hPc (ci := 15) (q0 := 0) rfl rfl, fun U hU hW => ⟨rfl, by rw [hU], by rw [hU]; exact hPc, va_K.moved hW.alike hKc, hDc.weaken (fun _ _ _ _ => trivial), w_N.warm hW hN⟩⟩ rfl rfl hl.1 rfl (lv_room (Nat.le_of_ble_eq_true rfl)) dL_law_1271 ⟨(Nat.le_of_ble_eq_true rfl), (Nat.le_of_ble_eq_true rfl)⟩) hS (fun q _ h => hFc q h) hFc (fun r_7 u t H1 locs1 ht hvm hw hB hz1 hk1 hS1 => ?_)
    obtain ⟨hP1, hK1, hD1⟩ := hB
    rw [ht] at hP1
    have hK1 := va_K.moved hvm.symm hK1
    have hJ := va_join (wr := [(qo, .inl (ko, 1, .inr (.inl fo)))]) (w1 := []) hP hD [1] [0] rfl rfl (by decide) (by decide) hk1 hFc hP1 hD1
    clear hP hD hPc hDc hKc hFc hz1; try clear hk1
    obtain ⟨hP, hD⟩ := hJ
    replace hK := (hK.sub (tys' := [(ko, .long)]) [0] rfl).app (hK1.sub (tys' := []) [] rfl)
    clear hP1 hK1 hD1 hvm ht hS; try clear t
    try clear H
    revert hS1
    intro hS
    generalize H1 = H at hP hS ⊢; try clear H1
    replace hP : va_P (dC, dI) vwCl [(qo, .inl (ko, 1, .inr (.inl fo)))] H := hP
    replace hD : va_D A [(qo, .inl (ko, 1, .inr (.inl fo)))] := hD
    replace hK : va_K (dC, dI) vwCl [(ko, .long)] s := hK
    have hw_8 : r_7 = 1 := hw; clear hw
    subst hw_8
    refine lv_iload hx hb dL_law_1274 (lv_at hl 1 rfl) ?_
    refine lv_icmp_eq (tgt := 1281) hx hb dL_law_1276 (by decide) (fun _ => ?_) (fun hc => absurd (by decide) hc)
    refine lv_iload hx hb dL_law_1281 (lv_at hl 1 rfl) ?_
    refine lv_if_ne (tgt := 1298) hx hb dL_law_1283 (by decide) (fun _ => ?_) (fun hc => absurd hc (by decide))
    refine lv_goto (tgt := 2018) hx hb dL_law_1298 (by decide) ?_
    exact law_tail C0 hA2 hbA hS (lv_sub hl [2, 6] rfl) (Nat.le_of_ble_eq_true rfl) (Nat.le_of_ble_eq_true rfl)
set_option maxHeartbeats 4000000 in
set_option maxRecDepth 100000 in
/-- the law at a call of stretch on fresh objects -/
theorem law_case_stretch {p : Program} {l : Launch} (hlt : l.stackTraces = false) {e : Env} {s : State} {m : MethodId} {below : List Frame} {meth : Method} {c : Code} {b : Nat} {xs : Nat → Int32} (C0 : lw_At p s m meth c b 6 xs) {dC : Nat → ClassId} {dI : Nat → Nat → Nat} {A : Nat → Prop} (hA : ∀ q : Nat, s.heap.size ≤ q → A q) (hA2 : ∀ q : Nat, A q → s.heap.size ≤ q) (hbA : ¬ A b) (hN : w_N s) (hT : w_T A s s.heap) (hSt : w_S A s s.heap) (hC : w_C A s s.heap) {H : Heap} {locs : List Loc} {ls : Array Slot} {c0 : Nat} {n0 : Nat} {qC : Nat} {qo : Nat} {fs_qC : List Value} {ko : Nat} {fo : Nat → Int64} {qfed : Nat} {qf : Nat} {qfd : Nat} {qs : Nat} {qk : Nat} {fs_c0 : List Value} {fs_n0 : List Value} (hP : va_P (dC, dI) vwCl [(c0, .inr (11, fs_c0)), (qC, .inr (2, fs_qC)), (qo, .inl (ko, 1, .inr (.inl fo))), (n0, .inr (15, fs_n0))] H) (hD : va_D A [(c0, .inr (11, fs_c0)), (qC, .inr (2, fs_qC)), (qo, .inl (ko, 1, .inr (.inl fo))), (n0, .inr (15, fs_n0))]) (hK : va_K (dC, dI) vwCl [(ko, .long)] s) (hS : va_S A s.heap H locs) (hl : lv_has ls 8 [(4, .int 0), (3, .ref qo), (2, .ref n0), (1, .ref c0), (0, .ref b)]) (hF_c0 : mF 19 [(7, .ref qC)] fs_c0) (hF_qC : mF 13 [(8, .int 0)] fs_qC) (hF_n0 : mF 89 [(0, .int 0), (18, .int 0), (19, .int 0), (20, .int (-1)), (21, .int 0), (22, .int 0), (23, .int 0), (24, .int 0), (25, .int 0), (27, .int 0), (28, .int 0), (29, .int 0), (35, .int 0), (17, .int (-1)), (26, .ref qfed), (30, .ref qf), (31, .ref qfd), (33, .ref qs), (36, .ref qk)] fs_n0) : W p l e room_1 s m #[Value.ref b] below meth c H locs 15894 3343160 (lw_Z below #[Value.ref b] s) (F0 m 1301 ls []) := by
  have hx := C0.1; have hb := C0.2.1; have hml := C0.2.2.2.1; have hown := C0.2.2.2.2.1; have hts := C0.2.2.2.2.2.1; have hX := C0.2.2.2.2.2.2.1; have hbl := C0.2.2.2.2.2.2.2.1; have hlocks := C0.2.2.2.2.2.2.2.2.1
  refine lv_aload_n hx hb dL_law_1301 rfl (lv_at hl 3 rfl) ?_
  refine lv_aload_n hx hb dL_law_1302 rfl (lv_at hl 4 rfl) ?_
  refine lv_iload hx hb dL_law_1303 (lv_at hl 0 rfl) ?_
  refine lv_iconst (v := 1) hx hb dL_law_1305 (by decide) ?_
  refine lv_iadd hx hb dL_law_1306 ?_
  refine lv_topi (fun v_1 ev_1 => ?_)
  have ev_1 : v_1 = 1 := ev_1.trans (by decide)
  subst ev_1
  refine va_sld hx hb hX hbl hbA hS (by exact fun h => by rcases h with h | h <;> revert h <;> decide) dL_law_1307 ?_
  refine lv_topi (fun v_2 ev_2 => ?_)
  have ev_2 : v_2 = xs 1 := ev_2
  subst ev_2
  refine lv_aload_n hx hb dL_law_1308 rfl (lv_at hl 4 rfl) ?_
  refine lv_iload hx hb dL_law_1309 (lv_at hl 0 rfl) ?_
  refine lv_iconst (v := 2) hx hb dL_law_1311 (by decide) ?_
  refine lv_iadd hx hb dL_law_1312 ?_
  refine lv_topi (fun v_3 ev_3 => ?_)
  have ev_3 : v_3 = 2 := ev_3.trans (by decide)
  subst ev_3
  refine va_sld hx hb hX hbl hbA hS (by exact fun h => by rcases h with h | h <;> revert h <;> decide) dL_law_1313 ?_
  refine lv_topi (fun v_4 ev_4 => ?_)
  have ev_4 : v_4 = xs 2 := ev_4
  subst ev_4
  refine lv_aload_n hx hb dL_law_1314 rfl (lv_at hl 1 rfl) ?_
  have hPc := hP.sub (ws' := [(c0, .inr (11, fs_c0)), (qC, .inr (2, fs_qC))]) [0, 1] rfl
  have hDc := hD.sub (ws' := [(c0, .inr (11, fs_c0)), (qC, .inr (2, fs_qC))]) [0, 1] (by decide) rfl
  have hKc := hK.sub (tys' := []) [] rfl
  have hFc := va_free (wc := [(c0, .inr (11, fs_c0)), (qC, .inr (2, fs_qC))]) hD hS hA [0, 1] rfl
  refine vx_calli (vx_runSX (As := [.ref c0, .int (xs 1), .int (xs 2), .ref qo]) (rest := []) ⟨hx, hb, hml, hown, hts⟩ (c_l_stretch l hlt dC dI c0 qC qo ((xs 1)) ((xs 2)) fs_c0 fs_qC (mF.sub hF_c0 [0] rfl) (mF.sub hF_qC [0] rfl) H.size) (vx_cwSW 4 hts g_law_wv_l_stretch_174 rfl rfl rfl hd_L_stretch ⟨Nat.le_of_ble_eq_true rfl, Nat.le_of_ble_eq_true rfl⟩) ⟨fun a U g mk q => by obtain ⟨q0, q1, qP, qK, qD, qE0, qE1, qE2⟩ := q; exact ⟨q0, q1, qP, va_K.moved (u := U) (U := U.calling g mk a) (Vm.Alike.refl U.vm) qK, qD, w_N.same rfl qE0, w_T.same rfl rfl qE1, w_C.same rfl rfl qE2⟩, fun U hU hW => ⟨rfl, by rw [hU], by rw [hU]; exact hPc, va_K.moved hW.alike hKc, hDc.weaken (fun _ _ _ _ => trivial), w_N.warm hW hN, w_T.go hT hW hS.2.1 hFc hU, w_C.go hC hW hS.2.1 hFc hU⟩⟩ rfl rfl hl.1 rfl (lv_room (Nat.le_of_ble_eq_true rfl)) dL_law_1315 ⟨(Nat.le_of_ble_eq_true rfl), (Nat.le_of_ble_eq_true rfl)⟩) hS (fun q _ h => hFc q h) hFc (fun q _ h => hFc q h) (fun E9 ce9 q9 u t H1 locs1 ht hvm hpx hBX hz1 hk1 hS1 hcell9 hv9 hcl9 => ?_) (fun r_5 u t H1 locs1 ht hvm hw hB hz1 hk1 hS1 => ?_)
  · skip
    exact (hpx : False).elim
  · skip
    obtain ⟨hP1, hK1, hD1⟩ := hB
    rw [ht] at hP1
    have hK1 := va_K.moved hvm.symm hK1
    have hJ := va_join (wr := [(qo, .inl (ko, 1, .inr (.inl fo))), (n0, .inr (15, fs_n0))]) (w1 := []) hP hD [0, 1] [2, 3] rfl rfl (by decide) (by decide) hk1 hFc hP1 hD1
    clear hP hD hPc hDc hKc hFc hz1; try clear hk1
    obtain ⟨hP, hD⟩ := hJ
    replace hK := (hK.sub (tys' := [(ko, .long)]) [0] rfl).app (hK1.sub (tys' := []) [] rfl)
    clear hP1 hK1 hD1 hvm ht hS; try clear t
    try clear H
    revert hS1
    intro hS
    generalize H1 = H at hP hS ⊢; try clear H1
    replace hP : va_P (dC, dI) vwCl [(qo, .inl (ko, 1, .inr (.inl fo))), (n0, .inr (15, fs_n0))] H := hP
    replace hD : va_D A [(qo, .inl (ko, 1, .inr (.inl fo))), (n0, .inr (15, fs_n0))] := hD
    replace hK : va_K (dC, dI) vwCl [(ko, .long)] s := hK
    have hw_6 : r_5 = 3 := hw; clear hw
    subst hw_6
    refine lv_istore (lv' := [(5, .int 3), (4, .int 0), (3, .ref qo), (2, .ref n0), (1, .ref c0), (0, .ref b)]) hx hb dL_law_1318 hl (by decide) rfl (fun ls hl => ?_)
    refine lv_aload_n hx hb dL_law_1320 rfl (lv_at hl 3 rfl) ?_
    refine lv_aload_n hx hb dL_law_1321 rfl (lv_at hl 5 rfl) ?_
    refine lv_iload hx hb dL_law_1322 (lv_at hl 1 rfl) ?_
    refine lv_iconst (v := 1) hx hb dL_law_1324 (by decide) ?_
    refine lv_iadd hx hb dL_law_1325 ?_
    refine lv_topi (fun v_7 ev_7 => ?_)
    have ev_7 : v_7 = 1 := ev_7.trans (by decide)
    subst ev_7
    refine va_sld hx hb hX hbl hbA hS (by exact fun h => by rcases h with h | h <;> revert h <;> decide) dL_law_1326 ?_
    refine lv_topi (fun v_8 ev_8 => ?_)
    have ev_8 : v_8 = xs 1 := ev_8
    subst ev_8
    refine lv_aload_n hx hb dL_law_1327 rfl (lv_at hl 5 rfl) ?_
    refine lv_iload hx hb dL_law_1328 (lv_at hl 1 rfl) ?_
    refine lv_iconst (v := 2) hx hb dL_law_1330 (by decide) ?_
    refine lv_iadd hx hb dL_law_1331 ?_
    refine lv_topi (fun v_9 ev_9 => ?_)
    have ev_9 : v_9 = 2 := ev_9.trans (by decide)
    subst ev_9
    refine va_sld hx hb hX hbl hbA hS (by exact fun h => by rcases h with h | h <;> revert h <;> decide) dL_law_1332 ?_
    refine lv_topi (fun v_10 ev_10 => ?_)
    have ev_10 : v_10 = xs 2 := ev_10
    subst ev_10
    have hPc := hP.sub (ws' := [(n0, .inr (15, fs_n0))]) [1] rfl
    have hDc := hD.sub (ws' := [(n0, .inr (15, fs_n0))]) [1] (by decide) rfl
    have hKc := hK.sub (tys' := []) [] rfl
    have hFc := va_free (wc := [(n0, .inr (15, fs_n0))]) hD hS hA [1] rfl
    refine va_calli (va_runV (As := [.int (xs 1), .int (xs 2)]) (rest := []) ⟨hx, hb, hml, hown, hts⟩ (c_m_stretch l dC dI n0 qfed qf qfd qs qk ((xs 1)) ((xs 2)) fs_n0 (mF.sub hF_n0 [0, 1, 2, 3, 4, 5, 6, 7, 8, 9, 10, 11, 12, 13, 14, 15, 16, 17, 18] rfl) H.size) (cwV 2 hts g_law_wv_m_stretch_176 rfl rfl rfl hv_X15_stretch ⟨Nat.le_of_ble_eq_true rfl, Nat.le_of_ble_eq_true rfl⟩) ⟨fun a U g mk q => by obtain ⟨q0, q1, qP, qK, qD, qE0⟩ := q; exact ⟨q0, q1, qP, va_K.moved (u := U) (U := U.calling g mk a) (Vm.Alike.refl U.vm) qK, qD, w_N.same rfl qE0⟩, va_recv hKc hPc (ci := 15) (q0 := 0) rfl rfl, fun U hU hW => ⟨rfl, by rw [hU], by rw [hU]; exact hPc, va_K.moved hW.alike hKc, hDc.weaken (fun _ _ _ _ => trivial), w_N.warm hW hN⟩⟩ rfl rfl hl.1 rfl (lv_room (Nat.le_of_ble_eq_true rfl)) dL_law_1333 ⟨(Nat.le_of_ble_eq_true rfl), (Nat.le_of_ble_eq_true rfl)⟩) hS (fun q _ h => hFc q h) hFc (fun r_11 u t H1 locs1 ht hvm hw hB hz1 hk1 hS1 => ?_)
    obtain ⟨fs_12, hP1, hK1, hD1, hp_13⟩ := hB
    rw [ht] at hP1
    have hK1 := va_K.moved hvm.symm hK1
    have hJ := va_join (wr := [(qo, .inl (ko, 1, .inr (.inl fo)))]) (w1 := [(n0, .inr (15, fs_12))]) hP hD [1] [0] rfl rfl (by decide) (by decide) hk1 hFc hP1 hD1
    clear hP hD hPc hDc hKc hFc hz1; try clear hk1
    obtain ⟨hP, hD⟩ := hJ
    replace hK := (hK.sub (tys' := [(ko, .long)]) [0] rfl).app (hK1.sub (tys' := []) [] rfl)
    clear hP1 hK1 hD1 hvm ht hS; try clear t
    try clear H
    revert hS1
    intro hS
    generalize H1 = H at hP hS ⊢; try clear H1
    replace hP : va_P (dC, dI) vwCl [(qo, .inl (ko, 1, .inr (.inl fo))), (n0, .inr (15, fs_12))] H := hP
    replace hD : va_D A [(qo, .inl (ko, 1, .inr (.inl fo))), (n0, .inr (15, fs_12))] := hD
    replace hK : va_K (dC, dI) vwCl [(ko, .long)] s := hK
    have hw_14 : True := hw; clear hw
    refine lv_istore (lv' := [(6, .int r_11), (5, .int 3), (4, .int 0), (3, .ref qo), (2, .ref n0), (1, .ref c0), (0, .ref b)]) hx hb dL_law_1336 hl (by decide) rfl (fun ls hl => ?_)
    refine lv_aload_n hx hb dL_law_1338 rfl (lv_at hl 4 rfl) ?_
    have hPc := hP.sub (ws' := [(n0, .inr (15, fs_12))]) [1] rfl
    have hDc := hD.sub (ws' := [(n0, .inr (15, fs_12))]) [1] (by decide) rfl
    have hKc := hK.sub (tys' := []) [] rfl
    have hFc := va_free (wc := [(n0, .inr (15, fs_12))]) hD hS hA [1] rfl
    refine va_calli (va_runV (As := []) (rest := []) ⟨hx, hb, hml, hown, hts⟩ (c_m_thrown l dC dI n0 3 fs_12 (mF.sub hp_13 [0] rfl) H.size) (cwV 0 hts g_law_wv_m_thrown_117 rfl rfl rfl hv_X15_thrown ⟨Nat.le_of_ble_eq_true rfl, Nat.le_of_ble_eq_true rfl⟩) ⟨fun a U g mk q => by obtain ⟨q0, q1, qP, qK, qD, qE0⟩ := q; exact ⟨q0, q1, qP, va_K.moved (u := U) (U := U.calling g mk a) (Vm.Alike.refl U.vm) qK, qD, w_N.same rfl qE0⟩, va_recv hKc hPc (ci := 15) (q0 := 0) rfl rfl, fun U hU hW => ⟨rfl, by rw [hU], by rw [hU]; exact hPc, va_K.moved hW.alike hKc, hDc.weaken (fun _ _ _ _ => trivial), w_N.warm hW hN⟩⟩ rfl rfl hl.1 rfl (lv_room (Nat.le_of_ble_eq_true rfl)) dL_law_1339 ⟨(Nat.le_of_ble_eq_true rfl), (Nat.le_of_ble_eq_true rfl)⟩) hS (fun q _ h => hFc q h) hFc (fun r_15 u t H1 locs1 ht hvm hw hB hz1 hk1 hS1 => ?_)
    obtain ⟨hP1, hK1, hD1⟩ := hB
    rw [ht] at hP1
    have hK1 := va_K.moved hvm.symm hK1
    have hJ := va_join (wr := [(qo, .inl (ko, 1, .inr (.inl fo)))]) (w1 := []) hP hD [1] [0] rfl rfl (by decide) (by decide) hk1 hFc hP1 hD1
    clear hP hD hPc hDc hKc hFc hz1; try clear hk1
    obtain ⟨hP, hD⟩ := hJ
    replace hK := (hK.sub (tys' := [(ko, .long)]) [0] rfl).app (hK1.sub (tys' := []) [] rfl)
    clear hP1 hK1 hD1 hvm ht hS; try clear t
    try clear H
    revert hS1
    intro hS
    generalize H1 = H at hP hS ⊢; try clear H1
    replace hP : va_P (dC, dI) vwCl [(qo, .inl (ko, 1, .inr (.inl fo)))] H := hP
    replace hD : va_D A [(qo, .inl (ko, 1, .inr (.inl fo)))] := hD
    replace hK : va_K (dC, dI) vwCl [(ko, .long)] s := hK
    have hw_16 : r_15 = 3 := hw; clear hw
    subst hw_16
    refine lv_iload hx hb dL_law_1342 (lv_at hl 1 rfl) ?_
    refine lv_icmp_eq (tgt := 1349) hx hb dL_law_1344 (by decide) (fun _ => ?_) (fun hc => absurd (by decide) hc)
    refine lv_iload hx hb dL_law_1349 (lv_at hl 1 rfl) ?_
    refine lv_if_ne (tgt := 1366) hx hb dL_law_1351 (by decide) (fun _ => ?_) (fun hc => absurd hc (by decide))
    refine lv_goto (tgt := 2018) hx hb dL_law_1366 (by decide) ?_
    exact law_tail C0 hA2 hbA hS (lv_sub hl [2, 6] rfl) (Nat.le_of_ble_eq_true rfl) (Nat.le_of_ble_eq_true rfl)
set_option maxHeartbeats 4000000 in
set_option maxRecDepth 100000 in
/-- the law at a call of keeps on fresh objects -/
theorem law_case_keeps {p : Program} {l : Launch} (hlt : l.stackTraces = false) {e : Env} {s : State} {m : MethodId} {below : List Frame} {meth : Method} {c : Code} {b : Nat} {xs : Nat → Int32} (C0 : lw_At p s m meth c b 6 xs) {dC : Nat → ClassId} {dI : Nat → Nat → Nat} {A : Nat → Prop} (hA : ∀ q : Nat, s.heap.size ≤ q → A q) (hA2 : ∀ q : Nat, A q → s.heap.size ≤ q) (hbA : ¬ A b) (hN : w_N s) (hT : w_T A s s.heap) (hSt : w_S A s s.heap) (hC : w_C A s s.heap) {H : Heap} {locs : List Loc} {ls : Array Slot} {c0 : Nat} {n0 : Nat} {qC : Nat} {qo : Nat} {fs_qC : List Value} {ko : Nat} {fo : Nat → Int64} {qfed : Nat} {qf : Nat} {qfd : Nat} {qs : Nat} {qk : Nat} {fs_c0 : List Value} {fs_n0 : List Value} (hP : va_P (dC, dI) vwCl [(c0, .inr (11, fs_c0)), (qC, .inr (2, fs_qC)), (qo, .inl (ko, 1, .inr (.inl fo))), (n0, .inr (15, fs_n0))] H) (hD : va_D A [(c0, .inr (11, fs_c0)), (qC, .inr (2, fs_qC)), (qo, .inl (ko, 1, .inr (.inl fo))), (n0, .inr (15, fs_n0))]) (hK : va_K (dC, dI) vwCl [(ko, .long)] s) (hS : va_S A s.heap H locs) (hl : lv_has ls 8 [(4, .int 0), (3, .ref qo), (2, .ref n0), (1, .ref c0), (0, .ref b)]) (hF_c0 : mF 19 [(7, .ref qC)] fs_c0) (hF_qC : mF 13 [(8, .int 0)] fs_qC) (hF_n0 : mF 89 [(0, .int 0), (18, .int 0), (19, .int 0), (20, .int (-1)), (21, .int 0), (22, .int 0), (23, .int 0), (24, .int 0), (25, .int 0), (27, .int 0), (28, .int 0), (29, .int 0), (35, .int 0), (17, .int (-1)), (26, .ref qfed), (30, .ref qf), (31, .ref qfd), (33, .ref qs), (36, .ref qk)] fs_n0) : W p l e room_1 s m #[Value.ref b] below meth c H locs 15894 3343160 (lw_Z below #[Value.ref b] s) (F0 m 1369 ls []) := by
  have hx := C0.1; have hb := C0.2.1; have hml := C0.2.2.2.1; have hown := C0.2.2.2.2.1; have hts := C0.2.2.2.2.2.1; have hX := C0.2.2.2.2.2.2.1; have hbl := C0.2.2.2.2.2.2.2.1; have hlocks := C0.2.2.2.2.2.2.2.2.1
  refine lv_aload_n hx hb dL_law_1369 rfl (lv_at hl 3 rfl) ?_
  refine lv_aload_n hx hb dL_law_1370 rfl (lv_at hl 4 rfl) ?_
  refine lv_iload hx hb dL_law_1371 (lv_at hl 0 rfl) ?_
  refine lv_iconst (v := 1) hx hb dL_law_1373 (by decide) ?_
  refine lv_iadd hx hb dL_law_1374 ?_
  refine lv_topi (fun v_1 ev_1 => ?_)
  have ev_1 : v_1 = 1 := ev_1.trans (by decide)
  subst ev_1
  refine va_sld hx hb hX hbl hbA hS (by exact fun h => by rcases h with h | h <;> revert h <;> decide) dL_law_1375 ?_
  refine lv_topi (fun v_2 ev_2 => ?_)
  have ev_2 : v_2 = xs 1 := ev_2
  subst ev_2
  refine lv_aload_n hx hb dL_law_1376 rfl (lv_at hl 4 rfl) ?_
  refine lv_iload hx hb dL_law_1377 (lv_at hl 0 rfl) ?_
  refine lv_iconst (v := 2) hx hb dL_law_1379 (by decide) ?_
  refine lv_iadd hx hb dL_law_1380 ?_
  refine lv_topi (fun v_3 ev_3 => ?_)
  have ev_3 : v_3 = 2 := ev_3.trans (by decide)
  subst ev_3
  refine va_sld hx hb hX hbl hbA hS (by exact fun h => by rcases h with h | h <;> revert h <;> decide) dL_law_1381 ?_
  refine lv_topi (fun v_4 ev_4 => ?_)
  have ev_4 : v_4 = xs 2 := ev_4
  subst ev_4
  refine lv_aload_n hx hb dL_law_1382 rfl (lv_at hl 4 rfl) ?_
  refine lv_iload hx hb dL_law_1383 (lv_at hl 0 rfl) ?_
  refine lv_iconst (v := 3) hx hb dL_law_1385 (by decide) ?_
  refine lv_iadd hx hb dL_law_1386 ?_
  refine lv_topi (fun v_5 ev_5 => ?_)
  have ev_5 : v_5 = 3 := ev_5.trans (by decide)
  subst ev_5
  refine va_sld hx hb hX hbl hbA hS (by exact fun h => by rcases h with h | h <;> revert h <;> decide) dL_law_1387 ?_
  refine lv_topi (fun v_6 ev_6 => ?_)
  have ev_6 : v_6 = xs 3 := ev_6
  subst ev_6
  refine lv_aload_n hx hb dL_law_1388 rfl (lv_at hl 1 rfl) ?_
  have hPc := hP.sub (ws' := [(c0, .inr (11, fs_c0)), (qC, .inr (2, fs_qC))]) [0, 1] rfl
  have hDc := hD.sub (ws' := [(c0, .inr (11, fs_c0)), (qC, .inr (2, fs_qC))]) [0, 1] (by decide) rfl
  have hKc := hK.sub (tys' := []) [] rfl
  have hFc := va_free (wc := [(c0, .inr (11, fs_c0)), (qC, .inr (2, fs_qC))]) hD hS hA [0, 1] rfl
  refine vx_calli (vx_runSX (As := [.ref c0, .int (xs 1), .int (xs 2), .int (xs 3), .ref qo]) (rest := []) ⟨hx, hb, hml, hown, hts⟩ (c_l_keeps l hlt dC dI c0 qC qo ((xs 1)) ((xs 2)) ((xs 3)) fs_c0 fs_qC (mF.sub hF_c0 [0] rfl) (mF.sub hF_qC [0] rfl) H.size) (vx_cwSW 5 hts g_law_wv_l_keeps_177 rfl rfl rfl hd_L_keeps ⟨Nat.le_of_ble_eq_true rfl, Nat.le_of_ble_eq_true rfl⟩) ⟨fun a U g mk q => by obtain ⟨q0, q1, qP, qK, qD, qE0, qE1, qE2⟩ := q; exact ⟨q0, q1, qP, va_K.moved (u := U) (U := U.calling g mk a) (Vm.Alike.refl U.vm) qK, qD, w_N.same rfl qE0, w_T.same rfl rfl qE1, w_C.same rfl rfl qE2⟩, fun U hU hW => ⟨rfl, by rw [hU], by rw [hU]; exact hPc, va_K.moved hW.alike hKc, hDc.weaken (fun _ _ _ _ => trivial), w_N.warm hW hN, w_T.go hT hW hS.2.1 hFc hU, w_C.go hC hW hS.2.1 hFc hU⟩⟩ rfl rfl hl.1 rfl (lv_room (Nat.le_of_ble_eq_true rfl)) dL_law_1389 ⟨(Nat.le_of_ble_eq_true rfl), (Nat.le_of_ble_eq_true rfl)⟩) hS (fun q _ h => hFc q h) hFc (fun q _ h => hFc q h) (fun E9 ce9 q9 u t H1 locs1 ht hvm hpx hBX hz1 hk1 hS1 hcell9 hv9 hcl9 => ?_) (fun r_7 u t H1 locs1 ht hvm hw hB hz1 hk1 hS1 => ?_)
  · skip
    exact (hpx : False).elim
  · skip
    obtain ⟨hP1, hK1, hD1⟩ := hB
    rw [ht] at hP1
    have hK1 := va_K.moved hvm.symm hK1
    have hJ := va_join (wr := [(qo, .inl (ko, 1, .inr (.inl fo))), (n0, .inr (15, fs_n0))]) (w1 := []) hP hD [0, 1] [2, 3] rfl rfl (by decide) (by decide) hk1 hFc hP1 hD1
    clear hP hD hPc hDc hKc hFc hz1; try clear hk1
    obtain ⟨hP, hD⟩ := hJ
    replace hK := (hK.sub (tys' := [(ko, .long)]) [0] rfl).app (hK1.sub (tys' := []) [] rfl)
    clear hP1 hK1 hD1 hvm ht hS; try clear t
    try clear H
    revert hS1
    intro hS
    generalize H1 = H at hP hS ⊢; try clear H1
    replace hP : va_P (dC, dI) vwCl [(qo, .inl (ko, 1, .inr (.inl fo))), (n0, .inr (15, fs_n0))] H := hP
    replace hD : va_D A [(qo, .inl (ko, 1, .inr (.inl fo))), (n0, .inr (15, fs_n0))] := hD
    replace hK : va_K (dC, dI) vwCl [(ko, .long)] s := hK
    have hw_8 : r_7 = 3 := hw; clear hw
    subst hw_8
    refine lv_istore (lv' := [(5, .int 3), (4, .int 0), (3, .ref qo), (2, .ref n0), (1, .ref c0), (0, .ref b)]) hx hb dL_law_1392 hl (by decide) rfl (fun ls hl => ?_)
    refine lv_aload_n hx hb dL_law_1394 rfl (lv_at hl 3 rfl) ?_
    refine lv_aload_n hx hb dL_law_1395 rfl (lv_at hl 5 rfl) ?_
    refine lv_iload hx hb dL_law_1396 (lv_at hl 1 rfl) ?_
    refine lv_iconst (v := 1) hx hb dL_law_1398 (by decide) ?_
    refine lv_iadd hx hb dL_law_1399 ?_
    refine lv_topi (fun v_9 ev_9 => ?_)
    have ev_9 : v_9 = 1 := ev_9.trans (by decide)
    subst ev_9
    refine va_sld hx hb hX hbl hbA hS (by exact fun h => by rcases h with h | h <;> revert h <;> decide) dL_law_1400 ?_
    refine lv_topi (fun v_10 ev_10 => ?_)
    have ev_10 : v_10 = xs 1 := ev_10
    subst ev_10
    refine lv_aload_n hx hb dL_law_1401 rfl (lv_at hl 5 rfl) ?_
    refine lv_iload hx hb dL_law_1402 (lv_at hl 1 rfl) ?_
    refine lv_iconst (v := 2) hx hb dL_law_1404 (by decide) ?_
    refine lv_iadd hx hb dL_law_1405 ?_
    refine lv_topi (fun v_11 ev_11 => ?_)
    have ev_11 : v_11 = 2 := ev_11.trans (by decide)
    subst ev_11
    refine va_sld hx hb hX hbl hbA hS (by exact fun h => by rcases h with h | h <;> revert h <;> decide) dL_law_1406 ?_
    refine lv_topi (fun v_12 ev_12 => ?_)
    have ev_12 : v_12 = xs 2 := ev_12
    subst ev_12
    refine lv_aload_n hx hb dL_law_1407 rfl (lv_at hl 5 rfl) ?_
    refine lv_iload hx hb dL_law_1408 (lv_at hl 1 rfl) ?_
    refine lv_iconst (v := 3) hx hb dL_law_1410 (by decide) ?_
    refine lv_iadd hx hb dL_law_1411 ?_
    refine lv_topi (fun v_13 ev_13 => ?_)
    have ev_13 : v_13 = 3 := ev_13.trans (by decide)
    subst ev_13
    refine va_sld hx hb hX hbl hbA hS (by exact fun h => by rcases h with h | h <;> revert h <;> decide) dL_law_1412 ?_
    refine lv_topi (fun v_14 ev_14 => ?_)
    have ev_14 : v_14 = xs 3 := ev_14
    subst ev_14
    have hPc := hP.sub (ws' := [(n0, .inr (15, fs_n0))]) [1] rfl
    have hDc := hD.sub (ws' := [(n0, .inr (15, fs_n0))]) [1] (by decide) rfl
    have hKc := hK.sub (tys' := []) [] rfl
    have hFc := va_free (wc := [(n0, .inr (15, fs_n0))]) hD hS hA [1] rfl
    refine va_calli (va_runV (As := [.int (xs 1), .int (xs 2), .int (xs 3)]) (rest := []) ⟨hx, hb, hml, hown, hts⟩ (c_m_keeps l dC dI n0 qfed qf qfd qs qk ((xs 1)) ((xs 2)) ((xs 3)) fs_n0 (mF.sub hF_n0 [0, 1, 2, 3, 4, 5, 6, 7, 8, 9, 10, 11, 12, 13, 14, 15, 16, 17, 18] rfl) H.size) (cwV 3 hts g_law_wv_m_keeps_179 rfl rfl rfl hv_X15_keeps ⟨Nat.le_of_ble_eq_true rfl, Nat.le_of_ble_eq_true rfl⟩) ⟨fun a U g mk q => by obtain ⟨q0, q1, qP, qK, qD, qE0⟩ := q; exact ⟨q0, q1, qP, va_K.moved (u := U) (U := U.calling g mk a) (Vm.Alike.refl U.vm) qK, qD, w_N.same rfl qE0⟩, va_recv hKc hPc (ci := 15) (q0 := 0) rfl rfl, fun U hU hW => ⟨rfl, by rw [hU], by rw [hU]; exact hPc, va_K.moved hW.alike hKc, hDc.weaken (fun _ _ _ _ => trivial), w_N.warm hW hN⟩⟩ rfl rfl hl.1 rfl (lv_room (Nat.le_of_ble_eq_true rfl)) dL_law_1413 ⟨(Nat.le_of_ble_eq_true rfl), (Nat.le_of_ble_eq_true rfl)⟩) hS (fun q _ h => hFc q h) hFc (fun r_15 u t H1 locs1 ht hvm hw hB hz1 hk1 hS1 => ?_)
    obtain ⟨fs_16, hP1, hK1, hD1, hp_17⟩ := hB
    rw [ht] at hP1
    have hK1 := va_K.moved hvm.symm hK1
    have hJ := va_join (wr := [(qo, .inl (ko, 1, .inr (.inl fo)))]) (w1 := [(n0, .inr (15, fs_16))]) hP hD [1] [0] rfl rfl (by decide) (by decide) hk1 hFc hP1 hD1
    clear hP hD hPc hDc hKc hFc hz1; try clear hk1
    obtain ⟨hP, hD⟩ := hJ
    replace hK := (hK.sub (tys' := [(ko, .long)]) [0] rfl).app (hK1.sub (tys' := []) [] rfl)
    clear hP1 hK1 hD1 hvm ht hS; try clear t
    try clear H
    revert hS1
    intro hS
    generalize H1 = H at hP hS ⊢; try clear H1
    replace hP : va_P (dC, dI) vwCl [(qo, .inl (ko, 1, .inr (.inl fo))), (n0, .inr (15, fs_16))] H := hP
    replace hD : va_D A [(qo, .inl (ko, 1, .inr (.inl fo))), (n0, .inr (15, fs_16))] := hD
    replace hK : va_K (dC, dI) vwCl [(ko, .long)] s := hK
    have hw_18 : True := hw; clear hw
    refine lv_istore (lv' := [(6, .int r_15), (5, .int 3), (4, .int 0), (3, .ref qo), (2, .ref n0), (1, .ref c0), (0, .ref b)]) hx hb dL_law_1416 hl (by decide) rfl (fun ls hl => ?_)
    refine lv_aload_n hx hb dL_law_1418 rfl (lv_at hl 4 rfl) ?_
    have hPc := hP.sub (ws' := [(n0, .inr (15, fs_16))]) [1] rfl
    have hDc := hD.sub (ws' := [(n0, .inr (15, fs_16))]) [1] (by decide) rfl
    have hKc := hK.sub (tys' := []) [] rfl
    have hFc := va_free (wc := [(n0, .inr (15, fs_16))]) hD hS hA [1] rfl
    refine va_calli (va_runV (As := []) (rest := []) ⟨hx, hb, hml, hown, hts⟩ (c_m_thrown l dC dI n0 3 fs_16 (mF.sub hp_17 [0] rfl) H.size) (cwV 0 hts g_law_wv_m_thrown_117 rfl rfl rfl hv_X15_thrown ⟨Nat.le_of_ble_eq_true rfl, Nat.le_of_ble_eq_true rfl⟩) ⟨fun a U g mk q => by obtain ⟨q0, q1, qP, qK, qD, qE0⟩ := q; exact ⟨q0, q1, qP, va_K.moved (u := U) (U := U.calling g mk a) (Vm.Alike.refl U.vm) qK, qD, w_N.same rfl qE0⟩, va_recv hKc hPc (ci := 15) (q0 := 0) rfl rfl, fun U hU hW => ⟨rfl, by rw [hU], by rw [hU]; exact hPc, va_K.moved hW.alike hKc, hDc.weaken (fun _ _ _ _ => trivial), w_N.warm hW hN⟩⟩ rfl rfl hl.1 rfl (lv_room (Nat.le_of_ble_eq_true rfl)) dL_law_1419 ⟨(Nat.le_of_ble_eq_true rfl), (Nat.le_of_ble_eq_true rfl)⟩) hS (fun q _ h => hFc q h) hFc (fun r_19 u t H1 locs1 ht hvm hw hB hz1 hk1 hS1 => ?_)
    obtain ⟨hP1, hK1, hD1⟩ := hB
    rw [ht] at hP1
    have hK1 := va_K.moved hvm.symm hK1
    have hJ := va_join (wr := [(qo, .inl (ko, 1, .inr (.inl fo)))]) (w1 := []) hP hD [1] [0] rfl rfl (by decide) (by decide) hk1 hFc hP1 hD1
    clear hP hD hPc hDc hKc hFc hz1; try clear hk1
    obtain ⟨hP, hD⟩ := hJ
    replace hK := (hK.sub (tys' := [(ko, .long)]) [0] rfl).app (hK1.sub (tys' := []) [] rfl)
    clear hP1 hK1 hD1 hvm ht hS; try clear t
    try clear H
    revert hS1
    intro hS
    generalize H1 = H at hP hS ⊢; try clear H1
    replace hP : va_P (dC, dI) vwCl [(qo, .inl (ko, 1, .inr (.inl fo)))] H := hP
    replace hD : va_D A [(qo, .inl (ko, 1, .inr (.inl fo)))] := hD
    replace hK : va_K (dC, dI) vwCl [(ko, .long)] s := hK
    have hw_20 : r_19 = 3 := hw; clear hw
    subst hw_20
    refine lv_iload hx hb dL_law_1422 (lv_at hl 1 rfl) ?_
    refine lv_icmp_eq (tgt := 1429) hx hb dL_law_1424 (by decide) (fun _ => ?_) (fun hc => absurd (by decide) hc)
    refine lv_iload hx hb dL_law_1429 (lv_at hl 1 rfl) ?_
    refine lv_if_ne (tgt := 1446) hx hb dL_law_1431 (by decide) (fun _ => ?_) (fun hc => absurd hc (by decide))
    refine lv_goto (tgt := 2018) hx hb dL_law_1446 (by decide) ?_
    exact law_tail C0 hA2 hbA hS (lv_sub hl [2, 6] rfl) (Nat.le_of_ble_eq_true rfl) (Nat.le_of_ble_eq_true rfl)
set_option maxHeartbeats 4000000 in
set_option maxRecDepth 100000 in
/-- the law at a call of sums on fresh objects -/
theorem law_case_sums {p : Program} {l : Launch} (hlt : l.stackTraces = false) {e : Env} {s : State} {m : MethodId} {below : List Frame} {meth : Method} {c : Code} {b : Nat} {xs : Nat → Int32} (C0 : lw_At p s m meth c b 6 xs) {dC : Nat → ClassId} {dI : Nat → Nat → Nat} {A : Nat → Prop} (hA : ∀ q : Nat, s.heap.size ≤ q → A q) (hA2 : ∀ q : Nat, A q → s.heap.size ≤ q) (hbA : ¬ A b) (hN : w_N s) (hT : w_T A s s.heap) (hSt : w_S A s s.heap) (hC : w_C A s s.heap) {H : Heap} {locs : List Loc} {ls : Array Slot} {c0 : Nat} {n0 : Nat} {qC : Nat} {qo : Nat} {fs_qC : List Value} {ko : Nat} {fo : Nat → Int64} {qfed : Nat} {qf : Nat} {qfd : Nat} {qs : Nat} {qk : Nat} {fs_c0 : List Value} {fs_n0 : List Value} (hP : va_P (dC, dI) vwCl [(c0, .inr (11, fs_c0)), (qC, .inr (2, fs_qC)), (qo, .inl (ko, 1, .inr (.inl fo))), (n0, .inr (15, fs_n0))] H) (hD : va_D A [(c0, .inr (11, fs_c0)), (qC, .inr (2, fs_qC)), (qo, .inl (ko, 1, .inr (.inl fo))), (n0, .inr (15, fs_n0))]) (hK : va_K (dC, dI) vwCl [(ko, .long)] s) (hS : va_S A s.heap H locs) (hl : lv_has ls 8 [(4, .int 0), (3, .ref qo), (2, .ref n0), (1, .ref c0), (0, .ref b)]) (hF_c0 : mF 19 [(7, .ref qC)] fs_c0) (hF_qC : mF 13 [(8, .int 0)] fs_qC) (hF_n0 : mF 89 [(0, .int 0), (18, .int 0), (19, .int 0), (20, .int (-1)), (21, .int 0), (22, .int 0), (23, .int 0), (24, .int 0), (25, .int 0), (27, .int 0), (28, .int 0), (29, .int 0), (35, .int 0), (17, .int (-1)), (26, .ref qfed), (30, .ref qf), (31, .ref qfd), (33, .ref qs), (36, .ref qk)] fs_n0) : W p l e room_1 s m #[Value.ref b] below meth c H locs 15894 3343160 (lw_Z below #[Value.ref b] s) (F0 m 1449 ls []) := by
  have hx := C0.1; have hb := C0.2.1; have hml := C0.2.2.2.1; have hown := C0.2.2.2.2.1; have hts := C0.2.2.2.2.2.1; have hX := C0.2.2.2.2.2.2.1; have hbl := C0.2.2.2.2.2.2.2.1; have hlocks := C0.2.2.2.2.2.2.2.2.1
  refine lv_aload_n hx hb dL_law_1449 rfl (lv_at hl 3 rfl) ?_
  refine lv_aload_n hx hb dL_law_1450 rfl (lv_at hl 4 rfl) ?_
  refine lv_iload hx hb dL_law_1451 (lv_at hl 0 rfl) ?_
  refine lv_iconst (v := 1) hx hb dL_law_1453 (by decide) ?_
  refine lv_iadd hx hb dL_law_1454 ?_
  refine lv_topi (fun v_1 ev_1 => ?_)
  have ev_1 : v_1 = 1 := ev_1.trans (by decide)
  subst ev_1
  refine va_sld hx hb hX hbl hbA hS (by exact fun h => by rcases h with h | h <;> revert h <;> decide) dL_law_1455 ?_
  refine lv_topi (fun v_2 ev_2 => ?_)
  have ev_2 : v_2 = xs 1 := ev_2
  subst ev_2
  refine lv_aload_n hx hb dL_law_1456 rfl (lv_at hl 1 rfl) ?_
  have hPc := hP.sub (ws' := [(c0, .inr (11, fs_c0)), (qC, .inr (2, fs_qC))]) [0, 1] rfl
  have hDc := hD.sub (ws' := [(c0, .inr (11, fs_c0)), (qC, .inr (2, fs_qC))]) [0, 1] (by decide) rfl
  have hKc := hK.sub (tys' := []) [] rfl
  have hFc := va_free (wc := [(c0, .inr (11, fs_c0)), (qC, .inr (2, fs_qC))]) hD hS hA [0, 1] rfl
  refine vx_calli (vx_runSX (As := [.ref c0, .int (xs 1), .ref qo]) (rest := []) ⟨hx, hb, hml, hown, hts⟩ (c_l_sums l hlt dC dI c0 qC qo ((xs 1)) fs_c0 fs_qC (mF.sub hF_c0 [0] rfl) (mF.sub hF_qC [0] rfl) H.size) (vx_cwSW 3 hts g_law_wv_l_sums_180 rfl rfl rfl hd_L_sums ⟨Nat.le_of_ble_eq_true rfl, Nat.le_of_ble_eq_true rfl⟩) ⟨fun a U g mk q => by obtain ⟨q0, q1, qP, qK, qD, qE0, qE1, qE2⟩ := q; exact ⟨q0, q1, qP, va_K.moved (u := U) (U := U.calling g mk a) (Vm.Alike.refl U.vm) qK, qD, w_N.same rfl qE0, w_T.same rfl rfl qE1, w_C.same rfl rfl qE2⟩, fun U hU hW => ⟨rfl, by rw [hU], by rw [hU]; exact hPc, va_K.moved hW.alike hKc, hDc.weaken (fun _ _ _ _ => trivial), w_N.warm hW hN, w_T.go hT hW hS.2.1 hFc hU, w_C.go hC hW hS.2.1 hFc hU⟩⟩ rfl rfl hl.1 rfl (lv_room (Nat.le_of_ble_eq_true rfl)) dL_law_1457 ⟨(Nat.le_of_ble_eq_true rfl), (Nat.le_of_ble_eq_true rfl)⟩) hS (fun q _ h => hFc q h) hFc (fun q _ h => hFc q h) (fun E9 ce9 q9 u t H1 locs1 ht hvm hpx hBX hz1 hk1 hS1 hcell9 hv9 hcl9 => ?_) (fun r_3 u t H1 locs1 ht hvm hw hB hz1 hk1 hS1 => ?_)
  · skip
    exact (hpx : False).elim
  · skip
    obtain ⟨hP1, hK1, hD1⟩ := hB
    rw [ht] at hP1
    have hK1 := va_K.moved hvm.symm hK1
    have hJ := va_join (wr := [(qo, .inl (ko, 1, .inr (.inl fo))), (n0, .inr (15, fs_n0))]) (w1 := []) hP hD [0, 1] [2, 3] rfl rfl (by decide) (by decide) hk1 hFc hP1 hD1
    clear hP hD hPc hDc hKc hFc hz1; try clear hk1
    obtain ⟨hP, hD⟩ := hJ
    replace hK := (hK.sub (tys' := [(ko, .long)]) [0] rfl).app (hK1.sub (tys' := []) [] rfl)
    clear hP1 hK1 hD1 hvm ht hS; try clear t
    try clear H
    revert hS1
    intro hS
    generalize H1 = H at hP hS ⊢; try clear H1
    replace hP : va_P (dC, dI) vwCl [(qo, .inl (ko, 1, .inr (.inl fo))), (n0, .inr (15, fs_n0))] H := hP
    replace hD : va_D A [(qo, .inl (ko, 1, .inr (.inl fo))), (n0, .inr (15, fs_n0))] := hD
    replace hK : va_K (dC, dI) vwCl [(ko, .long)] s := hK
    have hw_4 : r_3 = 2 := hw; clear hw
    subst hw_4
    refine lv_istore (lv' := [(5, .int 2), (4, .int 0), (3, .ref qo), (2, .ref n0), (1, .ref c0), (0, .ref b)]) hx hb dL_law_1460 hl (by decide) rfl (fun ls hl => ?_)
    refine lv_aload_n hx hb dL_law_1462 rfl (lv_at hl 3 rfl) ?_
    refine lv_aload_n hx hb dL_law_1463 rfl (lv_at hl 5 rfl) ?_
    refine lv_iload hx hb dL_law_1464 (lv_at hl 1 rfl) ?_
    refine lv_iconst (v := 1) hx hb dL_law_1466 (by decide) ?_
    refine lv_iadd hx hb dL_law_1467 ?_
    refine lv_topi (fun v_5 ev_5 => ?_)
    have ev_5 : v_5 = 1 := ev_5.trans (by decide)
    subst ev_5
    refine va_sld hx hb hX hbl hbA hS (by exact fun h => by rcases h with h | h <;> revert h <;> decide) dL_law_1468 ?_
    refine lv_topi (fun v_6 ev_6 => ?_)
    have ev_6 : v_6 = xs 1 := ev_6
    subst ev_6
    have hPc := hP.sub (ws' := [(n0, .inr (15, fs_n0))]) [1] rfl
    have hDc := hD.sub (ws' := [(n0, .inr (15, fs_n0))]) [1] (by decide) rfl
    have hKc := hK.sub (tys' := []) [] rfl
    have hFc := va_free (wc := [(n0, .inr (15, fs_n0))]) hD hS hA [1] rfl
    refine va_calli (va_runV (As := [.int (xs 1)]) (rest := []) ⟨hx, hb, hml, hown, hts⟩ (c_m_sums l dC dI n0 qfed qf qfd qs qk ((xs 1)) fs_n0 (mF.sub hF_n0 [0, 1, 2, 3, 4, 5, 6, 7, 8, 9, 10, 11, 12, 13, 14, 15, 16, 17, 18] rfl) H.size) (cwV 1 hts g_law_wv_m_sums_182 rfl rfl rfl hv_X15_sums ⟨Nat.le_of_ble_eq_true rfl, Nat.le_of_ble_eq_true rfl⟩) ⟨fun a U g mk q => by obtain ⟨q0, q1, qP, qK, qD, qE0⟩ := q; exact ⟨q0, q1, qP, va_K.moved (u := U) (U := U.calling g mk a) (Vm.Alike.refl U.vm) qK, qD, w_N.same rfl qE0⟩, va_recv hKc hPc (ci := 15) (q0 := 0) rfl rfl, fun U hU hW => ⟨rfl, by rw [hU], by rw [hU]; exact hPc, va_K.moved hW.alike hKc, hDc.weaken (fun _ _ _ _ => trivial), w_N.warm hW hN⟩⟩ rfl rfl hl.1 rfl (lv_room (Nat.le_of_ble_eq_true rfl)) dL_law_1469 ⟨(Nat.le_of_ble_eq_true rfl), (Nat.le_of_ble_eq_true rfl)⟩) hS (fun q _ h => hFc q h) hFc (fun r_7 u t H1 locs1 ht hvm hw hB hz1 hk1 hS1 => ?_)
    obtain ⟨fs_8, hP1, hK1, hD1, hp_9⟩ := hB
    rw [ht] at hP1
    have hK1 := va_K.moved hvm.symm hK1
    have hJ := va_join (wr := [(qo, .inl (ko, 1, .inr (.inl fo)))]) (w1 := [(n0, .inr (15, fs_8))]) hP hD [1] [0] rfl rfl (by decide) (by decide) hk1 hFc hP1 hD1
    clear hP hD hPc hDc hKc hFc hz1; try clear hk1
    obtain ⟨hP, hD⟩ := hJ
    replace hK := (hK.sub (tys' := [(ko, .long)]) [0] rfl).app (hK1.sub (tys' := []) [] rfl)
    clear hP1 hK1 hD1 hvm ht hS; try clear t
    try clear H
    revert hS1
    intro hS
    generalize H1 = H at hP hS ⊢; try clear H1
    replace hP : va_P (dC, dI) vwCl [(qo, .inl (ko, 1, .inr (.inl fo))), (n0, .inr (15, fs_8))] H := hP
    replace hD : va_D A [(qo, .inl (ko, 1, .inr (.inl fo))), (n0, .inr (15, fs_8))] := hD
    replace hK : va_K (dC, dI) vwCl [(ko, .long)] s := hK
    have hw_10 : True := hw; clear hw
    refine lv_istore (lv' := [(6, .int r_7), (5, .int 2), (4, .int 0), (3, .ref qo), (2, .ref n0), (1, .ref c0), (0, .ref b)]) hx hb dL_law_1472 hl (by decide) rfl (fun ls hl => ?_)
    refine lv_aload_n hx hb dL_law_1474 rfl (lv_at hl 4 rfl) ?_
    have hPc := hP.sub (ws' := [(n0, .inr (15, fs_8))]) [1] rfl
    have hDc := hD.sub (ws' := [(n0, .inr (15, fs_8))]) [1] (by decide) rfl
    have hKc := hK.sub (tys' := []) [] rfl
    have hFc := va_free (wc := [(n0, .inr (15, fs_8))]) hD hS hA [1] rfl
    refine va_calli (va_runV (As := []) (rest := []) ⟨hx, hb, hml, hown, hts⟩ (c_m_thrown l dC dI n0 2 fs_8 (mF.sub hp_9 [0] rfl) H.size) (cwV 0 hts g_law_wv_m_thrown_117 rfl rfl rfl hv_X15_thrown ⟨Nat.le_of_ble_eq_true rfl, Nat.le_of_ble_eq_true rfl⟩) ⟨fun a U g mk q => by obtain ⟨q0, q1, qP, qK, qD, qE0⟩ := q; exact ⟨q0, q1, qP, va_K.moved (u := U) (U := U.calling g mk a) (Vm.Alike.refl U.vm) qK, qD, w_N.same rfl qE0⟩, va_recv hKc hPc (ci := 15) (q0 := 0) rfl rfl, fun U hU hW => ⟨rfl, by rw [hU], by rw [hU]; exact hPc, va_K.moved hW.alike hKc, hDc.weaken (fun _ _ _ _ => trivial), w_N.warm hW hN⟩⟩ rfl rfl hl.1 rfl (lv_room (Nat.le_of_ble_eq_true rfl)) dL_law_1475 ⟨(Nat.le_of_ble_eq_true rfl), (Nat.le_of_ble_eq_true rfl)⟩) hS (fun q _ h => hFc q h) hFc (fun r_11 u t H1 locs1 ht hvm hw hB hz1 hk1 hS1 => ?_)
    obtain ⟨hP1, hK1, hD1⟩ := hB
    rw [ht] at hP1
    have hK1 := va_K.moved hvm.symm hK1
    have hJ := va_join (wr := [(qo, .inl (ko, 1, .inr (.inl fo)))]) (w1 := []) hP hD [1] [0] rfl rfl (by decide) (by decide) hk1 hFc hP1 hD1
    clear hP hD hPc hDc hKc hFc hz1; try clear hk1
    obtain ⟨hP, hD⟩ := hJ
    replace hK := (hK.sub (tys' := [(ko, .long)]) [0] rfl).app (hK1.sub (tys' := []) [] rfl)
    clear hP1 hK1 hD1 hvm ht hS; try clear t
    try clear H
    revert hS1
    intro hS
    generalize H1 = H at hP hS ⊢; try clear H1
    replace hP : va_P (dC, dI) vwCl [(qo, .inl (ko, 1, .inr (.inl fo)))] H := hP
    replace hD : va_D A [(qo, .inl (ko, 1, .inr (.inl fo)))] := hD
    replace hK : va_K (dC, dI) vwCl [(ko, .long)] s := hK
    have hw_12 : r_11 = 2 := hw; clear hw
    subst hw_12
    refine lv_iload hx hb dL_law_1478 (lv_at hl 1 rfl) ?_
    refine lv_icmp_eq (tgt := 1485) hx hb dL_law_1480 (by decide) (fun _ => ?_) (fun hc => absurd (by decide) hc)
    refine lv_iload hx hb dL_law_1485 (lv_at hl 1 rfl) ?_
    refine lv_if_ne (tgt := 1502) hx hb dL_law_1487 (by decide) (fun _ => ?_) (fun hc => absurd hc (by decide))
    refine lv_goto (tgt := 2018) hx hb dL_law_1502 (by decide) ?_
    exact law_tail C0 hA2 hbA hS (lv_sub hl [2, 6] rfl) (Nat.le_of_ble_eq_true rfl) (Nat.le_of_ble_eq_true rfl)
set_option maxHeartbeats 4000000 in
set_option maxRecDepth 100000 in
/-- the law at a call of sum on fresh objects -/
theorem law_case_sum {p : Program} {l : Launch} (hlt : l.stackTraces = false) {e : Env} {s : State} {m : MethodId} {below : List Frame} {meth : Method} {c : Code} {b : Nat} {xs : Nat → Int32} (C0 : lw_At p s m meth c b 6 xs) {dC : Nat → ClassId} {dI : Nat → Nat → Nat} {A : Nat → Prop} (hA : ∀ q : Nat, s.heap.size ≤ q → A q) (hA2 : ∀ q : Nat, A q → s.heap.size ≤ q) (hbA : ¬ A b) (hN : w_N s) (hT : w_T A s s.heap) (hSt : w_S A s s.heap) (hC : w_C A s s.heap) {H : Heap} {locs : List Loc} {ls : Array Slot} {c0 : Nat} {n0 : Nat} {qC : Nat} {qo : Nat} {fs_qC : List Value} {ko : Nat} {fo : Nat → Int64} {qfed : Nat} {qf : Nat} {qfd : Nat} {qs : Nat} {qk : Nat} {fs_c0 : List Value} {fs_n0 : List Value} (hP : va_P (dC, dI) vwCl [(c0, .inr (11, fs_c0)), (qC, .inr (2, fs_qC)), (qo, .inl (ko, 1, .inr (.inl fo))), (n0, .inr (15, fs_n0))] H) (hD : va_D A [(c0, .inr (11, fs_c0)), (qC, .inr (2, fs_qC)), (qo, .inl (ko, 1, .inr (.inl fo))), (n0, .inr (15, fs_n0))]) (hK : va_K (dC, dI) vwCl [(ko, .long)] s) (hS : va_S A s.heap H locs) (hl : lv_has ls 8 [(4, .int 0), (3, .ref qo), (2, .ref n0), (1, .ref c0), (0, .ref b)]) (hF_c0 : mF 19 [(7, .ref qC)] fs_c0) (hF_qC : mF 13 [(8, .int 0)] fs_qC) (hF_n0 : mF 89 [(0, .int 0), (18, .int 0), (19, .int 0), (20, .int (-1)), (21, .int 0), (22, .int 0), (23, .int 0), (24, .int 0), (25, .int 0), (27, .int 0), (28, .int 0), (29, .int 0), (35, .int 0), (17, .int (-1)), (26, .ref qfed), (30, .ref qf), (31, .ref qfd), (33, .ref qs), (36, .ref qk)] fs_n0) : W p l e room_1 s m #[Value.ref b] below meth c H locs 15894 3343160 (lw_Z below #[Value.ref b] s) (F0 m 1505 ls []) := by
  have hx := C0.1; have hb := C0.2.1; have hml := C0.2.2.2.1; have hown := C0.2.2.2.2.1; have hts := C0.2.2.2.2.2.1; have hX := C0.2.2.2.2.2.2.1; have hbl := C0.2.2.2.2.2.2.2.1; have hlocks := C0.2.2.2.2.2.2.2.2.1
  refine lv_aload_n hx hb dL_law_1505 rfl (lv_at hl 3 rfl) ?_
  refine lv_aload_n hx hb dL_law_1506 rfl (lv_at hl 4 rfl) ?_
  refine lv_iload hx hb dL_law_1507 (lv_at hl 0 rfl) ?_
  refine lv_iconst (v := 1) hx hb dL_law_1509 (by decide) ?_
  refine lv_iadd hx hb dL_law_1510 ?_
  refine lv_topi (fun v_1 ev_1 => ?_)
  have ev_1 : v_1 = 1 := ev_1.trans (by decide)
  subst ev_1
  refine va_sld hx hb hX hbl hbA hS (by exact fun h => by rcases h with h | h <;> revert h <;> decide) dL_law_1511 ?_
  refine lv_topi (fun v_2 ev_2 => ?_)
  have ev_2 : v_2 = xs 1 := ev_2
  subst ev_2
  refine lv_aload_n hx hb dL_law_1512 rfl (lv_at hl 4 rfl) ?_
  refine lv_iload hx hb dL_law_1513 (lv_at hl 0 rfl) ?_
  refine lv_iconst (v := 2) hx hb dL_law_1515 (by decide) ?_
  refine lv_iadd hx hb dL_law_1516 ?_
  refine lv_topi (fun v_3 ev_3 => ?_)
  have ev_3 : v_3 = 2 := ev_3.trans (by decide)
  subst ev_3
  refine va_sld hx hb hX hbl hbA hS (by exact fun h => by rcases h with h | h <;> revert h <;> decide) dL_law_1517 ?_
  refine lv_topi (fun v_4 ev_4 => ?_)
  have ev_4 : v_4 = xs 2 := ev_4
  subst ev_4
  refine lv_aload_n hx hb dL_law_1518 rfl (lv_at hl 4 rfl) ?_
  refine lv_iload hx hb dL_law_1519 (lv_at hl 0 rfl) ?_
  refine lv_iconst (v := 3) hx hb dL_law_1521 (by decide) ?_
  refine lv_iadd hx hb dL_law_1522 ?_
  refine lv_topi (fun v_5 ev_5 => ?_)
  have ev_5 : v_5 = 3 := ev_5.trans (by decide)
  subst ev_5
  refine va_sld hx hb hX hbl hbA hS (by exact fun h => by rcases h with h | h <;> revert h <;> decide) dL_law_1523 ?_
  refine lv_topi (fun v_6 ev_6 => ?_)
  have ev_6 : v_6 = xs 3 := ev_6
  subst ev_6
  refine lv_aload_n hx hb dL_law_1524 rfl (lv_at hl 4 rfl) ?_
  refine lv_iload hx hb dL_law_1525 (lv_at hl 0 rfl) ?_
  refine lv_iconst (v := 4) hx hb dL_law_1527 (by decide) ?_
  refine lv_iadd hx hb dL_law_1528 ?_
  refine lv_topi (fun v_7 ev_7 => ?_)
  have ev_7 : v_7 = 4 := ev_7.trans (by decide)
  subst ev_7
  refine va_sld hx hb hX hbl hbA hS (by exact fun h => by rcases h with h | h <;> revert h <;> decide) dL_law_1529 ?_
  refine lv_topi (fun v_8 ev_8 => ?_)
  have ev_8 : v_8 = xs 4 := ev_8
  subst ev_8
  refine lv_aload_n hx hb dL_law_1530 rfl (lv_at hl 1 rfl) ?_
  have hPc := hP.sub (ws' := [(c0, .inr (11, fs_c0)), (qC, .inr (2, fs_qC))]) [0, 1] rfl
  have hDc := hD.sub (ws' := [(c0, .inr (11, fs_c0)), (qC, .inr (2, fs_qC))]) [0, 1] (by decide) rfl
  have hKc := hK.sub (tys' := []) [] rfl
  have hFc := va_free (wc := [(c0, .inr (11, fs_c0)), (qC, .inr (2, fs_qC))]) hD hS hA [0, 1] rfl
  refine vx_calli (vx_runSX (As := [.ref c0, .int (xs 1), .int (xs 2), .int (xs 3), .int (xs 4), .ref qo]) (rest := []) ⟨hx, hb, hml, hown, hts⟩ (c_l_sum l hlt dC dI c0 qC qo ((xs 1)) ((xs 2)) ((xs 3)) ((xs 4)) fs_c0 fs_qC (mF.sub hF_c0 [0] rfl) (mF.sub hF_qC [0] rfl) H.size) (vx_cwSW 6 hts g_law_wv_l_sum_183 rfl rfl rfl hd_L_sum ⟨Nat.le_of_ble_eq_true rfl, Nat.le_of_ble_eq_true rfl⟩) ⟨fun a U g mk q => by obtain ⟨q0, q1, qP, qK, qD, qE0, qE1, qE2⟩ := q; exact ⟨q0, q1, qP, va_K.moved (u := U) (U := U.calling g mk a) (Vm.Alike.refl U.vm) qK, qD, w_N.same rfl qE0, w_T.same rfl rfl qE1, w_C.same rfl rfl qE2⟩, fun U hU hW => ⟨rfl, by rw [hU], by rw [hU]; exact hPc, va_K.moved hW.alike hKc, hDc.weaken (fun _ _ _ _ => trivial), w_N.warm hW hN, w_T.go hT hW hS.2.1 hFc hU, w_C.go hC hW hS.2.1 hFc hU⟩⟩ rfl rfl hl.1 rfl (lv_room (Nat.le_of_ble_eq_true rfl)) dL_law_1531 ⟨(Nat.le_of_ble_eq_true rfl), (Nat.le_of_ble_eq_true rfl)⟩) hS (fun q _ h => hFc q h) hFc (fun q _ h => hFc q h) (fun E9 ce9 q9 u t H1 locs1 ht hvm hpx hBX hz1 hk1 hS1 hcell9 hv9 hcl9 => ?_) (fun r_9 u t H1 locs1 ht hvm hw hB hz1 hk1 hS1 => ?_)
  · skip
    exact (hpx : False).elim
  · skip
    obtain ⟨hP1, hK1, hD1⟩ := hB
    rw [ht] at hP1
    have hK1 := va_K.moved hvm.symm hK1
    have hJ := va_join (wr := [(qo, .inl (ko, 1, .inr (.inl fo))), (n0, .inr (15, fs_n0))]) (w1 := []) hP hD [0, 1] [2, 3] rfl rfl (by decide) (by decide) hk1 hFc hP1 hD1
    clear hP hD hPc hDc hKc hFc hz1; try clear hk1
    obtain ⟨hP, hD⟩ := hJ
    replace hK := (hK.sub (tys' := [(ko, .long)]) [0] rfl).app (hK1.sub (tys' := []) [] rfl)
    clear hP1 hK1 hD1 hvm ht hS; try clear t
    try clear H
    revert hS1
    intro hS
    generalize H1 = H at hP hS ⊢; try clear H1
    replace hP : va_P (dC, dI) vwCl [(qo, .inl (ko, 1, .inr (.inl fo))), (n0, .inr (15, fs_n0))] H := hP
    replace hD : va_D A [(qo, .inl (ko, 1, .inr (.inl fo))), (n0, .inr (15, fs_n0))] := hD
    replace hK : va_K (dC, dI) vwCl [(ko, .long)] s := hK
    have hw_10 : r_9 = 3 := hw; clear hw
    subst hw_10
    refine lv_istore (lv' := [(5, .int 3), (4, .int 0), (3, .ref qo), (2, .ref n0), (1, .ref c0), (0, .ref b)]) hx hb dL_law_1534 hl (by decide) rfl (fun ls hl => ?_)
    refine lv_aload_n hx hb dL_law_1536 rfl (lv_at hl 3 rfl) ?_
    refine lv_aload_n hx hb dL_law_1537 rfl (lv_at hl 5 rfl) ?_
    refine lv_iload hx hb dL_law_1538 (lv_at hl 1 rfl) ?_
    refine lv_iconst (v := 1) hx hb dL_law_1540 (by decide) ?_
    refine lv_iadd hx hb dL_law_1541 ?_
    refine lv_topi (fun v_11 ev_11 => ?_)
    have ev_11 : v_11 = 1 := ev_11.trans (by decide)
    subst ev_11
    refine va_sld hx hb hX hbl hbA hS (by exact fun h => by rcases h with h | h <;> revert h <;> decide) dL_law_1542 ?_
    refine lv_topi (fun v_12 ev_12 => ?_)
    have ev_12 : v_12 = xs 1 := ev_12
    subst ev_12
    refine lv_aload_n hx hb dL_law_1543 rfl (lv_at hl 5 rfl) ?_
    refine lv_iload hx hb dL_law_1544 (lv_at hl 1 rfl) ?_
    refine lv_iconst (v := 2) hx hb dL_law_1546 (by decide) ?_
    refine lv_iadd hx hb dL_law_1547 ?_
    refine lv_topi (fun v_13 ev_13 => ?_)
    have ev_13 : v_13 = 2 := ev_13.trans (by decide)
    subst ev_13
    refine va_sld hx hb hX hbl hbA hS (by exact fun h => by rcases h with h | h <;> revert h <;> decide) dL_law_1548 ?_
    refine lv_topi (fun v_14 ev_14 => ?_)
    have ev_14 : v_14 = xs 2 := ev_14
    subst ev_14
    refine lv_aload_n hx hb dL_law_1549 rfl (lv_at hl 5 rfl) ?_
    refine lv_iload hx hb dL_law_1550 (lv_at hl 1 rfl) ?_
    refine lv_iconst (v := 3) hx hb dL_law_1552 (by decide) ?_
    refine lv_iadd hx hb dL_law_1553 ?_
    refine lv_topi (fun v_15 ev_15 => ?_)
    have ev_15 : v_15 = 3 := ev_15.trans (by decide)
    subst ev_15
    refine va_sld hx hb hX hbl hbA hS (by exact fun h => by rcases h with h | h <;> revert h <;> decide) dL_law_1554 ?_
    refine lv_topi (fun v_16 ev_16 => ?_)
    have ev_16 : v_16 = xs 3 := ev_16
    subst ev_16
    refine lv_aload_n hx hb dL_law_1555 rfl (lv_at hl 5 rfl) ?_
    refine lv_iload hx hb dL_law_1556 (lv_at hl 1 rfl) ?_
    refine lv_iconst (v := 4) hx hb dL_law_1558 (by decide) ?_
    refine lv_iadd hx hb dL_law_1559 ?_
    refine lv_topi (fun v_17 ev_17 => ?_)
    have ev_17 : v_17 = 4 := ev_17.trans (by decide)
    subst ev_17
    refine va_sld hx hb hX hbl hbA hS (by exact fun h => by rcases h with h | h <;> revert h <;> decide) dL_law_1560 ?_
    refine lv_topi (fun v_18 ev_18 => ?_)
    have ev_18 : v_18 = xs 4 := ev_18
    subst ev_18
    have hPc := hP.sub (ws' := [(n0, .inr (15, fs_n0))]) [1] rfl
    have hDc := hD.sub (ws' := [(n0, .inr (15, fs_n0))]) [1] (by decide) rfl
    have hKc := hK.sub (tys' := []) [] rfl
    have hFc := va_free (wc := [(n0, .inr (15, fs_n0))]) hD hS hA [1] rfl
    refine va_calll (va_runV (As := [.int (xs 1), .int (xs 2), .int (xs 3), .int (xs 4)]) (rest := []) ⟨hx, hb, hml, hown, hts⟩ (c_m_sum l dC dI n0 qfed qf qfd qs qk ((xs 1)) ((xs 2)) ((xs 3)) ((xs 4)) fs_n0 (mF.sub hF_n0 [0, 1, 2, 3, 4, 5, 6, 7, 8, 9, 10, 11, 12, 13, 14, 15, 16, 17, 18] rfl) H.size) (cwV 4 hts g_law_wv_m_sum_185 rfl rfl rfl hv_X15_sum ⟨Nat.le_of_ble_eq_true rfl, Nat.le_of_ble_eq_true rfl⟩) ⟨fun a U g mk q => by obtain ⟨q0, q1, qP, qK, qD, qE0⟩ := q; exact ⟨q0, q1, qP, va_K.moved (u := U) (U := U.calling g mk a) (Vm.Alike.refl U.vm) qK, qD, w_N.same rfl qE0⟩, va_recv hKc hPc (ci := 15) (q0 := 0) rfl rfl, fun U hU hW => ⟨rfl, by rw [hU], by rw [hU]; exact hPc, va_K.moved hW.alike hKc, hDc.weaken (fun _ _ _ _ => trivial), w_N.warm hW hN⟩⟩ rfl rfl hl.1 rfl (lv_room (Nat.le_of_ble_eq_true rfl)) dL_law_1561 ⟨(Nat.le_of_ble_eq_true rfl), (Nat.le_of_ble_eq_true rfl)⟩) hS (fun q _ h => hFc q h) hFc (fun r_19 u t H1 locs1 ht hvm hw hB hz1 hk1 hS1 => ?_)
    obtain ⟨fs_20, hP1, hK1, hD1, hp_21⟩ := hB
    rw [ht] at hP1
    have hK1 := va_K.moved hvm.symm hK1
    have hJ := va_join (wr := [(qo, .inl (ko, 1, .inr (.inl fo)))]) (w1 := [(n0, .inr (15, fs_20))]) hP hD [1] [0] rfl rfl (by decide) (by decide) hk1 hFc hP1 hD1
    clear hP hD hPc hDc hKc hFc hz1; try clear hk1
    obtain ⟨hP, hD⟩ := hJ
    replace hK := (hK.sub (tys' := [(ko, .long)]) [0] rfl).app (hK1.sub (tys' := []) [] rfl)
    clear hP1 hK1 hD1 hvm ht hS; try clear t
    try clear H
    revert hS1
    intro hS
    generalize H1 = H at hP hS ⊢; try clear H1
    replace hP : va_P (dC, dI) vwCl [(qo, .inl (ko, 1, .inr (.inl fo))), (n0, .inr (15, fs_20))] H := hP
    replace hD : va_D A [(qo, .inl (ko, 1, .inr (.inl fo))), (n0, .inr (15, fs_20))] := hD
    replace hK : va_K (dC, dI) vwCl [(ko, .long)] s := hK
    have hw_22 : True := hw; clear hw
    refine lv_lstore (lv' := [(6, .long r_19), (5, .int 3), (4, .int 0), (3, .ref qo), (2, .ref n0), (1, .ref c0), (0, .ref b)]) hx hb dL_law_1564 hl (by decide) rfl (fun ls hl => ?_)
    refine lv_aload_n hx hb dL_law_1566 rfl (lv_at hl 4 rfl) ?_
    have hPc := hP.sub (ws' := [(n0, .inr (15, fs_20))]) [1] rfl
    have hDc := hD.sub (ws' := [(n0, .inr (15, fs_20))]) [1] (by decide) rfl
    have hKc := hK.sub (tys' := []) [] rfl
    have hFc := va_free (wc := [(n0, .inr (15, fs_20))]) hD hS hA [1] rfl
    refine va_calli (va_runV (As := []) (rest := []) ⟨hx, hb, hml, hown, hts⟩ (c_m_thrown l dC dI n0 3 fs_20 (mF.sub hp_21 [0] rfl) H.size) (cwV 0 hts g_law_wv_m_thrown_117 rfl rfl rfl hv_X15_thrown ⟨Nat.le_of_ble_eq_true rfl, Nat.le_of_ble_eq_true rfl⟩) ⟨fun a U g mk q => by obtain ⟨q0, q1, qP, qK, qD, qE0⟩ := q; exact ⟨q0, q1, qP, va_K.moved (u := U) (U := U.calling g mk a) (Vm.Alike.refl U.vm) qK, qD, w_N.same rfl qE0⟩, va_recv hKc hPc (ci := 15) (q0 := 0) rfl rfl, fun U hU hW => ⟨rfl, by rw [hU], by rw [hU]; exact hPc, va_K.moved hW.alike hKc, hDc.weaken (fun _ _ _ _ => trivial), w_N.warm hW hN⟩⟩ rfl rfl hl.1 rfl (lv_room (Nat.le_of_ble_eq_true rfl)) dL_law_1567 ⟨(Nat.le_of_ble_eq_true rfl), (Nat.le_of_ble_eq_true rfl)⟩) hS (fun q _ h => hFc q h) hFc (fun r_23 u t H1 locs1 ht hvm hw hB hz1 hk1 hS1 => ?_)
    obtain ⟨hP1, hK1, hD1⟩ := hB
    rw [ht] at hP1
    have hK1 := va_K.moved hvm.symm hK1
    have hJ := va_join (wr := [(qo, .inl (ko, 1, .inr (.inl fo)))]) (w1 := []) hP hD [1] [0] rfl rfl (by decide) (by decide) hk1 hFc hP1 hD1
    clear hP hD hPc hDc hKc hFc hz1; try clear hk1
    obtain ⟨hP, hD⟩ := hJ
    replace hK := (hK.sub (tys' := [(ko, .long)]) [0] rfl).app (hK1.sub (tys' := []) [] rfl)
    clear hP1 hK1 hD1 hvm ht hS; try clear t
    try clear H
    revert hS1
    intro hS
    generalize H1 = H at hP hS ⊢; try clear H1
    replace hP : va_P (dC, dI) vwCl [(qo, .inl (ko, 1, .inr (.inl fo)))] H := hP
    replace hD : va_D A [(qo, .inl (ko, 1, .inr (.inl fo)))] := hD
    replace hK : va_K (dC, dI) vwCl [(ko, .long)] s := hK
    have hw_24 : r_23 = 3 := hw; clear hw
    subst hw_24
    refine lv_iload hx hb dL_law_1570 (lv_at hl 1 rfl) ?_
    refine lv_icmp_eq (tgt := 1577) hx hb dL_law_1572 (by decide) (fun _ => ?_) (fun hc => absurd (by decide) hc)
    refine lv_iload hx hb dL_law_1577 (lv_at hl 1 rfl) ?_
    refine lv_if_ne (tgt := 1593) hx hb dL_law_1579 (by decide) (fun _ => ?_) (fun hc => absurd hc (by decide))
    refine lv_goto (tgt := 2018) hx hb dL_law_1593 (by decide) ?_
    exact law_tail C0 hA2 hbA hS (lv_sub hl [2, 6] rfl) (Nat.le_of_ble_eq_true rfl) (Nat.le_of_ble_eq_true rfl)
set_option maxHeartbeats 4000000 in
set_option maxRecDepth 100000 in
/-- the law at a call of solves on fresh objects -/
theorem law_case_solves {p : Program} {l : Launch} (hlt : l.stackTraces = false) {e : Env} {s : State} {m : MethodId} {below : List Frame} {meth : Method} {c : Code} {b : Nat} {xs : Nat → Int32} (C0 : lw_At p s m meth c b 6 xs) {dC : Nat → ClassId} {dI : Nat → Nat → Nat} {A : Nat → Prop} (hA : ∀ q : Nat, s.heap.size ≤ q → A q) (hA2 : ∀ q : Nat, A q → s.heap.size ≤ q) (hbA : ¬ A b) (hN : w_N s) (hT : w_T A s s.heap) (hSt : w_S A s s.heap) (hC : w_C A s s.heap) {H : Heap} {locs : List Loc} {ls : Array Slot} {c0 : Nat} {n0 : Nat} {qC : Nat} {qo : Nat} {fs_qC : List Value} {ko : Nat} {fo : Nat → Int64} {qfed : Nat} {qf : Nat} {qfd : Nat} {qs : Nat} {qk : Nat} {fs_c0 : List Value} {fs_n0 : List Value} (hP : va_P (dC, dI) vwCl [(c0, .inr (11, fs_c0)), (qC, .inr (2, fs_qC)), (qo, .inl (ko, 1, .inr (.inl fo))), (n0, .inr (15, fs_n0))] H) (hD : va_D A [(c0, .inr (11, fs_c0)), (qC, .inr (2, fs_qC)), (qo, .inl (ko, 1, .inr (.inl fo))), (n0, .inr (15, fs_n0))]) (hK : va_K (dC, dI) vwCl [(ko, .long)] s) (hS : va_S A s.heap H locs) (hl : lv_has ls 8 [(4, .int 0), (3, .ref qo), (2, .ref n0), (1, .ref c0), (0, .ref b)]) (hF_c0 : mF 19 [(7, .ref qC)] fs_c0) (hF_qC : mF 13 [(8, .int 0)] fs_qC) (hF_n0 : mF 89 [(0, .int 0), (18, .int 0), (19, .int 0), (20, .int (-1)), (21, .int 0), (22, .int 0), (23, .int 0), (24, .int 0), (25, .int 0), (27, .int 0), (28, .int 0), (29, .int 0), (35, .int 0), (17, .int (-1)), (26, .ref qfed), (30, .ref qf), (31, .ref qfd), (33, .ref qs), (36, .ref qk)] fs_n0) : W p l e room_1 s m #[Value.ref b] below meth c H locs 15894 3343160 (lw_Z below #[Value.ref b] s) (F0 m 1596 ls []) := by
  have hx := C0.1; have hb := C0.2.1; have hml := C0.2.2.2.1; have hown := C0.2.2.2.2.1; have hts := C0.2.2.2.2.2.1; have hX := C0.2.2.2.2.2.2.1; have hbl := C0.2.2.2.2.2.2.2.1; have hlocks := C0.2.2.2.2.2.2.2.2.1
  refine lv_aload_n hx hb dL_law_1596 rfl (lv_at hl 3 rfl) ?_
  refine lv_aload_n hx hb dL_law_1597 rfl (lv_at hl 1 rfl) ?_
  have hPc := hP.sub (ws' := [(c0, .inr (11, fs_c0)), (qC, .inr (2, fs_qC))]) [0, 1] rfl
  have hDc := hD.sub (ws' := [(c0, .inr (11, fs_c0)), (qC, .inr (2, fs_qC))]) [0, 1] (by decide) rfl
  have hKc := hK.sub (tys' := []) [] rfl
  have hFc := va_free (wc := [(c0, .inr (11, fs_c0)), (qC, .inr (2, fs_qC))]) hD hS hA [0, 1] rfl
  refine vx_calli (vx_runSX (As := [.ref c0, .ref qo]) (rest := []) ⟨hx, hb, hml, hown, hts⟩ (c_l_solves l hlt dC dI c0 qC qo fs_c0 fs_qC (mF.sub hF_c0 [0] rfl) (mF.sub hF_qC [0] rfl) H.size) (vx_cwSW 2 hts g_law_wv_l_solves_186 rfl rfl rfl hd_L_solves ⟨Nat.le_of_ble_eq_true rfl, Nat.le_of_ble_eq_true rfl⟩) ⟨fun a U g mk q => by obtain ⟨q0, q1, qP, qK, qD, qE0, qE1, qE2⟩ := q; exact ⟨q0, q1, qP, va_K.moved (u := U) (U := U.calling g mk a) (Vm.Alike.refl U.vm) qK, qD, w_N.same rfl qE0, w_T.same rfl rfl qE1, w_C.same rfl rfl qE2⟩, fun U hU hW => ⟨rfl, by rw [hU], by rw [hU]; exact hPc, va_K.moved hW.alike hKc, hDc.weaken (fun _ _ _ _ => trivial), w_N.warm hW hN, w_T.go hT hW hS.2.1 hFc hU, w_C.go hC hW hS.2.1 hFc hU⟩⟩ rfl rfl hl.1 rfl (lv_room (Nat.le_of_ble_eq_true rfl)) dL_law_1598 ⟨(Nat.le_of_ble_eq_true rfl), (Nat.le_of_ble_eq_true rfl)⟩) hS (fun q _ h => hFc q h) hFc (fun q _ h => hFc q h) (fun E9 ce9 q9 u t H1 locs1 ht hvm hpx hBX hz1 hk1 hS1 hcell9 hv9 hcl9 => ?_) (fun r_1 u t H1 locs1 ht hvm hw hB hz1 hk1 hS1 => ?_)
  · skip
    exact (hpx : False).elim
  · skip
    obtain ⟨hP1, hK1, hD1⟩ := hB
    rw [ht] at hP1
    have hK1 := va_K.moved hvm.symm hK1
    have hJ := va_join (wr := [(qo, .inl (ko, 1, .inr (.inl fo))), (n0, .inr (15, fs_n0))]) (w1 := []) hP hD [0, 1] [2, 3] rfl rfl (by decide) (by decide) hk1 hFc hP1 hD1
    clear hP hD hPc hDc hKc hFc hz1; try clear hk1
    obtain ⟨hP, hD⟩ := hJ
    replace hK := (hK.sub (tys' := [(ko, .long)]) [0] rfl).app (hK1.sub (tys' := []) [] rfl)
    clear hP1 hK1 hD1 hvm ht hS; try clear t
    try clear H
    revert hS1
    intro hS
    generalize H1 = H at hP hS ⊢; try clear H1
    replace hP : va_P (dC, dI) vwCl [(qo, .inl (ko, 1, .inr (.inl fo))), (n0, .inr (15, fs_n0))] H := hP
    replace hD : va_D A [(qo, .inl (ko, 1, .inr (.inl fo))), (n0, .inr (15, fs_n0))] := hD
    replace hK : va_K (dC, dI) vwCl [(ko, .long)] s := hK
    have hw_2 : r_1 = 1 := hw; clear hw
    subst hw_2
    refine lv_istore (lv' := [(5, .int 1), (4, .int 0), (3, .ref qo), (2, .ref n0), (1, .ref c0), (0, .ref b)]) hx hb dL_law_1601 hl (by decide) rfl (fun ls hl => ?_)
    refine lv_aload_n hx hb dL_law_1603 rfl (lv_at hl 3 rfl) ?_
    have hPc := hP.sub (ws' := [(n0, .inr (15, fs_n0))]) [1] rfl
    have hDc := hD.sub (ws' := [(n0, .inr (15, fs_n0))]) [1] (by decide) rfl
    have hKc := hK.sub (tys' := []) [] rfl
    have hFc := va_free (wc := [(n0, .inr (15, fs_n0))]) hD hS hA [1] rfl
    refine va_calli (va_runV (As := []) (rest := []) ⟨hx, hb, hml, hown, hts⟩ (c_m_solves l dC dI n0 qfed qf qfd qs qk fs_n0 (mF.sub hF_n0 [0, 1, 2, 3, 4, 5, 6, 7, 8, 9, 10, 11, 12, 13, 14, 15, 16, 17, 18] rfl) H.size) (cwV 0 hts g_law_wv_m_solves_188 rfl rfl rfl hv_X15_solves ⟨Nat.le_of_ble_eq_true rfl, Nat.le_of_ble_eq_true rfl⟩) ⟨fun a U g mk q => by obtain ⟨q0, q1, qP, qK, qD, qE0⟩ := q; exact ⟨q0, q1, qP, va_K.moved (u := U) (U := U.calling g mk a) (Vm.Alike.refl U.vm) qK, qD, w_N.same rfl qE0⟩, va_recv hKc hPc (ci := 15) (q0 := 0) rfl rfl, fun U hU hW => ⟨rfl, by rw [hU], by rw [hU]; exact hPc, va_K.moved hW.alike hKc, hDc.weaken (fun _ _ _ _ => trivial), w_N.warm hW hN⟩⟩ rfl rfl hl.1 rfl (lv_room (Nat.le_of_ble_eq_true rfl)) dL_law_1604 ⟨(Nat.le_of_ble_eq_true rfl), (Nat.le_of_ble_eq_true rfl)⟩) hS (fun q _ h => hFc q h) hFc (fun r_3 u t H1 locs1 ht hvm hw hB hz1 hk1 hS1 => ?_)
    obtain ⟨fs_4, hP1, hK1, hD1, hp_5⟩ := hB
    rw [ht] at hP1
    have hK1 := va_K.moved hvm.symm hK1
    have hJ := va_join (wr := [(qo, .inl (ko, 1, .inr (.inl fo)))]) (w1 := [(n0, .inr (15, fs_4))]) hP hD [1] [0] rfl rfl (by decide) (by decide) hk1 hFc hP1 hD1
    clear hP hD hPc hDc hKc hFc hz1; try clear hk1
    obtain ⟨hP, hD⟩ := hJ
    replace hK := (hK.sub (tys' := [(ko, .long)]) [0] rfl).app (hK1.sub (tys' := []) [] rfl)
    clear hP1 hK1 hD1 hvm ht hS; try clear t
    try clear H
    revert hS1
    intro hS
    generalize H1 = H at hP hS ⊢; try clear H1
    replace hP : va_P (dC, dI) vwCl [(qo, .inl (ko, 1, .inr (.inl fo))), (n0, .inr (15, fs_4))] H := hP
    replace hD : va_D A [(qo, .inl (ko, 1, .inr (.inl fo))), (n0, .inr (15, fs_4))] := hD
    replace hK : va_K (dC, dI) vwCl [(ko, .long)] s := hK
    have hw_6 : True := hw; clear hw
    refine lv_istore (lv' := [(6, .int r_3), (5, .int 1), (4, .int 0), (3, .ref qo), (2, .ref n0), (1, .ref c0), (0, .ref b)]) hx hb dL_law_1607 hl (by decide) rfl (fun ls hl => ?_)
    refine lv_aload_n hx hb dL_law_1609 rfl (lv_at hl 4 rfl) ?_
    have hPc := hP.sub (ws' := [(n0, .inr (15, fs_4))]) [1] rfl
    have hDc := hD.sub (ws' := [(n0, .inr (15, fs_4))]) [1] (by decide) rfl
    have hKc := hK.sub (tys' := []) [] rfl
    have hFc := va_free (wc := [(n0, .inr (15, fs_4))]) hD hS hA [1] rfl
    refine va_calli (va_runV (As := []) (rest := []) ⟨hx, hb, hml, hown, hts⟩ (c_m_thrown l dC dI n0 1 fs_4 (mF.sub hp_5 [0] rfl) H.size) (cwV 0 hts g_law_wv_m_thrown_117 rfl rfl rfl hv_X15_thrown ⟨Nat.le_of_ble_eq_true rfl, Nat.le_of_ble_eq_true rfl⟩) ⟨fun a U g mk q => by obtain ⟨q0, q1, qP, qK, qD, qE0⟩ := q; exact ⟨q0, q1, qP, va_K.moved (u := U) (U := U.calling g mk a) (Vm.Alike.refl U.vm) qK, qD, w_N.same rfl qE0⟩, va_recv hKc hPc (ci := 15) (q0 := 0) rfl rfl, fun U hU hW => ⟨rfl, by rw [hU], by rw [hU]; exact hPc, va_K.moved hW.alike hKc, hDc.weaken (fun _ _ _ _ => trivial), w_N.warm hW hN⟩⟩ rfl rfl hl.1 rfl (lv_room (Nat.le_of_ble_eq_true rfl)) dL_law_1610 ⟨(Nat.le_of_ble_eq_true rfl), (Nat.le_of_ble_eq_true rfl)⟩) hS (fun q _ h => hFc q h) hFc (fun r_7 u t H1 locs1 ht hvm hw hB hz1 hk1 hS1 => ?_)
    obtain ⟨hP1, hK1, hD1⟩ := hB
    rw [ht] at hP1
    have hK1 := va_K.moved hvm.symm hK1
    have hJ := va_join (wr := [(qo, .inl (ko, 1, .inr (.inl fo)))]) (w1 := []) hP hD [1] [0] rfl rfl (by decide) (by decide) hk1 hFc hP1 hD1
    clear hP hD hPc hDc hKc hFc hz1; try clear hk1
    obtain ⟨hP, hD⟩ := hJ
    replace hK := (hK.sub (tys' := [(ko, .long)]) [0] rfl).app (hK1.sub (tys' := []) [] rfl)
    clear hP1 hK1 hD1 hvm ht hS; try clear t
    try clear H
    revert hS1
    intro hS
    generalize H1 = H at hP hS ⊢; try clear H1
    replace hP : va_P (dC, dI) vwCl [(qo, .inl (ko, 1, .inr (.inl fo)))] H := hP
    replace hD : va_D A [(qo, .inl (ko, 1, .inr (.inl fo)))] := hD
    replace hK : va_K (dC, dI) vwCl [(ko, .long)] s := hK
    have hw_8 : r_7 = 1 := hw; clear hw
    subst hw_8
    refine lv_iload hx hb dL_law_1613 (lv_at hl 1 rfl) ?_
    refine lv_icmp_eq (tgt := 1620) hx hb dL_law_1615 (by decide) (fun _ => ?_) (fun hc => absurd (by decide) hc)
    refine lv_iload hx hb dL_law_1620 (lv_at hl 1 rfl) ?_
    refine lv_if_ne (tgt := 1637) hx hb dL_law_1622 (by decide) (fun _ => ?_) (fun hc => absurd hc (by decide))
    refine lv_goto (tgt := 2018) hx hb dL_law_1637 (by decide) ?_
    exact law_tail C0 hA2 hbA hS (lv_sub hl [2, 6] rfl) (Nat.le_of_ble_eq_true rfl) (Nat.le_of_ble_eq_true rfl)
