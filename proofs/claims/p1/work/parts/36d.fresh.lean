def wv_m_feed : List Cond := .code yX15_feed cX15_feed 8 (some .int) :: ([.fieldLink RX15 296 "MotionSignsModel" "thrown" "I", .fieldLink RX15 299 "MotionSignsModel" "tape" "I", .fieldLink RX15 124 "MotionSignsModel" "fed" "[I"] ++ (wsX150 ++ ([])))
theorem gw_m_feed : wv_m_feed.all goodWord = true := by decide +kernel
theorem in_m_feed_X15 : ∀ w ∈ wsX150, w ∈ wv_m_feed := fun _ h => List.mem_cons_of_mem _ (List.mem_append_right _ (List.mem_append_left _ h))
set_option maxHeartbeats 4000000 in
set_option maxRecDepth 100000 in
/-- the reference: feed on a fresh object -/
theorem c_m_feed (l : Launch) (dC : Nat → ClassId) (dI : Nat → Nat → Nat) (h0 : Nat) (qfed : Nat) (qf : Nat) (qfd : Nat) (qs : Nat) (qk : Nat) (ke : Nat) (x0 : Int32) (x1 : Int32) (x2 : Int32) (x3 : Int32) (x4 : Int32) (fe : Nat → Int32) (fs_h0 : List Value) (hF_h0 : mF 89 [(0, .int 0), (18, .int 0), (19, .int 0), (20, .int (-1)), (21, .int 0), (22, .int 0), (23, .int 0), (24, .int 0), (25, .int 0), (27, .int 0), (28, .int 0), (29, .int 0), (35, .int 0), (17, .int (-1)), (26, .ref qfed), (30, .ref qf), (31, .ref qfd), (33, .ref qs), (36, .ref qk)] fs_h0) (sz : Nat) : Met l yX15_feed wv_m_feed ({ frames := 0, cells := 0, slots := 0, locals := 0 }) (va_Pc [.ref h0, .int x0, .int x1, .int x2, .int x3, .int x4] (fun U => U.heap.size = sz ∧ va_P (dC, dI) vwCl [(h0, .inr (15, fs_h0)), (qfed, .inl (ke, 200, .inl fe))] U.heap ∧ va_K (dC, dI) vwCl [(ke, .int)] U ∧ va_D (fun _ => True) [(h0, .inr (15, fs_h0)), (qfed, .inl (ke, 200, .inl fe))] ∧ w_N U)) (va_Qi (fun (r : Int32) (_ : Unit) => r = 20) (fun _ t => ∃ (fs_e : List Value), va_P (dC, dI) vwCl [(h0, .inr (15, fs_e))] t.heap ∧ va_K (dC, dI) vwCl [] t ∧ va_D (va_A [(h0, .inr (15, fs_h0)), (qfed, .inl (ke, 200, .inl fe))] sz) [(h0, .inr (15, fs_e))] ∧ mF 89 [(0, .int 0)] fs_e) (va_A [(h0, .inr (15, fs_h0)), (qfed, .inl (ke, 200, .inl fe))] sz)) 0 0 (va_A [(h0, .inr (15, fs_h0)), (qfed, .inl (ke, 200, .inl fe))] sz) := by
  refine Met.ofW (cc := cX15_feed) (maxL := 8) (ret := (some .int)) (by decide) rfl ?_
  intro p e s m args below meth c s₁ B hml hv
  obtain ⟨rfl, hsz, hP, hK, hD0, hN⟩ := hv
  have hx := B.exec
  have hb := B.bytes
  have hr := B.returns
  have hts := atoms_spec (ws := wv_m_feed) B.pre
  have hown : s.vm.findClass RX15 = some m.cls := findClass_of_methodNamed B.named
  have hlocks := B.notSynchronized
  subst hsz
  have hD := hD0.self (sz := s.heap.size)
  generalize hAe : va_A [(h0, .inr (15, fs_h0)), (qfed, .inl (ke, 200, .inl fe))] s.heap.size = A at hD ⊢
  have hA : ∀ q : Nat, s.heap.size ≤ q → A q := fun q h => by rw [← hAe]; exact Or.inr h
  obtain ⟨H, hHe, hP, hS⟩ : ∃ H : Heap, H = s.heap ∧ va_P (dC, dI) vwCl [(h0, .inr (15, fs_h0)), (qfed, .inl (ke, 200, .inl fe))] H ∧ va_S A s.heap H [] := ⟨s.heap, rfl, hP, va_S.rf⟩
  have hl := lv_entry ([.ref h0, .int x0, .int x1, .int x2, .int x3, .int x4]) (n := 8) (Nat.le_of_ble_eq_true rfl)
  rw [lg_entry_eq]
  generalize (lg_sl ([.ref h0, .int x0, .int x1, .int x2, .int x3, .int x4]) ++ List.replicate (8 - (lg_sl ([.ref h0, .int x0, .int x1, .int x2, .int x3, .int x4])).length) Slot.unset).toArray = ls at hl ⊢
  have hl : lv_has ls 8 [(0, .ref h0), (1, .int x0), (2, .int x1), (3, .int x2), (4, .int x3), (5, .int x4)] := hl
  rw [← hHe]; clear hHe
  refine lv_aload_n hx hb dX15_feed_0 rfl (lv_at hl 0 rfl) ?_
  refine lv_iconst (v := 0) hx hb dX15_feed_1 (by decide) ?_
  refine va_put (D := (dC, dI)) (ci := 15) (v := .int 0) (ty := .int) (C := RX15) (T := TX15) (N := 89) hx hb hts (in_m_feed_X15) tyX15 tyX15_ok nmX15 hown hK hP hD hS 0 rfl rfl 0 (by decide) (hts (.fieldLink RX15 296 "MotionSignsModel" "thrown" "I") (List.mem_of_getElem? (i := 1) rfl)) (fun _ h9 => h9) rfl (tyX15_ok 0 (by decide)) rfl rfl (mF.lt hF_h0 (by decide)) dX15_feed_2 ?_
  clear hP hD hS; try clear H
  intro H locs hP hD hS
  have hF0 := mF.sub (L' := [(18, .int 0), (19, .int 0), (20, .int (-1)), (21, .int 0), (22, .int 0), (23, .int 0), (24, .int 0), (25, .int 0), (27, .int 0), (28, .int 0), (29, .int 0), (35, .int 0), (17, .int (-1)), (26, .ref qfed), (30, .ref qf), (31, .ref qfd), (33, .ref qs), (36, .ref qk)]) hF_h0 [1, 2, 3, 4, 5, 6, 7, 8, 9, 10, 11, 12, 13, 14, 15, 16, 17, 18] rfl
  have hF1 := mF.put hF0 0 (.int 0) (by decide) rfl
  replace hP : va_P (dC, dI) vwCl [(h0, .inr (15, (fs_h0.set 0 (.int 0)))), (qfed, .inl (ke, 200, .inl fe))] H := hP
  replace hD : va_D A [(h0, .inr (15, (fs_h0.set 0 (.int 0)))), (qfed, .inl (ke, 200, .inl fe))] := hD
  generalize fs_h0.set 0 (.int 0) = fs_1 at hP hD hF1
  replace hF_h0 : mF 89 [(0, .int 0), (18, .int 0), (19, .int 0), (20, .int (-1)), (21, .int 0), (22, .int 0), (23, .int 0), (24, .int 0), (25, .int 0), (27, .int 0), (28, .int 0), (29, .int 0), (35, .int 0), (17, .int (-1)), (26, .ref qfed), (30, .ref qf), (31, .ref qfd), (33, .ref qs), (36, .ref qk)] fs_1 := hF1
  clear hF1 hF0
  replace hP : va_P (dC, dI) vwCl [(h0, .inr (15, fs_1)), (qfed, .inl (ke, 200, .inl fe))] H := hP
  replace hD : va_D A [(h0, .inr (15, fs_1)), (qfed, .inl (ke, 200, .inl fe))] := hD
  refine lv_aload_n hx hb dX15_feed_5 rfl (lv_at hl 0 rfl) ?_
  refine va_get (D := (dC, dI)) (ci := 15) (v := .int 0) (C := RX15) (T := TX15) (N := 89) hx hb hts (in_m_feed_X15) hown hK hP 0 rfl rfl 18 (by decide) (hts (.fieldLink RX15 299 "MotionSignsModel" "tape" "I") (List.mem_of_getElem? (i := 2) rfl)) (fun _ h9 => h9) (mF.get hF_h0 1 rfl) dX15_feed_6 ?_
  refine lv_bipush (v := 20) hx hb dX15_feed_9 (by decide) ?_
  refine lv_iadd hx hb dX15_feed_11 ?_
  refine lv_topi (fun v_2 ev_2 => ?_)
  have ev_2 : v_2 = 20 := ev_2.trans (by decide)
  subst ev_2
  refine lv_sipush (v := 200) hx hb dX15_feed_12 (by decide) ?_
  refine lv_icmp_le (tgt := 20) hx hb dX15_feed_15 (by decide) (fun _ => ?_) (fun hc => absurd (by decide) hc)
  refine lv_iconst (v := 0) hx hb dX15_feed_20 (by decide) ?_
  refine lv_istore (lv' := [(6, .int 0), (0, .ref h0), (1, .int x0), (2, .int x1), (3, .int x2), (4, .int x3), (5, .int x4)]) hx hb dX15_feed_21 hl (by decide) rfl (fun ls hl => ?_)
  refine lv_iload hx hb dX15_feed_23 (lv_at hl 0 rfl) ?_
  refine lv_bipush (v := 20) hx hb dX15_feed_25 (by decide) ?_
  refine lv_icmp_ge (tgt := 120) hx hb dX15_feed_27 (by decide) (fun hc => absurd hc (by decide)) (fun _ => ?_)
  refine lv_iload hx hb dX15_feed_30 (lv_at hl 0 rfl) ?_
  refine lv_iconst (v := 4) hx hb dX15_feed_32 (by decide) ?_
  refine lv_icmp_ge (tgt := 40) hx hb dX15_feed_33 (by decide) (fun hc => absurd hc (by decide)) (fun _ => ?_)
  refine lv_iload_n hx hb dX15_feed_36 rfl (lv_at hl 2 rfl) ?_
  refine lv_goto (tgt := 76) hx hb dX15_feed_37 (by decide) ?_
  refine lv_istore (lv' := [(7, .int x0), (6, .int 0), (0, .ref h0), (1, .int x0), (2, .int x1), (3, .int x2), (4, .int x3), (5, .int x4)]) hx hb dX15_feed_76 hl (by decide) rfl (fun ls hl => ?_)
  refine lv_aload_n hx hb dX15_feed_78 rfl (lv_at hl 2 rfl) ?_
  refine va_get (D := (dC, dI)) (ci := 15) (v := .ref qfed) (C := RX15) (T := TX15) (N := 89) hx hb hts (in_m_feed_X15) hown hK hP 0 rfl rfl 26 (by decide) (hts (.fieldLink RX15 124 "MotionSignsModel" "fed" "[I") (List.mem_of_getElem? (i := 3) rfl)) (fun _ h9 => h9) (mF.get hF_h0 14 rfl) dX15_feed_79 ?_
  refine lv_aload_n hx hb dX15_feed_82 rfl (lv_at hl 2 rfl) ?_
  refine va_get (D := (dC, dI)) (ci := 15) (v := .int 0) (C := RX15) (T := TX15) (N := 89) hx hb hts (in_m_feed_X15) hown hK hP 0 rfl rfl 18 (by decide) (hts (.fieldLink RX15 299 "MotionSignsModel" "tape" "I") (List.mem_of_getElem? (i := 2) rfl)) (fun _ h9 => h9) (mF.get hF_h0 1 rfl) dX15_feed_83 ?_
  refine lv_iload hx hb dX15_feed_86 (lv_at hl 0 rfl) ?_
  refine lv_bipush (v := 24) hx hb dX15_feed_88 (by decide) ?_
  refine lv_bipush (v := 8) hx hb dX15_feed_90 (by decide) ?_
  refine lv_iload hx hb dX15_feed_92 (lv_at hl 1 rfl) ?_
  refine lv_iconst (v := 4) hx hb dX15_feed_94 (by decide) ?_
  refine lv_irem hx hb dX15_feed_95 (by decide) ?_
  refine lv_topi (fun v_3 ev_3 => ?_)
  have ev_3 : v_3 = 0 := ev_3.trans (by decide)
  subst ev_3
  refine lv_imul hx hb dX15_feed_96 ?_
  refine lv_topi (fun v_4 ev_4 => ?_)
  have ev_4 : v_4 = 0 := ev_4.trans (by decide)
  subst ev_4
  refine lv_isub hx hb dX15_feed_97 ?_
  refine lv_topi (fun v_5 ev_5 => ?_)
  have ev_5 : v_5 = 24 := ev_5.trans (by decide)
  subst ev_5
  refine lv_ishr hx hb dX15_feed_98 ?_
  refine lv_topi (fun v_6 ev_6 => ?_)
  refine lv_sipush (v := 255) hx hb dX15_feed_99 (by decide) ?_
  refine lv_iand hx hb dX15_feed_102 ?_
  refine lv_topi (fun v_7 ev_7 => ?_)
  refine va_iast hx hb hK hP hD hS 1 0 rfl rfl (by exact fun h => by rcases h with h | h <;> revert h <;> decide) dX15_feed_103 ?_
  clear hP hD hS; try clear H
  intro H locs hP hD hS
  have hPx := hP; have hDx := hD
  obtain ⟨f_8, hPx, hDx⟩ : ∃ g : Nat → Int32, va_P (dC, dI) vwCl [(h0, .inr (15, fs_1)), (qfed, .inl (ke, 200, .inl g))] H ∧ va_D A [(h0, .inr (15, fs_1)), (qfed, .inl (ke, 200, .inl g))] := ⟨_, hP, hD⟩
  replace hP := hPx; replace hD := hDx; clear hPx hDx
  replace hP : va_P (dC, dI) vwCl [(h0, .inr (15, fs_1)), (qfed, .inl (ke, 200, .inl f_8))] H := hP
  replace hD : va_D A [(h0, .inr (15, fs_1)), (qfed, .inl (ke, 200, .inl f_8))] := hD
  refine lv_aload_n hx hb dX15_feed_104 rfl (lv_at hl 2 rfl) ?_
  refine lv_dup hx hb dX15_feed_105 rfl ?_
  refine va_get (D := (dC, dI)) (ci := 15) (v := .int 0) (C := RX15) (T := TX15) (N := 89) hx hb hts (in_m_feed_X15) hown hK hP 0 rfl rfl 18 (by decide) (hts (.fieldLink RX15 299 "MotionSignsModel" "tape" "I") (List.mem_of_getElem? (i := 2) rfl)) (fun _ h9 => h9) (mF.get hF_h0 1 rfl) dX15_feed_106 ?_
  refine lv_iconst (v := 1) hx hb dX15_feed_109 (by decide) ?_
  refine lv_iadd hx hb dX15_feed_110 ?_
  refine lv_topi (fun v_9 ev_9 => ?_)
  have ev_9 : v_9 = 1 := ev_9.trans (by decide)
  subst ev_9
  refine va_put (D := (dC, dI)) (ci := 15) (v := .int 1) (ty := .int) (C := RX15) (T := TX15) (N := 89) hx hb hts (in_m_feed_X15) tyX15 tyX15_ok nmX15 hown hK hP hD hS 0 rfl rfl 18 (by decide) (hts (.fieldLink RX15 299 "MotionSignsModel" "tape" "I") (List.mem_of_getElem? (i := 2) rfl)) (fun _ h9 => h9) rfl (tyX15_ok 18 (by decide)) rfl rfl (mF.lt hF_h0 (by decide)) dX15_feed_111 ?_
  clear hP hD hS; try clear H
  intro H locs hP hD hS
  have hF0 := mF.sub (L' := [(0, .int 0), (19, .int 0), (20, .int (-1)), (21, .int 0), (22, .int 0), (23, .int 0), (24, .int 0), (25, .int 0), (27, .int 0), (28, .int 0), (29, .int 0), (35, .int 0), (17, .int (-1)), (26, .ref qfed), (30, .ref qf), (31, .ref qfd), (33, .ref qs), (36, .ref qk)]) hF_h0 [0, 2, 3, 4, 5, 6, 7, 8, 9, 10, 11, 12, 13, 14, 15, 16, 17, 18] rfl
  have hF1 := mF.put hF0 18 (.int 1) (by decide) rfl
  replace hP : va_P (dC, dI) vwCl [(h0, .inr (15, (fs_1.set 18 (.int 1)))), (qfed, .inl (ke, 200, .inl f_8))] H := hP
  replace hD : va_D A [(h0, .inr (15, (fs_1.set 18 (.int 1)))), (qfed, .inl (ke, 200, .inl f_8))] := hD
  generalize fs_1.set 18 (.int 1) = fs_10 at hP hD hF1
  replace hF_h0 : mF 89 [(18, .int 1), (0, .int 0), (19, .int 0), (20, .int (-1)), (21, .int 0), (22, .int 0), (23, .int 0), (24, .int 0), (25, .int 0), (27, .int 0), (28, .int 0), (29, .int 0), (35, .int 0), (17, .int (-1)), (26, .ref qfed), (30, .ref qf), (31, .ref qfd), (33, .ref qs), (36, .ref qk)] fs_10 := hF1
  clear hF1 hF0
  replace hP : va_P (dC, dI) vwCl [(h0, .inr (15, fs_10)), (qfed, .inl (ke, 200, .inl f_8))] H := hP
  replace hD : va_D A [(h0, .inr (15, fs_10)), (qfed, .inl (ke, 200, .inl f_8))] := hD
  refine lv_iinc (v := 1) (lv' := [(6, .int 1), (7, .int x0), (0, .ref h0), (1, .int x0), (2, .int x1), (3, .int x2), (4, .int x3), (5, .int x4)]) hx hb dX15_feed_114 hl (k := 1) rfl (by decide) (by decide) rfl (fun ls hl => ?_)
  refine lv_goto (tgt := 23) hx hb dX15_feed_117 (by decide) ?_
  refine lv_iload hx hb dX15_feed_23 (lv_at hl 0 rfl) ?_
  refine lv_bipush (v := 20) hx hb dX15_feed_25 (by decide) ?_
  refine lv_icmp_ge (tgt := 120) hx hb dX15_feed_27 (by decide) (fun hc => absurd hc (by decide)) (fun _ => ?_)
  refine lv_iload hx hb dX15_feed_30 (lv_at hl 0 rfl) ?_
  refine lv_iconst (v := 4) hx hb dX15_feed_32 (by decide) ?_
  refine lv_icmp_ge (tgt := 40) hx hb dX15_feed_33 (by decide) (fun hc => absurd hc (by decide)) (fun _ => ?_)
  refine lv_iload_n hx hb dX15_feed_36 rfl (lv_at hl 3 rfl) ?_
  refine lv_goto (tgt := 76) hx hb dX15_feed_37 (by decide) ?_
  refine lv_istore (lv' := [(7, .int x0), (6, .int 1), (0, .ref h0), (1, .int x0), (2, .int x1), (3, .int x2), (4, .int x3), (5, .int x4)]) hx hb dX15_feed_76 hl (by decide) rfl (fun ls hl => ?_)
  refine lv_aload_n hx hb dX15_feed_78 rfl (lv_at hl 2 rfl) ?_
  refine va_get (D := (dC, dI)) (ci := 15) (v := .ref qfed) (C := RX15) (T := TX15) (N := 89) hx hb hts (in_m_feed_X15) hown hK hP 0 rfl rfl 26 (by decide) (hts (.fieldLink RX15 124 "MotionSignsModel" "fed" "[I") (List.mem_of_getElem? (i := 3) rfl)) (fun _ h9 => h9) (mF.get hF_h0 14 rfl) dX15_feed_79 ?_
  refine lv_aload_n hx hb dX15_feed_82 rfl (lv_at hl 2 rfl) ?_
  refine va_get (D := (dC, dI)) (ci := 15) (v := .int 1) (C := RX15) (T := TX15) (N := 89) hx hb hts (in_m_feed_X15) hown hK hP 0 rfl rfl 18 (by decide) (hts (.fieldLink RX15 299 "MotionSignsModel" "tape" "I") (List.mem_of_getElem? (i := 2) rfl)) (fun _ h9 => h9) (mF.get hF_h0 0 rfl) dX15_feed_83 ?_
  refine lv_iload hx hb dX15_feed_86 (lv_at hl 0 rfl) ?_
  refine lv_bipush (v := 24) hx hb dX15_feed_88 (by decide) ?_
  refine lv_bipush (v := 8) hx hb dX15_feed_90 (by decide) ?_
  refine lv_iload hx hb dX15_feed_92 (lv_at hl 1 rfl) ?_
  refine lv_iconst (v := 4) hx hb dX15_feed_94 (by decide) ?_
  refine lv_irem hx hb dX15_feed_95 (by decide) ?_
  refine lv_topi (fun v_11 ev_11 => ?_)
  have ev_11 : v_11 = 1 := ev_11.trans (by decide)
  subst ev_11
  refine lv_imul hx hb dX15_feed_96 ?_
  refine lv_topi (fun v_12 ev_12 => ?_)
  have ev_12 : v_12 = 8 := ev_12.trans (by decide)
  subst ev_12
  refine lv_isub hx hb dX15_feed_97 ?_
  refine lv_topi (fun v_13 ev_13 => ?_)
  have ev_13 : v_13 = 16 := ev_13.trans (by decide)
  subst ev_13
  refine lv_ishr hx hb dX15_feed_98 ?_
  refine lv_topi (fun v_14 ev_14 => ?_)
  refine lv_sipush (v := 255) hx hb dX15_feed_99 (by decide) ?_
  refine lv_iand hx hb dX15_feed_102 ?_
  refine lv_topi (fun v_15 ev_15 => ?_)
  refine va_iast hx hb hK hP hD hS 1 0 rfl rfl (by exact fun h => by rcases h with h | h <;> revert h <;> decide) dX15_feed_103 ?_
  clear hP hD hS; try clear H
  intro H locs hP hD hS
  have hPx := hP; have hDx := hD
  obtain ⟨f_16, hPx, hDx⟩ : ∃ g : Nat → Int32, va_P (dC, dI) vwCl [(h0, .inr (15, fs_10)), (qfed, .inl (ke, 200, .inl g))] H ∧ va_D A [(h0, .inr (15, fs_10)), (qfed, .inl (ke, 200, .inl g))] := ⟨_, hP, hD⟩
  replace hP := hPx; replace hD := hDx; clear hPx hDx
  replace hP : va_P (dC, dI) vwCl [(h0, .inr (15, fs_10)), (qfed, .inl (ke, 200, .inl f_16))] H := hP
  replace hD : va_D A [(h0, .inr (15, fs_10)), (qfed, .inl (ke, 200, .inl f_16))] := hD
  refine lv_aload_n hx hb dX15_feed_104 rfl (lv_at hl 2 rfl) ?_
  refine lv_dup hx hb dX15_feed_105 rfl ?_
  refine va_get (D := (dC, dI)) (ci := 15) (v := .int 1) (C := RX15) (T := TX15) (N := 89) hx hb hts (in_m_feed_X15) hown hK hP 0 rfl rfl 18 (by decide) (hts (.fieldLink RX15 299 "MotionSignsModel" "tape" "I") (List.mem_of_getElem? (i := 2) rfl)) (fun _ h9 => h9) (mF.get hF_h0 0 rfl) dX15_feed_106 ?_
  refine lv_iconst (v := 1) hx hb dX15_feed_109 (by decide) ?_
  refine lv_iadd hx hb dX15_feed_110 ?_
  refine lv_topi (fun v_17 ev_17 => ?_)
  have ev_17 : v_17 = 2 := ev_17.trans (by decide)
  subst ev_17
  refine va_put (D := (dC, dI)) (ci := 15) (v := .int 2) (ty := .int) (C := RX15) (T := TX15) (N := 89) hx hb hts (in_m_feed_X15) tyX15 tyX15_ok nmX15 hown hK hP hD hS 0 rfl rfl 18 (by decide) (hts (.fieldLink RX15 299 "MotionSignsModel" "tape" "I") (List.mem_of_getElem? (i := 2) rfl)) (fun _ h9 => h9) rfl (tyX15_ok 18 (by decide)) rfl rfl (mF.lt hF_h0 (by decide)) dX15_feed_111 ?_
  clear hP hD hS; try clear H
  intro H locs hP hD hS
  have hF0 := mF.sub (L' := [(0, .int 0), (19, .int 0), (20, .int (-1)), (21, .int 0), (22, .int 0), (23, .int 0), (24, .int 0), (25, .int 0), (27, .int 0), (28, .int 0), (29, .int 0), (35, .int 0), (17, .int (-1)), (26, .ref qfed), (30, .ref qf), (31, .ref qfd), (33, .ref qs), (36, .ref qk)]) hF_h0 [1, 2, 3, 4, 5, 6, 7, 8, 9, 10, 11, 12, 13, 14, 15, 16, 17, 18] rfl
  have hF1 := mF.put hF0 18 (.int 2) (by decide) rfl
  replace hP : va_P (dC, dI) vwCl [(h0, .inr (15, (fs_10.set 18 (.int 2)))), (qfed, .inl (ke, 200, .inl f_16))] H := hP
  replace hD : va_D A [(h0, .inr (15, (fs_10.set 18 (.int 2)))), (qfed, .inl (ke, 200, .inl f_16))] := hD
  generalize fs_10.set 18 (.int 2) = fs_18 at hP hD hF1
  replace hF_h0 : mF 89 [(18, .int 2), (0, .int 0), (19, .int 0), (20, .int (-1)), (21, .int 0), (22, .int 0), (23, .int 0), (24, .int 0), (25, .int 0), (27, .int 0), (28, .int 0), (29, .int 0), (35, .int 0), (17, .int (-1)), (26, .ref qfed), (30, .ref qf), (31, .ref qfd), (33, .ref qs), (36, .ref qk)] fs_18 := hF1
  clear hF1 hF0
  replace hP : va_P (dC, dI) vwCl [(h0, .inr (15, fs_18)), (qfed, .inl (ke, 200, .inl f_16))] H := hP
  replace hD : va_D A [(h0, .inr (15, fs_18)), (qfed, .inl (ke, 200, .inl f_16))] := hD
  refine lv_iinc (v := 2) (lv' := [(6, .int 2), (7, .int x0), (0, .ref h0), (1, .int x0), (2, .int x1), (3, .int x2), (4, .int x3), (5, .int x4)]) hx hb dX15_feed_114 hl (k := 1) rfl (by decide) (by decide) rfl (fun ls hl => ?_)
  refine lv_goto (tgt := 23) hx hb dX15_feed_117 (by decide) ?_
  refine lv_iload hx hb dX15_feed_23 (lv_at hl 0 rfl) ?_
  refine lv_bipush (v := 20) hx hb dX15_feed_25 (by decide) ?_
  refine lv_icmp_ge (tgt := 120) hx hb dX15_feed_27 (by decide) (fun hc => absurd hc (by decide)) (fun _ => ?_)
  refine lv_iload hx hb dX15_feed_30 (lv_at hl 0 rfl) ?_
  refine lv_iconst (v := 4) hx hb dX15_feed_32 (by decide) ?_
  refine lv_icmp_ge (tgt := 40) hx hb dX15_feed_33 (by decide) (fun hc => absurd hc (by decide)) (fun _ => ?_)
  refine lv_iload_n hx hb dX15_feed_36 rfl (lv_at hl 3 rfl) ?_
  refine lv_goto (tgt := 76) hx hb dX15_feed_37 (by decide) ?_
  refine lv_istore (lv' := [(7, .int x0), (6, .int 2), (0, .ref h0), (1, .int x0), (2, .int x1), (3, .int x2), (4, .int x3), (5, .int x4)]) hx hb dX15_feed_76 hl (by decide) rfl (fun ls hl => ?_)
  refine lv_aload_n hx hb dX15_feed_78 rfl (lv_at hl 2 rfl) ?_
  refine va_get (D := (dC, dI)) (ci := 15) (v := .ref qfed) (C := RX15) (T := TX15) (N := 89) hx hb hts (in_m_feed_X15) hown hK hP 0 rfl rfl 26 (by decide) (hts (.fieldLink RX15 124 "MotionSignsModel" "fed" "[I") (List.mem_of_getElem? (i := 3) rfl)) (fun _ h9 => h9) (mF.get hF_h0 14 rfl) dX15_feed_79 ?_
  refine lv_aload_n hx hb dX15_feed_82 rfl (lv_at hl 2 rfl) ?_
  refine va_get (D := (dC, dI)) (ci := 15) (v := .int 2) (C := RX15) (T := TX15) (N := 89) hx hb hts (in_m_feed_X15) hown hK hP 0 rfl rfl 18 (by decide) (hts (.fieldLink RX15 299 "MotionSignsModel" "tape" "I") (List.mem_of_getElem? (i := 2) rfl)) (fun _ h9 => h9) (mF.get hF_h0 0 rfl) dX15_feed_83 ?_
  refine lv_iload hx hb dX15_feed_86 (lv_at hl 0 rfl) ?_
  refine lv_bipush (v := 24) hx hb dX15_feed_88 (by decide) ?_
  refine lv_bipush (v := 8) hx hb dX15_feed_90 (by decide) ?_
  refine lv_iload hx hb dX15_feed_92 (lv_at hl 1 rfl) ?_
  refine lv_iconst (v := 4) hx hb dX15_feed_94 (by decide) ?_
  refine lv_irem hx hb dX15_feed_95 (by decide) ?_
  refine lv_topi (fun v_19 ev_19 => ?_)
  have ev_19 : v_19 = 2 := ev_19.trans (by decide)
  subst ev_19
  refine lv_imul hx hb dX15_feed_96 ?_
  refine lv_topi (fun v_20 ev_20 => ?_)
  have ev_20 : v_20 = 16 := ev_20.trans (by decide)
  subst ev_20
  refine lv_isub hx hb dX15_feed_97 ?_
  refine lv_topi (fun v_21 ev_21 => ?_)
  have ev_21 : v_21 = 8 := ev_21.trans (by decide)
  subst ev_21
  refine lv_ishr hx hb dX15_feed_98 ?_
  refine lv_topi (fun v_22 ev_22 => ?_)
  refine lv_sipush (v := 255) hx hb dX15_feed_99 (by decide) ?_
  refine lv_iand hx hb dX15_feed_102 ?_
  refine lv_topi (fun v_23 ev_23 => ?_)
  refine va_iast hx hb hK hP hD hS 1 0 rfl rfl (by exact fun h => by rcases h with h | h <;> revert h <;> decide) dX15_feed_103 ?_
  clear hP hD hS; try clear H
  intro H locs hP hD hS
  have hPx := hP; have hDx := hD
  obtain ⟨f_24, hPx, hDx⟩ : ∃ g : Nat → Int32, va_P (dC, dI) vwCl [(h0, .inr (15, fs_18)), (qfed, .inl (ke, 200, .inl g))] H ∧ va_D A [(h0, .inr (15, fs_18)), (qfed, .inl (ke, 200, .inl g))] := ⟨_, hP, hD⟩
  replace hP := hPx; replace hD := hDx; clear hPx hDx
  replace hP : va_P (dC, dI) vwCl [(h0, .inr (15, fs_18)), (qfed, .inl (ke, 200, .inl f_24))] H := hP
  replace hD : va_D A [(h0, .inr (15, fs_18)), (qfed, .inl (ke, 200, .inl f_24))] := hD
  refine lv_aload_n hx hb dX15_feed_104 rfl (lv_at hl 2 rfl) ?_
  refine lv_dup hx hb dX15_feed_105 rfl ?_
  refine va_get (D := (dC, dI)) (ci := 15) (v := .int 2) (C := RX15) (T := TX15) (N := 89) hx hb hts (in_m_feed_X15) hown hK hP 0 rfl rfl 18 (by decide) (hts (.fieldLink RX15 299 "MotionSignsModel" "tape" "I") (List.mem_of_getElem? (i := 2) rfl)) (fun _ h9 => h9) (mF.get hF_h0 0 rfl) dX15_feed_106 ?_
  refine lv_iconst (v := 1) hx hb dX15_feed_109 (by decide) ?_
  refine lv_iadd hx hb dX15_feed_110 ?_
  refine lv_topi (fun v_25 ev_25 => ?_)
  have ev_25 : v_25 = 3 := ev_25.trans (by decide)
  subst ev_25
  refine va_put (D := (dC, dI)) (ci := 15) (v := .int 3) (ty := .int) (C := RX15) (T := TX15) (N := 89) hx hb hts (in_m_feed_X15) tyX15 tyX15_ok nmX15 hown hK hP hD hS 0 rfl rfl 18 (by decide) (hts (.fieldLink RX15 299 "MotionSignsModel" "tape" "I") (List.mem_of_getElem? (i := 2) rfl)) (fun _ h9 => h9) rfl (tyX15_ok 18 (by decide)) rfl rfl (mF.lt hF_h0 (by decide)) dX15_feed_111 ?_
  clear hP hD hS; try clear H
  intro H locs hP hD hS
  have hF0 := mF.sub (L' := [(0, .int 0), (19, .int 0), (20, .int (-1)), (21, .int 0), (22, .int 0), (23, .int 0), (24, .int 0), (25, .int 0), (27, .int 0), (28, .int 0), (29, .int 0), (35, .int 0), (17, .int (-1)), (26, .ref qfed), (30, .ref qf), (31, .ref qfd), (33, .ref qs), (36, .ref qk)]) hF_h0 [1, 2, 3, 4, 5, 6, 7, 8, 9, 10, 11, 12, 13, 14, 15, 16, 17, 18] rfl
  have hF1 := mF.put hF0 18 (.int 3) (by decide) rfl
  replace hP : va_P (dC, dI) vwCl [(h0, .inr (15, (fs_18.set 18 (.int 3)))), (qfed, .inl (ke, 200, .inl f_24))] H := hP
  replace hD : va_D A [(h0, .inr (15, (fs_18.set 18 (.int 3)))), (qfed, .inl (ke, 200, .inl f_24))] := hD
  generalize fs_18.set 18 (.int 3) = fs_26 at hP hD hF1
  replace hF_h0 : mF 89 [(18, .int 3), (0, .int 0), (19, .int 0), (20, .int (-1)), (21, .int 0), (22, .int 0), (23, .int 0), (24, .int 0), (25, .int 0), (27, .int 0), (28, .int 0), (29, .int 0), (35, .int 0), (17, .int (-1)), (26, .ref qfed), (30, .ref qf), (31, .ref qfd), (33, .ref qs), (36, .ref qk)] fs_26 := hF1
  clear hF1 hF0
  replace hP : va_P (dC, dI) vwCl [(h0, .inr (15, fs_26)), (qfed, .inl (ke, 200, .inl f_24))] H := hP
  replace hD : va_D A [(h0, .inr (15, fs_26)), (qfed, .inl (ke, 200, .inl f_24))] := hD
  refine lv_iinc (v := 3) (lv' := [(6, .int 3), (7, .int x0), (0, .ref h0), (1, .int x0), (2, .int x1), (3, .int x2), (4, .int x3), (5, .int x4)]) hx hb dX15_feed_114 hl (k := 1) rfl (by decide) (by decide) rfl (fun ls hl => ?_)
  refine lv_goto (tgt := 23) hx hb dX15_feed_117 (by decide) ?_
  refine lv_iload hx hb dX15_feed_23 (lv_at hl 0 rfl) ?_
  refine lv_bipush (v := 20) hx hb dX15_feed_25 (by decide) ?_
  refine lv_icmp_ge (tgt := 120) hx hb dX15_feed_27 (by decide) (fun hc => absurd hc (by decide)) (fun _ => ?_)
  refine lv_iload hx hb dX15_feed_30 (lv_at hl 0 rfl) ?_
  refine lv_iconst (v := 4) hx hb dX15_feed_32 (by decide) ?_
  refine lv_icmp_ge (tgt := 40) hx hb dX15_feed_33 (by decide) (fun hc => absurd hc (by decide)) (fun _ => ?_)
  refine lv_iload_n hx hb dX15_feed_36 rfl (lv_at hl 3 rfl) ?_
  refine lv_goto (tgt := 76) hx hb dX15_feed_37 (by decide) ?_
  refine lv_istore (lv' := [(7, .int x0), (6, .int 3), (0, .ref h0), (1, .int x0), (2, .int x1), (3, .int x2), (4, .int x3), (5, .int x4)]) hx hb dX15_feed_76 hl (by decide) rfl (fun ls hl => ?_)
  refine lv_aload_n hx hb dX15_feed_78 rfl (lv_at hl 2 rfl) ?_
  refine va_get (D := (dC, dI)) (ci := 15) (v := .ref qfed) (C := RX15) (T := TX15) (N := 89) hx hb hts (in_m_feed_X15) hown hK hP 0 rfl rfl 26 (by decide) (hts (.fieldLink RX15 124 "MotionSignsModel" "fed" "[I") (List.mem_of_getElem? (i := 3) rfl)) (fun _ h9 => h9) (mF.get hF_h0 14 rfl) dX15_feed_79 ?_
  refine lv_aload_n hx hb dX15_feed_82 rfl (lv_at hl 2 rfl) ?_
  refine va_get (D := (dC, dI)) (ci := 15) (v := .int 3) (C := RX15) (T := TX15) (N := 89) hx hb hts (in_m_feed_X15) hown hK hP 0 rfl rfl 18 (by decide) (hts (.fieldLink RX15 299 "MotionSignsModel" "tape" "I") (List.mem_of_getElem? (i := 2) rfl)) (fun _ h9 => h9) (mF.get hF_h0 0 rfl) dX15_feed_83 ?_
  refine lv_iload hx hb dX15_feed_86 (lv_at hl 0 rfl) ?_
  refine lv_bipush (v := 24) hx hb dX15_feed_88 (by decide) ?_
  refine lv_bipush (v := 8) hx hb dX15_feed_90 (by decide) ?_
  refine lv_iload hx hb dX15_feed_92 (lv_at hl 1 rfl) ?_
  refine lv_iconst (v := 4) hx hb dX15_feed_94 (by decide) ?_
  refine lv_irem hx hb dX15_feed_95 (by decide) ?_
  refine lv_topi (fun v_27 ev_27 => ?_)
  have ev_27 : v_27 = 3 := ev_27.trans (by decide)
  subst ev_27
  refine lv_imul hx hb dX15_feed_96 ?_
  refine lv_topi (fun v_28 ev_28 => ?_)
  have ev_28 : v_28 = 24 := ev_28.trans (by decide)
  subst ev_28
  refine lv_isub hx hb dX15_feed_97 ?_
  refine lv_topi (fun v_29 ev_29 => ?_)
  have ev_29 : v_29 = 0 := ev_29.trans (by decide)
  subst ev_29
  refine lv_ishr hx hb dX15_feed_98 ?_
  refine lv_topi (fun v_30 ev_30 => ?_)
  refine lv_sipush (v := 255) hx hb dX15_feed_99 (by decide) ?_
  refine lv_iand hx hb dX15_feed_102 ?_
  refine lv_topi (fun v_31 ev_31 => ?_)
  refine va_iast hx hb hK hP hD hS 1 0 rfl rfl (by exact fun h => by rcases h with h | h <;> revert h <;> decide) dX15_feed_103 ?_
  clear hP hD hS; try clear H
  intro H locs hP hD hS
  have hPx := hP; have hDx := hD
  obtain ⟨f_32, hPx, hDx⟩ : ∃ g : Nat → Int32, va_P (dC, dI) vwCl [(h0, .inr (15, fs_26)), (qfed, .inl (ke, 200, .inl g))] H ∧ va_D A [(h0, .inr (15, fs_26)), (qfed, .inl (ke, 200, .inl g))] := ⟨_, hP, hD⟩
  replace hP := hPx; replace hD := hDx; clear hPx hDx
  replace hP : va_P (dC, dI) vwCl [(h0, .inr (15, fs_26)), (qfed, .inl (ke, 200, .inl f_32))] H := hP
  replace hD : va_D A [(h0, .inr (15, fs_26)), (qfed, .inl (ke, 200, .inl f_32))] := hD
  refine lv_aload_n hx hb dX15_feed_104 rfl (lv_at hl 2 rfl) ?_
  refine lv_dup hx hb dX15_feed_105 rfl ?_
  refine va_get (D := (dC, dI)) (ci := 15) (v := .int 3) (C := RX15) (T := TX15) (N := 89) hx hb hts (in_m_feed_X15) hown hK hP 0 rfl rfl 18 (by decide) (hts (.fieldLink RX15 299 "MotionSignsModel" "tape" "I") (List.mem_of_getElem? (i := 2) rfl)) (fun _ h9 => h9) (mF.get hF_h0 0 rfl) dX15_feed_106 ?_
  refine lv_iconst (v := 1) hx hb dX15_feed_109 (by decide) ?_
  refine lv_iadd hx hb dX15_feed_110 ?_
  refine lv_topi (fun v_33 ev_33 => ?_)
  have ev_33 : v_33 = 4 := ev_33.trans (by decide)
  subst ev_33
  refine va_put (D := (dC, dI)) (ci := 15) (v := .int 4) (ty := .int) (C := RX15) (T := TX15) (N := 89) hx hb hts (in_m_feed_X15) tyX15 tyX15_ok nmX15 hown hK hP hD hS 0 rfl rfl 18 (by decide) (hts (.fieldLink RX15 299 "MotionSignsModel" "tape" "I") (List.mem_of_getElem? (i := 2) rfl)) (fun _ h9 => h9) rfl (tyX15_ok 18 (by decide)) rfl rfl (mF.lt hF_h0 (by decide)) dX15_feed_111 ?_
  clear hP hD hS; try clear H
  intro H locs hP hD hS
  have hF0 := mF.sub (L' := [(0, .int 0), (19, .int 0), (20, .int (-1)), (21, .int 0), (22, .int 0), (23, .int 0), (24, .int 0), (25, .int 0), (27, .int 0), (28, .int 0), (29, .int 0), (35, .int 0), (17, .int (-1)), (26, .ref qfed), (30, .ref qf), (31, .ref qfd), (33, .ref qs), (36, .ref qk)]) hF_h0 [1, 2, 3, 4, 5, 6, 7, 8, 9, 10, 11, 12, 13, 14, 15, 16, 17, 18] rfl
  have hF1 := mF.put hF0 18 (.int 4) (by decide) rfl
  replace hP : va_P (dC, dI) vwCl [(h0, .inr (15, (fs_26.set 18 (.int 4)))), (qfed, .inl (ke, 200, .inl f_32))] H := hP
  replace hD : va_D A [(h0, .inr (15, (fs_26.set 18 (.int 4)))), (qfed, .inl (ke, 200, .inl f_32))] := hD
  generalize fs_26.set 18 (.int 4) = fs_34 at hP hD hF1
  replace hF_h0 : mF 89 [(18, .int 4), (0, .int 0), (19, .int 0), (20, .int (-1)), (21, .int 0), (22, .int 0), (23, .int 0), (24, .int 0), (25, .int 0), (27, .int 0), (28, .int 0), (29, .int 0), (35, .int 0), (17, .int (-1)), (26, .ref qfed), (30, .ref qf), (31, .ref qfd), (33, .ref qs), (36, .ref qk)] fs_34 := hF1
  clear hF1 hF0
  replace hP : va_P (dC, dI) vwCl [(h0, .inr (15, fs_34)), (qfed, .inl (ke, 200, .inl f_32))] H := hP
  replace hD : va_D A [(h0, .inr (15, fs_34)), (qfed, .inl (ke, 200, .inl f_32))] := hD
  refine lv_iinc (v := 4) (lv' := [(6, .int 4), (7, .int x0), (0, .ref h0), (1, .int x0), (2, .int x1), (3, .int x2), (4, .int x3), (5, .int x4)]) hx hb dX15_feed_114 hl (k := 1) rfl (by decide) (by decide) rfl (fun ls hl => ?_)
  refine lv_goto (tgt := 23) hx hb dX15_feed_117 (by decide) ?_
  refine lv_iload hx hb dX15_feed_23 (lv_at hl 0 rfl) ?_
  refine lv_bipush (v := 20) hx hb dX15_feed_25 (by decide) ?_
  refine lv_icmp_ge (tgt := 120) hx hb dX15_feed_27 (by decide) (fun hc => absurd hc (by decide)) (fun _ => ?_)
  refine lv_iload hx hb dX15_feed_30 (lv_at hl 0 rfl) ?_
  refine lv_iconst (v := 4) hx hb dX15_feed_32 (by decide) ?_
  refine lv_icmp_ge (tgt := 40) hx hb dX15_feed_33 (by decide) (fun _ => ?_) (fun hc => absurd (by decide) hc)
  refine lv_iload hx hb dX15_feed_40 (lv_at hl 0 rfl) ?_
  refine lv_bipush (v := 8) hx hb dX15_feed_42 (by decide) ?_
  refine lv_icmp_ge (tgt := 51) hx hb dX15_feed_44 (by decide) (fun hc => absurd hc (by decide)) (fun _ => ?_)
  refine lv_iload_n hx hb dX15_feed_47 rfl (lv_at hl 4 rfl) ?_
  refine lv_goto (tgt := 76) hx hb dX15_feed_48 (by decide) ?_
  refine lv_istore (lv' := [(7, .int x1), (6, .int 4), (0, .ref h0), (1, .int x0), (2, .int x1), (3, .int x2), (4, .int x3), (5, .int x4)]) hx hb dX15_feed_76 hl (by decide) rfl (fun ls hl => ?_)
  refine lv_aload_n hx hb dX15_feed_78 rfl (lv_at hl 2 rfl) ?_
  refine va_get (D := (dC, dI)) (ci := 15) (v := .ref qfed) (C := RX15) (T := TX15) (N := 89) hx hb hts (in_m_feed_X15) hown hK hP 0 rfl rfl 26 (by decide) (hts (.fieldLink RX15 124 "MotionSignsModel" "fed" "[I") (List.mem_of_getElem? (i := 3) rfl)) (fun _ h9 => h9) (mF.get hF_h0 14 rfl) dX15_feed_79 ?_
  refine lv_aload_n hx hb dX15_feed_82 rfl (lv_at hl 2 rfl) ?_
  refine va_get (D := (dC, dI)) (ci := 15) (v := .int 4) (C := RX15) (T := TX15) (N := 89) hx hb hts (in_m_feed_X15) hown hK hP 0 rfl rfl 18 (by decide) (hts (.fieldLink RX15 299 "MotionSignsModel" "tape" "I") (List.mem_of_getElem? (i := 2) rfl)) (fun _ h9 => h9) (mF.get hF_h0 0 rfl) dX15_feed_83 ?_
  refine lv_iload hx hb dX15_feed_86 (lv_at hl 0 rfl) ?_
  refine lv_bipush (v := 24) hx hb dX15_feed_88 (by decide) ?_
  refine lv_bipush (v := 8) hx hb dX15_feed_90 (by decide) ?_
  refine lv_iload hx hb dX15_feed_92 (lv_at hl 1 rfl) ?_
  refine lv_iconst (v := 4) hx hb dX15_feed_94 (by decide) ?_
  refine lv_irem hx hb dX15_feed_95 (by decide) ?_
  refine lv_topi (fun v_35 ev_35 => ?_)
  have ev_35 : v_35 = 0 := ev_35.trans (by decide)
  subst ev_35
  refine lv_imul hx hb dX15_feed_96 ?_
  refine lv_topi (fun v_36 ev_36 => ?_)
  have ev_36 : v_36 = 0 := ev_36.trans (by decide)
  subst ev_36
  refine lv_isub hx hb dX15_feed_97 ?_
  refine lv_topi (fun v_37 ev_37 => ?_)
  have ev_37 : v_37 = 24 := ev_37.trans (by decide)
  subst ev_37
  refine lv_ishr hx hb dX15_feed_98 ?_
  refine lv_topi (fun v_38 ev_38 => ?_)
  refine lv_sipush (v := 255) hx hb dX15_feed_99 (by decide) ?_
  refine lv_iand hx hb dX15_feed_102 ?_
  refine lv_topi (fun v_39 ev_39 => ?_)
  refine va_iast hx hb hK hP hD hS 1 0 rfl rfl (by exact fun h => by rcases h with h | h <;> revert h <;> decide) dX15_feed_103 ?_
  clear hP hD hS; try clear H
  intro H locs hP hD hS
  have hPx := hP; have hDx := hD
  obtain ⟨f_40, hPx, hDx⟩ : ∃ g : Nat → Int32, va_P (dC, dI) vwCl [(h0, .inr (15, fs_34)), (qfed, .inl (ke, 200, .inl g))] H ∧ va_D A [(h0, .inr (15, fs_34)), (qfed, .inl (ke, 200, .inl g))] := ⟨_, hP, hD⟩
  replace hP := hPx; replace hD := hDx; clear hPx hDx
  replace hP : va_P (dC, dI) vwCl [(h0, .inr (15, fs_34)), (qfed, .inl (ke, 200, .inl f_40))] H := hP
  replace hD : va_D A [(h0, .inr (15, fs_34)), (qfed, .inl (ke, 200, .inl f_40))] := hD
  refine lv_aload_n hx hb dX15_feed_104 rfl (lv_at hl 2 rfl) ?_
  refine lv_dup hx hb dX15_feed_105 rfl ?_
  refine va_get (D := (dC, dI)) (ci := 15) (v := .int 4) (C := RX15) (T := TX15) (N := 89) hx hb hts (in_m_feed_X15) hown hK hP 0 rfl rfl 18 (by decide) (hts (.fieldLink RX15 299 "MotionSignsModel" "tape" "I") (List.mem_of_getElem? (i := 2) rfl)) (fun _ h9 => h9) (mF.get hF_h0 0 rfl) dX15_feed_106 ?_
  refine lv_iconst (v := 1) hx hb dX15_feed_109 (by decide) ?_
  refine lv_iadd hx hb dX15_feed_110 ?_
  refine lv_topi (fun v_41 ev_41 => ?_)
  have ev_41 : v_41 = 5 := ev_41.trans (by decide)
  subst ev_41
  refine va_put (D := (dC, dI)) (ci := 15) (v := .int 5) (ty := .int) (C := RX15) (T := TX15) (N := 89) hx hb hts (in_m_feed_X15) tyX15 tyX15_ok nmX15 hown hK hP hD hS 0 rfl rfl 18 (by decide) (hts (.fieldLink RX15 299 "MotionSignsModel" "tape" "I") (List.mem_of_getElem? (i := 2) rfl)) (fun _ h9 => h9) rfl (tyX15_ok 18 (by decide)) rfl rfl (mF.lt hF_h0 (by decide)) dX15_feed_111 ?_
  clear hP hD hS; try clear H
  intro H locs hP hD hS
  have hF0 := mF.sub (L' := [(0, .int 0), (19, .int 0), (20, .int (-1)), (21, .int 0), (22, .int 0), (23, .int 0), (24, .int 0), (25, .int 0), (27, .int 0), (28, .int 0), (29, .int 0), (35, .int 0), (17, .int (-1)), (26, .ref qfed), (30, .ref qf), (31, .ref qfd), (33, .ref qs), (36, .ref qk)]) hF_h0 [1, 2, 3, 4, 5, 6, 7, 8, 9, 10, 11, 12, 13, 14, 15, 16, 17, 18] rfl
  have hF1 := mF.put hF0 18 (.int 5) (by decide) rfl
  replace hP : va_P (dC, dI) vwCl [(h0, .inr (15, (fs_34.set 18 (.int 5)))), (qfed, .inl (ke, 200, .inl f_40))] H := hP
  replace hD : va_D A [(h0, .inr (15, (fs_34.set 18 (.int 5)))), (qfed, .inl (ke, 200, .inl f_40))] := hD
  generalize fs_34.set 18 (.int 5) = fs_42 at hP hD hF1
  replace hF_h0 : mF 89 [(18, .int 5), (0, .int 0), (19, .int 0), (20, .int (-1)), (21, .int 0), (22, .int 0), (23, .int 0), (24, .int 0), (25, .int 0), (27, .int 0), (28, .int 0), (29, .int 0), (35, .int 0), (17, .int (-1)), (26, .ref qfed), (30, .ref qf), (31, .ref qfd), (33, .ref qs), (36, .ref qk)] fs_42 := hF1
  clear hF1 hF0
  replace hP : va_P (dC, dI) vwCl [(h0, .inr (15, fs_42)), (qfed, .inl (ke, 200, .inl f_40))] H := hP
  replace hD : va_D A [(h0, .inr (15, fs_42)), (qfed, .inl (ke, 200, .inl f_40))] := hD
  refine lv_iinc (v := 5) (lv' := [(6, .int 5), (7, .int x1), (0, .ref h0), (1, .int x0), (2, .int x1), (3, .int x2), (4, .int x3), (5, .int x4)]) hx hb dX15_feed_114 hl (k := 1) rfl (by decide) (by decide) rfl (fun ls hl => ?_)
  refine lv_goto (tgt := 23) hx hb dX15_feed_117 (by decide) ?_
  refine lv_iload hx hb dX15_feed_23 (lv_at hl 0 rfl) ?_
  refine lv_bipush (v := 20) hx hb dX15_feed_25 (by decide) ?_
  refine lv_icmp_ge (tgt := 120) hx hb dX15_feed_27 (by decide) (fun hc => absurd hc (by decide)) (fun _ => ?_)
  refine lv_iload hx hb dX15_feed_30 (lv_at hl 0 rfl) ?_
  refine lv_iconst (v := 4) hx hb dX15_feed_32 (by decide) ?_
  refine lv_icmp_ge (tgt := 40) hx hb dX15_feed_33 (by decide) (fun _ => ?_) (fun hc => absurd (by decide) hc)
  refine lv_iload hx hb dX15_feed_40 (lv_at hl 0 rfl) ?_
  refine lv_bipush (v := 8) hx hb dX15_feed_42 (by decide) ?_
  refine lv_icmp_ge (tgt := 51) hx hb dX15_feed_44 (by decide) (fun hc => absurd hc (by decide)) (fun _ => ?_)
  refine lv_iload_n hx hb dX15_feed_47 rfl (lv_at hl 4 rfl) ?_
  refine lv_goto (tgt := 76) hx hb dX15_feed_48 (by decide) ?_
  refine lv_istore (lv' := [(7, .int x1), (6, .int 5), (0, .ref h0), (1, .int x0), (2, .int x1), (3, .int x2), (4, .int x3), (5, .int x4)]) hx hb dX15_feed_76 hl (by decide) rfl (fun ls hl => ?_)
  refine lv_aload_n hx hb dX15_feed_78 rfl (lv_at hl 2 rfl) ?_
  refine va_get (D := (dC, dI)) (ci := 15) (v := .ref qfed) (C := RX15) (T := TX15) (N := 89) hx hb hts (in_m_feed_X15) hown hK hP 0 rfl rfl 26 (by decide) (hts (.fieldLink RX15 124 "MotionSignsModel" "fed" "[I") (List.mem_of_getElem? (i := 3) rfl)) (fun _ h9 => h9) (mF.get hF_h0 14 rfl) dX15_feed_79 ?_
  refine lv_aload_n hx hb dX15_feed_82 rfl (lv_at hl 2 rfl) ?_
  refine va_get (D := (dC, dI)) (ci := 15) (v := .int 5) (C := RX15) (T := TX15) (N := 89) hx hb hts (in_m_feed_X15) hown hK hP 0 rfl rfl 18 (by decide) (hts (.fieldLink RX15 299 "MotionSignsModel" "tape" "I") (List.mem_of_getElem? (i := 2) rfl)) (fun _ h9 => h9) (mF.get hF_h0 0 rfl) dX15_feed_83 ?_
  refine lv_iload hx hb dX15_feed_86 (lv_at hl 0 rfl) ?_
  refine lv_bipush (v := 24) hx hb dX15_feed_88 (by decide) ?_
  refine lv_bipush (v := 8) hx hb dX15_feed_90 (by decide) ?_
  refine lv_iload hx hb dX15_feed_92 (lv_at hl 1 rfl) ?_
  refine lv_iconst (v := 4) hx hb dX15_feed_94 (by decide) ?_
  refine lv_irem hx hb dX15_feed_95 (by decide) ?_
  refine lv_topi (fun v_43 ev_43 => ?_)
  have ev_43 : v_43 = 1 := ev_43.trans (by decide)
  subst ev_43
  refine lv_imul hx hb dX15_feed_96 ?_
  refine lv_topi (fun v_44 ev_44 => ?_)
  have ev_44 : v_44 = 8 := ev_44.trans (by decide)
  subst ev_44
  refine lv_isub hx hb dX15_feed_97 ?_
  refine lv_topi (fun v_45 ev_45 => ?_)
  have ev_45 : v_45 = 16 := ev_45.trans (by decide)
  subst ev_45
  refine lv_ishr hx hb dX15_feed_98 ?_
  refine lv_topi (fun v_46 ev_46 => ?_)
  refine lv_sipush (v := 255) hx hb dX15_feed_99 (by decide) ?_
  refine lv_iand hx hb dX15_feed_102 ?_
  refine lv_topi (fun v_47 ev_47 => ?_)
  refine va_iast hx hb hK hP hD hS 1 0 rfl rfl (by exact fun h => by rcases h with h | h <;> revert h <;> decide) dX15_feed_103 ?_
  clear hP hD hS; try clear H
  intro H locs hP hD hS
  have hPx := hP; have hDx := hD
  obtain ⟨f_48, hPx, hDx⟩ : ∃ g : Nat → Int32, va_P (dC, dI) vwCl [(h0, .inr (15, fs_42)), (qfed, .inl (ke, 200, .inl g))] H ∧ va_D A [(h0, .inr (15, fs_42)), (qfed, .inl (ke, 200, .inl g))] := ⟨_, hP, hD⟩
  replace hP := hPx; replace hD := hDx; clear hPx hDx
  replace hP : va_P (dC, dI) vwCl [(h0, .inr (15, fs_42)), (qfed, .inl (ke, 200, .inl f_48))] H := hP
  replace hD : va_D A [(h0, .inr (15, fs_42)), (qfed, .inl (ke, 200, .inl f_48))] := hD
  refine lv_aload_n hx hb dX15_feed_104 rfl (lv_at hl 2 rfl) ?_
  refine lv_dup hx hb dX15_feed_105 rfl ?_
  refine va_get (D := (dC, dI)) (ci := 15) (v := .int 5) (C := RX15) (T := TX15) (N := 89) hx hb hts (in_m_feed_X15) hown hK hP 0 rfl rfl 18 (by decide) (hts (.fieldLink RX15 299 "MotionSignsModel" "tape" "I") (List.mem_of_getElem? (i := 2) rfl)) (fun _ h9 => h9) (mF.get hF_h0 0 rfl) dX15_feed_106 ?_
  refine lv_iconst (v := 1) hx hb dX15_feed_109 (by decide) ?_
  refine lv_iadd hx hb dX15_feed_110 ?_
  refine lv_topi (fun v_49 ev_49 => ?_)
  have ev_49 : v_49 = 6 := ev_49.trans (by decide)
  subst ev_49
  refine va_put (D := (dC, dI)) (ci := 15) (v := .int 6) (ty := .int) (C := RX15) (T := TX15) (N := 89) hx hb hts (in_m_feed_X15) tyX15 tyX15_ok nmX15 hown hK hP hD hS 0 rfl rfl 18 (by decide) (hts (.fieldLink RX15 299 "MotionSignsModel" "tape" "I") (List.mem_of_getElem? (i := 2) rfl)) (fun _ h9 => h9) rfl (tyX15_ok 18 (by decide)) rfl rfl (mF.lt hF_h0 (by decide)) dX15_feed_111 ?_
  clear hP hD hS; try clear H
  intro H locs hP hD hS
  have hF0 := mF.sub (L' := [(0, .int 0), (19, .int 0), (20, .int (-1)), (21, .int 0), (22, .int 0), (23, .int 0), (24, .int 0), (25, .int 0), (27, .int 0), (28, .int 0), (29, .int 0), (35, .int 0), (17, .int (-1)), (26, .ref qfed), (30, .ref qf), (31, .ref qfd), (33, .ref qs), (36, .ref qk)]) hF_h0 [1, 2, 3, 4, 5, 6, 7, 8, 9, 10, 11, 12, 13, 14, 15, 16, 17, 18] rfl
  have hF1 := mF.put hF0 18 (.int 6) (by decide) rfl
  replace hP : va_P (dC, dI) vwCl [(h0, .inr (15, (fs_42.set 18 (.int 6)))), (qfed, .inl (ke, 200, .inl f_48))] H := hP
  replace hD : va_D A [(h0, .inr (15, (fs_42.set 18 (.int 6)))), (qfed, .inl (ke, 200, .inl f_48))] := hD
  generalize fs_42.set 18 (.int 6) = fs_50 at hP hD hF1
  replace hF_h0 : mF 89 [(18, .int 6), (0, .int 0), (19, .int 0), (20, .int (-1)), (21, .int 0), (22, .int 0), (23, .int 0), (24, .int 0), (25, .int 0), (27, .int 0), (28, .int 0), (29, .int 0), (35, .int 0), (17, .int (-1)), (26, .ref qfed), (30, .ref qf), (31, .ref qfd), (33, .ref qs), (36, .ref qk)] fs_50 := hF1
  clear hF1 hF0
  replace hP : va_P (dC, dI) vwCl [(h0, .inr (15, fs_50)), (qfed, .inl (ke, 200, .inl f_48))] H := hP
  replace hD : va_D A [(h0, .inr (15, fs_50)), (qfed, .inl (ke, 200, .inl f_48))] := hD
  refine lv_iinc (v := 6) (lv' := [(6, .int 6), (7, .int x1), (0, .ref h0), (1, .int x0), (2, .int x1), (3, .int x2), (4, .int x3), (5, .int x4)]) hx hb dX15_feed_114 hl (k := 1) rfl (by decide) (by decide) rfl (fun ls hl => ?_)
  refine lv_goto (tgt := 23) hx hb dX15_feed_117 (by decide) ?_
  refine lv_iload hx hb dX15_feed_23 (lv_at hl 0 rfl) ?_
  refine lv_bipush (v := 20) hx hb dX15_feed_25 (by decide) ?_
  refine lv_icmp_ge (tgt := 120) hx hb dX15_feed_27 (by decide) (fun hc => absurd hc (by decide)) (fun _ => ?_)
  refine lv_iload hx hb dX15_feed_30 (lv_at hl 0 rfl) ?_
  refine lv_iconst (v := 4) hx hb dX15_feed_32 (by decide) ?_
  refine lv_icmp_ge (tgt := 40) hx hb dX15_feed_33 (by decide) (fun _ => ?_) (fun hc => absurd (by decide) hc)
  refine lv_iload hx hb dX15_feed_40 (lv_at hl 0 rfl) ?_
  refine lv_bipush (v := 8) hx hb dX15_feed_42 (by decide) ?_
  refine lv_icmp_ge (tgt := 51) hx hb dX15_feed_44 (by decide) (fun hc => absurd hc (by decide)) (fun _ => ?_)
  refine lv_iload_n hx hb dX15_feed_47 rfl (lv_at hl 4 rfl) ?_
  refine lv_goto (tgt := 76) hx hb dX15_feed_48 (by decide) ?_
  refine lv_istore (lv' := [(7, .int x1), (6, .int 6), (0, .ref h0), (1, .int x0), (2, .int x1), (3, .int x2), (4, .int x3), (5, .int x4)]) hx hb dX15_feed_76 hl (by decide) rfl (fun ls hl => ?_)
  refine lv_aload_n hx hb dX15_feed_78 rfl (lv_at hl 2 rfl) ?_
  refine va_get (D := (dC, dI)) (ci := 15) (v := .ref qfed) (C := RX15) (T := TX15) (N := 89) hx hb hts (in_m_feed_X15) hown hK hP 0 rfl rfl 26 (by decide) (hts (.fieldLink RX15 124 "MotionSignsModel" "fed" "[I") (List.mem_of_getElem? (i := 3) rfl)) (fun _ h9 => h9) (mF.get hF_h0 14 rfl) dX15_feed_79 ?_
  refine lv_aload_n hx hb dX15_feed_82 rfl (lv_at hl 2 rfl) ?_
  refine va_get (D := (dC, dI)) (ci := 15) (v := .int 6) (C := RX15) (T := TX15) (N := 89) hx hb hts (in_m_feed_X15) hown hK hP 0 rfl rfl 18 (by decide) (hts (.fieldLink RX15 299 "MotionSignsModel" "tape" "I") (List.mem_of_getElem? (i := 2) rfl)) (fun _ h9 => h9) (mF.get hF_h0 0 rfl) dX15_feed_83 ?_
  refine lv_iload hx hb dX15_feed_86 (lv_at hl 0 rfl) ?_
  refine lv_bipush (v := 24) hx hb dX15_feed_88 (by decide) ?_
  refine lv_bipush (v := 8) hx hb dX15_feed_90 (by decide) ?_
  refine lv_iload hx hb dX15_feed_92 (lv_at hl 1 rfl) ?_
  refine lv_iconst (v := 4) hx hb dX15_feed_94 (by decide) ?_
  refine lv_irem hx hb dX15_feed_95 (by decide) ?_
  refine lv_topi (fun v_51 ev_51 => ?_)
  have ev_51 : v_51 = 2 := ev_51.trans (by decide)
  subst ev_51
  refine lv_imul hx hb dX15_feed_96 ?_
  refine lv_topi (fun v_52 ev_52 => ?_)
  have ev_52 : v_52 = 16 := ev_52.trans (by decide)
  subst ev_52
  refine lv_isub hx hb dX15_feed_97 ?_
  refine lv_topi (fun v_53 ev_53 => ?_)
  have ev_53 : v_53 = 8 := ev_53.trans (by decide)
  subst ev_53
  refine lv_ishr hx hb dX15_feed_98 ?_
  refine lv_topi (fun v_54 ev_54 => ?_)
  refine lv_sipush (v := 255) hx hb dX15_feed_99 (by decide) ?_
  refine lv_iand hx hb dX15_feed_102 ?_
  refine lv_topi (fun v_55 ev_55 => ?_)
  refine va_iast hx hb hK hP hD hS 1 0 rfl rfl (by exact fun h => by rcases h with h | h <;> revert h <;> decide) dX15_feed_103 ?_
  clear hP hD hS; try clear H
  intro H locs hP hD hS
  have hPx := hP; have hDx := hD
  obtain ⟨f_56, hPx, hDx⟩ : ∃ g : Nat → Int32, va_P (dC, dI) vwCl [(h0, .inr (15, fs_50)), (qfed, .inl (ke, 200, .inl g))] H ∧ va_D A [(h0, .inr (15, fs_50)), (qfed, .inl (ke, 200, .inl g))] := ⟨_, hP, hD⟩
  replace hP := hPx; replace hD := hDx; clear hPx hDx
  replace hP : va_P (dC, dI) vwCl [(h0, .inr (15, fs_50)), (qfed, .inl (ke, 200, .inl f_56))] H := hP
  replace hD : va_D A [(h0, .inr (15, fs_50)), (qfed, .inl (ke, 200, .inl f_56))] := hD
  refine lv_aload_n hx hb dX15_feed_104 rfl (lv_at hl 2 rfl) ?_
  refine lv_dup hx hb dX15_feed_105 rfl ?_
  refine va_get (D := (dC, dI)) (ci := 15) (v := .int 6) (C := RX15) (T := TX15) (N := 89) hx hb hts (in_m_feed_X15) hown hK hP 0 rfl rfl 18 (by decide) (hts (.fieldLink RX15 299 "MotionSignsModel" "tape" "I") (List.mem_of_getElem? (i := 2) rfl)) (fun _ h9 => h9) (mF.get hF_h0 0 rfl) dX15_feed_106 ?_
  refine lv_iconst (v := 1) hx hb dX15_feed_109 (by decide) ?_
  refine lv_iadd hx hb dX15_feed_110 ?_
  refine lv_topi (fun v_57 ev_57 => ?_)
  have ev_57 : v_57 = 7 := ev_57.trans (by decide)
  subst ev_57
  refine va_put (D := (dC, dI)) (ci := 15) (v := .int 7) (ty := .int) (C := RX15) (T := TX15) (N := 89) hx hb hts (in_m_feed_X15) tyX15 tyX15_ok nmX15 hown hK hP hD hS 0 rfl rfl 18 (by decide) (hts (.fieldLink RX15 299 "MotionSignsModel" "tape" "I") (List.mem_of_getElem? (i := 2) rfl)) (fun _ h9 => h9) rfl (tyX15_ok 18 (by decide)) rfl rfl (mF.lt hF_h0 (by decide)) dX15_feed_111 ?_
  clear hP hD hS; try clear H
  intro H locs hP hD hS
  have hF0 := mF.sub (L' := [(0, .int 0), (19, .int 0), (20, .int (-1)), (21, .int 0), (22, .int 0), (23, .int 0), (24, .int 0), (25, .int 0), (27, .int 0), (28, .int 0), (29, .int 0), (35, .int 0), (17, .int (-1)), (26, .ref qfed), (30, .ref qf), (31, .ref qfd), (33, .ref qs), (36, .ref qk)]) hF_h0 [1, 2, 3, 4, 5, 6, 7, 8, 9, 10, 11, 12, 13, 14, 15, 16, 17, 18] rfl
  have hF1 := mF.put hF0 18 (.int 7) (by decide) rfl
  replace hP : va_P (dC, dI) vwCl [(h0, .inr (15, (fs_50.set 18 (.int 7)))), (qfed, .inl (ke, 200, .inl f_56))] H := hP
  replace hD : va_D A [(h0, .inr (15, (fs_50.set 18 (.int 7)))), (qfed, .inl (ke, 200, .inl f_56))] := hD
  generalize fs_50.set 18 (.int 7) = fs_58 at hP hD hF1
  replace hF_h0 : mF 89 [(18, .int 7), (0, .int 0), (19, .int 0), (20, .int (-1)), (21, .int 0), (22, .int 0), (23, .int 0), (24, .int 0), (25, .int 0), (27, .int 0), (28, .int 0), (29, .int 0), (35, .int 0), (17, .int (-1)), (26, .ref qfed), (30, .ref qf), (31, .ref qfd), (33, .ref qs), (36, .ref qk)] fs_58 := hF1
  clear hF1 hF0
  replace hP : va_P (dC, dI) vwCl [(h0, .inr (15, fs_58)), (qfed, .inl (ke, 200, .inl f_56))] H := hP
  replace hD : va_D A [(h0, .inr (15, fs_58)), (qfed, .inl (ke, 200, .inl f_56))] := hD
  refine lv_iinc (v := 7) (lv' := [(6, .int 7), (7, .int x1), (0, .ref h0), (1, .int x0), (2, .int x1), (3, .int x2), (4, .int x3), (5, .int x4)]) hx hb dX15_feed_114 hl (k := 1) rfl (by decide) (by decide) rfl (fun ls hl => ?_)
  refine lv_goto (tgt := 23) hx hb dX15_feed_117 (by decide) ?_
  refine lv_iload hx hb dX15_feed_23 (lv_at hl 0 rfl) ?_
  refine lv_bipush (v := 20) hx hb dX15_feed_25 (by decide) ?_
  refine lv_icmp_ge (tgt := 120) hx hb dX15_feed_27 (by decide) (fun hc => absurd hc (by decide)) (fun _ => ?_)
  refine lv_iload hx hb dX15_feed_30 (lv_at hl 0 rfl) ?_
  refine lv_iconst (v := 4) hx hb dX15_feed_32 (by decide) ?_
  refine lv_icmp_ge (tgt := 40) hx hb dX15_feed_33 (by decide) (fun _ => ?_) (fun hc => absurd (by decide) hc)
  refine lv_iload hx hb dX15_feed_40 (lv_at hl 0 rfl) ?_
  refine lv_bipush (v := 8) hx hb dX15_feed_42 (by decide) ?_
  refine lv_icmp_ge (tgt := 51) hx hb dX15_feed_44 (by decide) (fun hc => absurd hc (by decide)) (fun _ => ?_)
  refine lv_iload_n hx hb dX15_feed_47 rfl (lv_at hl 4 rfl) ?_
  refine lv_goto (tgt := 76) hx hb dX15_feed_48 (by decide) ?_
  refine lv_istore (lv' := [(7, .int x1), (6, .int 7), (0, .ref h0), (1, .int x0), (2, .int x1), (3, .int x2), (4, .int x3), (5, .int x4)]) hx hb dX15_feed_76 hl (by decide) rfl (fun ls hl => ?_)
  refine lv_aload_n hx hb dX15_feed_78 rfl (lv_at hl 2 rfl) ?_
  refine va_get (D := (dC, dI)) (ci := 15) (v := .ref qfed) (C := RX15) (T := TX15) (N := 89) hx hb hts (in_m_feed_X15) hown hK hP 0 rfl rfl 26 (by decide) (hts (.fieldLink RX15 124 "MotionSignsModel" "fed" "[I") (List.mem_of_getElem? (i := 3) rfl)) (fun _ h9 => h9) (mF.get hF_h0 14 rfl) dX15_feed_79 ?_
  refine lv_aload_n hx hb dX15_feed_82 rfl (lv_at hl 2 rfl) ?_
  refine va_get (D := (dC, dI)) (ci := 15) (v := .int 7) (C := RX15) (T := TX15) (N := 89) hx hb hts (in_m_feed_X15) hown hK hP 0 rfl rfl 18 (by decide) (hts (.fieldLink RX15 299 "MotionSignsModel" "tape" "I") (List.mem_of_getElem? (i := 2) rfl)) (fun _ h9 => h9) (mF.get hF_h0 0 rfl) dX15_feed_83 ?_
  refine lv_iload hx hb dX15_feed_86 (lv_at hl 0 rfl) ?_
  refine lv_bipush (v := 24) hx hb dX15_feed_88 (by decide) ?_
  refine lv_bipush (v := 8) hx hb dX15_feed_90 (by decide) ?_
  refine lv_iload hx hb dX15_feed_92 (lv_at hl 1 rfl) ?_
  refine lv_iconst (v := 4) hx hb dX15_feed_94 (by decide) ?_
  refine lv_irem hx hb dX15_feed_95 (by decide) ?_
  refine lv_topi (fun v_59 ev_59 => ?_)
  have ev_59 : v_59 = 3 := ev_59.trans (by decide)
  subst ev_59
  refine lv_imul hx hb dX15_feed_96 ?_
  refine lv_topi (fun v_60 ev_60 => ?_)
  have ev_60 : v_60 = 24 := ev_60.trans (by decide)
  subst ev_60
  refine lv_isub hx hb dX15_feed_97 ?_
  refine lv_topi (fun v_61 ev_61 => ?_)
  have ev_61 : v_61 = 0 := ev_61.trans (by decide)
  subst ev_61
  refine lv_ishr hx hb dX15_feed_98 ?_
  refine lv_topi (fun v_62 ev_62 => ?_)
  refine lv_sipush (v := 255) hx hb dX15_feed_99 (by decide) ?_
  refine lv_iand hx hb dX15_feed_102 ?_
  refine lv_topi (fun v_63 ev_63 => ?_)
  refine va_iast hx hb hK hP hD hS 1 0 rfl rfl (by exact fun h => by rcases h with h | h <;> revert h <;> decide) dX15_feed_103 ?_
  clear hP hD hS; try clear H
  intro H locs hP hD hS
  have hPx := hP; have hDx := hD
  obtain ⟨f_64, hPx, hDx⟩ : ∃ g : Nat → Int32, va_P (dC, dI) vwCl [(h0, .inr (15, fs_58)), (qfed, .inl (ke, 200, .inl g))] H ∧ va_D A [(h0, .inr (15, fs_58)), (qfed, .inl (ke, 200, .inl g))] := ⟨_, hP, hD⟩
  replace hP := hPx; replace hD := hDx; clear hPx hDx
  replace hP : va_P (dC, dI) vwCl [(h0, .inr (15, fs_58)), (qfed, .inl (ke, 200, .inl f_64))] H := hP
  replace hD : va_D A [(h0, .inr (15, fs_58)), (qfed, .inl (ke, 200, .inl f_64))] := hD
  refine lv_aload_n hx hb dX15_feed_104 rfl (lv_at hl 2 rfl) ?_
  refine lv_dup hx hb dX15_feed_105 rfl ?_
  refine va_get (D := (dC, dI)) (ci := 15) (v := .int 7) (C := RX15) (T := TX15) (N := 89) hx hb hts (in_m_feed_X15) hown hK hP 0 rfl rfl 18 (by decide) (hts (.fieldLink RX15 299 "MotionSignsModel" "tape" "I") (List.mem_of_getElem? (i := 2) rfl)) (fun _ h9 => h9) (mF.get hF_h0 0 rfl) dX15_feed_106 ?_
  refine lv_iconst (v := 1) hx hb dX15_feed_109 (by decide) ?_
  refine lv_iadd hx hb dX15_feed_110 ?_
  refine lv_topi (fun v_65 ev_65 => ?_)
  have ev_65 : v_65 = 8 := ev_65.trans (by decide)
  subst ev_65
  refine va_put (D := (dC, dI)) (ci := 15) (v := .int 8) (ty := .int) (C := RX15) (T := TX15) (N := 89) hx hb hts (in_m_feed_X15) tyX15 tyX15_ok nmX15 hown hK hP hD hS 0 rfl rfl 18 (by decide) (hts (.fieldLink RX15 299 "MotionSignsModel" "tape" "I") (List.mem_of_getElem? (i := 2) rfl)) (fun _ h9 => h9) rfl (tyX15_ok 18 (by decide)) rfl rfl (mF.lt hF_h0 (by decide)) dX15_feed_111 ?_
  clear hP hD hS; try clear H
  intro H locs hP hD hS
  have hF0 := mF.sub (L' := [(0, .int 0), (19, .int 0), (20, .int (-1)), (21, .int 0), (22, .int 0), (23, .int 0), (24, .int 0), (25, .int 0), (27, .int 0), (28, .int 0), (29, .int 0), (35, .int 0), (17, .int (-1)), (26, .ref qfed), (30, .ref qf), (31, .ref qfd), (33, .ref qs), (36, .ref qk)]) hF_h0 [1, 2, 3, 4, 5, 6, 7, 8, 9, 10, 11, 12, 13, 14, 15, 16, 17, 18] rfl
  have hF1 := mF.put hF0 18 (.int 8) (by decide) rfl
  replace hP : va_P (dC, dI) vwCl [(h0, .inr (15, (fs_58.set 18 (.int 8)))), (qfed, .inl (ke, 200, .inl f_64))] H := hP
  replace hD : va_D A [(h0, .inr (15, (fs_58.set 18 (.int 8)))), (qfed, .inl (ke, 200, .inl f_64))] := hD
  generalize fs_58.set 18 (.int 8) = fs_66 at hP hD hF1
  replace hF_h0 : mF 89 [(18, .int 8), (0, .int 0), (19, .int 0), (20, .int (-1)), (21, .int 0), (22, .int 0), (23, .int 0), (24, .int 0), (25, .int 0), (27, .int 0), (28, .int 0), (29, .int 0), (35, .int 0), (17, .int (-1)), (26, .ref qfed), (30, .ref qf), (31, .ref qfd), (33, .ref qs), (36, .ref qk)] fs_66 := hF1
  clear hF1 hF0
  replace hP : va_P (dC, dI) vwCl [(h0, .inr (15, fs_66)), (qfed, .inl (ke, 200, .inl f_64))] H := hP
  replace hD : va_D A [(h0, .inr (15, fs_66)), (qfed, .inl (ke, 200, .inl f_64))] := hD
  refine lv_iinc (v := 8) (lv' := [(6, .int 8), (7, .int x1), (0, .ref h0), (1, .int x0), (2, .int x1), (3, .int x2), (4, .int x3), (5, .int x4)]) hx hb dX15_feed_114 hl (k := 1) rfl (by decide) (by decide) rfl (fun ls hl => ?_)
  refine lv_goto (tgt := 23) hx hb dX15_feed_117 (by decide) ?_
  refine lv_iload hx hb dX15_feed_23 (lv_at hl 0 rfl) ?_
  refine lv_bipush (v := 20) hx hb dX15_feed_25 (by decide) ?_
  refine lv_icmp_ge (tgt := 120) hx hb dX15_feed_27 (by decide) (fun hc => absurd hc (by decide)) (fun _ => ?_)
  refine lv_iload hx hb dX15_feed_30 (lv_at hl 0 rfl) ?_
  refine lv_iconst (v := 4) hx hb dX15_feed_32 (by decide) ?_
  refine lv_icmp_ge (tgt := 40) hx hb dX15_feed_33 (by decide) (fun _ => ?_) (fun hc => absurd (by decide) hc)
  refine lv_iload hx hb dX15_feed_40 (lv_at hl 0 rfl) ?_
  refine lv_bipush (v := 8) hx hb dX15_feed_42 (by decide) ?_
  refine lv_icmp_ge (tgt := 51) hx hb dX15_feed_44 (by decide) (fun _ => ?_) (fun hc => absurd (by decide) hc)
  refine lv_iload hx hb dX15_feed_51 (lv_at hl 0 rfl) ?_
  refine lv_bipush (v := 12) hx hb dX15_feed_53 (by decide) ?_
  refine lv_icmp_ge (tgt := 62) hx hb dX15_feed_55 (by decide) (fun hc => absurd hc (by decide)) (fun _ => ?_)
  refine lv_iload_n hx hb dX15_feed_58 rfl (lv_at hl 5 rfl) ?_
  refine lv_goto (tgt := 76) hx hb dX15_feed_59 (by decide) ?_
  refine lv_istore (lv' := [(7, .int x2), (6, .int 8), (0, .ref h0), (1, .int x0), (2, .int x1), (3, .int x2), (4, .int x3), (5, .int x4)]) hx hb dX15_feed_76 hl (by decide) rfl (fun ls hl => ?_)
  refine lv_aload_n hx hb dX15_feed_78 rfl (lv_at hl 2 rfl) ?_
  refine va_get (D := (dC, dI)) (ci := 15) (v := .ref qfed) (C := RX15) (T := TX15) (N := 89) hx hb hts (in_m_feed_X15) hown hK hP 0 rfl rfl 26 (by decide) (hts (.fieldLink RX15 124 "MotionSignsModel" "fed" "[I") (List.mem_of_getElem? (i := 3) rfl)) (fun _ h9 => h9) (mF.get hF_h0 14 rfl) dX15_feed_79 ?_
  refine lv_aload_n hx hb dX15_feed_82 rfl (lv_at hl 2 rfl) ?_
  refine va_get (D := (dC, dI)) (ci := 15) (v := .int 8) (C := RX15) (T := TX15) (N := 89) hx hb hts (in_m_feed_X15) hown hK hP 0 rfl rfl 18 (by decide) (hts (.fieldLink RX15 299 "MotionSignsModel" "tape" "I") (List.mem_of_getElem? (i := 2) rfl)) (fun _ h9 => h9) (mF.get hF_h0 0 rfl) dX15_feed_83 ?_
  refine lv_iload hx hb dX15_feed_86 (lv_at hl 0 rfl) ?_
  refine lv_bipush (v := 24) hx hb dX15_feed_88 (by decide) ?_
  refine lv_bipush (v := 8) hx hb dX15_feed_90 (by decide) ?_
  refine lv_iload hx hb dX15_feed_92 (lv_at hl 1 rfl) ?_
  refine lv_iconst (v := 4) hx hb dX15_feed_94 (by decide) ?_
  refine lv_irem hx hb dX15_feed_95 (by decide) ?_
  refine lv_topi (fun v_67 ev_67 => ?_)
  have ev_67 : v_67 = 0 := ev_67.trans (by decide)
  subst ev_67
  refine lv_imul hx hb dX15_feed_96 ?_
  refine lv_topi (fun v_68 ev_68 => ?_)
  have ev_68 : v_68 = 0 := ev_68.trans (by decide)
  subst ev_68
  refine lv_isub hx hb dX15_feed_97 ?_
  refine lv_topi (fun v_69 ev_69 => ?_)
  have ev_69 : v_69 = 24 := ev_69.trans (by decide)
  subst ev_69
  refine lv_ishr hx hb dX15_feed_98 ?_
  refine lv_topi (fun v_70 ev_70 => ?_)
  refine lv_sipush (v := 255) hx hb dX15_feed_99 (by decide) ?_
  refine lv_iand hx hb dX15_feed_102 ?_
  refine lv_topi (fun v_71 ev_71 => ?_)
  refine va_iast hx hb hK hP hD hS 1 0 rfl rfl (by exact fun h => by rcases h with h | h <;> revert h <;> decide) dX15_feed_103 ?_
  clear hP hD hS; try clear H
  intro H locs hP hD hS
  have hPx := hP; have hDx := hD
  obtain ⟨f_72, hPx, hDx⟩ : ∃ g : Nat → Int32, va_P (dC, dI) vwCl [(h0, .inr (15, fs_66)), (qfed, .inl (ke, 200, .inl g))] H ∧ va_D A [(h0, .inr (15, fs_66)), (qfed, .inl (ke, 200, .inl g))] := ⟨_, hP, hD⟩
  replace hP := hPx; replace hD := hDx; clear hPx hDx
  replace hP : va_P (dC, dI) vwCl [(h0, .inr (15, fs_66)), (qfed, .inl (ke, 200, .inl f_72))] H := hP
  replace hD : va_D A [(h0, .inr (15, fs_66)), (qfed, .inl (ke, 200, .inl f_72))] := hD
  refine lv_aload_n hx hb dX15_feed_104 rfl (lv_at hl 2 rfl) ?_
  refine lv_dup hx hb dX15_feed_105 rfl ?_
  refine va_get (D := (dC, dI)) (ci := 15) (v := .int 8) (C := RX15) (T := TX15) (N := 89) hx hb hts (in_m_feed_X15) hown hK hP 0 rfl rfl 18 (by decide) (hts (.fieldLink RX15 299 "MotionSignsModel" "tape" "I") (List.mem_of_getElem? (i := 2) rfl)) (fun _ h9 => h9) (mF.get hF_h0 0 rfl) dX15_feed_106 ?_
  refine lv_iconst (v := 1) hx hb dX15_feed_109 (by decide) ?_
  refine lv_iadd hx hb dX15_feed_110 ?_
  refine lv_topi (fun v_73 ev_73 => ?_)
  have ev_73 : v_73 = 9 := ev_73.trans (by decide)
  subst ev_73
  refine va_put (D := (dC, dI)) (ci := 15) (v := .int 9) (ty := .int) (C := RX15) (T := TX15) (N := 89) hx hb hts (in_m_feed_X15) tyX15 tyX15_ok nmX15 hown hK hP hD hS 0 rfl rfl 18 (by decide) (hts (.fieldLink RX15 299 "MotionSignsModel" "tape" "I") (List.mem_of_getElem? (i := 2) rfl)) (fun _ h9 => h9) rfl (tyX15_ok 18 (by decide)) rfl rfl (mF.lt hF_h0 (by decide)) dX15_feed_111 ?_
  clear hP hD hS; try clear H
  intro H locs hP hD hS
  have hF0 := mF.sub (L' := [(0, .int 0), (19, .int 0), (20, .int (-1)), (21, .int 0), (22, .int 0), (23, .int 0), (24, .int 0), (25, .int 0), (27, .int 0), (28, .int 0), (29, .int 0), (35, .int 0), (17, .int (-1)), (26, .ref qfed), (30, .ref qf), (31, .ref qfd), (33, .ref qs), (36, .ref qk)]) hF_h0 [1, 2, 3, 4, 5, 6, 7, 8, 9, 10, 11, 12, 13, 14, 15, 16, 17, 18] rfl
  have hF1 := mF.put hF0 18 (.int 9) (by decide) rfl
  replace hP : va_P (dC, dI) vwCl [(h0, .inr (15, (fs_66.set 18 (.int 9)))), (qfed, .inl (ke, 200, .inl f_72))] H := hP
  replace hD : va_D A [(h0, .inr (15, (fs_66.set 18 (.int 9)))), (qfed, .inl (ke, 200, .inl f_72))] := hD
  generalize fs_66.set 18 (.int 9) = fs_74 at hP hD hF1
  replace hF_h0 : mF 89 [(18, .int 9), (0, .int 0), (19, .int 0), (20, .int (-1)), (21, .int 0), (22, .int 0), (23, .int 0), (24, .int 0), (25, .int 0), (27, .int 0), (28, .int 0), (29, .int 0), (35, .int 0), (17, .int (-1)), (26, .ref qfed), (30, .ref qf), (31, .ref qfd), (33, .ref qs), (36, .ref qk)] fs_74 := hF1
  clear hF1 hF0
  replace hP : va_P (dC, dI) vwCl [(h0, .inr (15, fs_74)), (qfed, .inl (ke, 200, .inl f_72))] H := hP
  replace hD : va_D A [(h0, .inr (15, fs_74)), (qfed, .inl (ke, 200, .inl f_72))] := hD
  refine lv_iinc (v := 9) (lv' := [(6, .int 9), (7, .int x2), (0, .ref h0), (1, .int x0), (2, .int x1), (3, .int x2), (4, .int x3), (5, .int x4)]) hx hb dX15_feed_114 hl (k := 1) rfl (by decide) (by decide) rfl (fun ls hl => ?_)
  refine lv_goto (tgt := 23) hx hb dX15_feed_117 (by decide) ?_
  refine lv_iload hx hb dX15_feed_23 (lv_at hl 0 rfl) ?_
  refine lv_bipush (v := 20) hx hb dX15_feed_25 (by decide) ?_
  refine lv_icmp_ge (tgt := 120) hx hb dX15_feed_27 (by decide) (fun hc => absurd hc (by decide)) (fun _ => ?_)
  refine lv_iload hx hb dX15_feed_30 (lv_at hl 0 rfl) ?_
  refine lv_iconst (v := 4) hx hb dX15_feed_32 (by decide) ?_
  refine lv_icmp_ge (tgt := 40) hx hb dX15_feed_33 (by decide) (fun _ => ?_) (fun hc => absurd (by decide) hc)
  refine lv_iload hx hb dX15_feed_40 (lv_at hl 0 rfl) ?_
  refine lv_bipush (v := 8) hx hb dX15_feed_42 (by decide) ?_
  refine lv_icmp_ge (tgt := 51) hx hb dX15_feed_44 (by decide) (fun _ => ?_) (fun hc => absurd (by decide) hc)
  refine lv_iload hx hb dX15_feed_51 (lv_at hl 0 rfl) ?_
  refine lv_bipush (v := 12) hx hb dX15_feed_53 (by decide) ?_
  refine lv_icmp_ge (tgt := 62) hx hb dX15_feed_55 (by decide) (fun hc => absurd hc (by decide)) (fun _ => ?_)
  refine lv_iload_n hx hb dX15_feed_58 rfl (lv_at hl 5 rfl) ?_
  refine lv_goto (tgt := 76) hx hb dX15_feed_59 (by decide) ?_
  refine lv_istore (lv' := [(7, .int x2), (6, .int 9), (0, .ref h0), (1, .int x0), (2, .int x1), (3, .int x2), (4, .int x3), (5, .int x4)]) hx hb dX15_feed_76 hl (by decide) rfl (fun ls hl => ?_)
  refine lv_aload_n hx hb dX15_feed_78 rfl (lv_at hl 2 rfl) ?_
  refine va_get (D := (dC, dI)) (ci := 15) (v := .ref qfed) (C := RX15) (T := TX15) (N := 89) hx hb hts (in_m_feed_X15) hown hK hP 0 rfl rfl 26 (by decide) (hts (.fieldLink RX15 124 "MotionSignsModel" "fed" "[I") (List.mem_of_getElem? (i := 3) rfl)) (fun _ h9 => h9) (mF.get hF_h0 14 rfl) dX15_feed_79 ?_
  refine lv_aload_n hx hb dX15_feed_82 rfl (lv_at hl 2 rfl) ?_
  refine va_get (D := (dC, dI)) (ci := 15) (v := .int 9) (C := RX15) (T := TX15) (N := 89) hx hb hts (in_m_feed_X15) hown hK hP 0 rfl rfl 18 (by decide) (hts (.fieldLink RX15 299 "MotionSignsModel" "tape" "I") (List.mem_of_getElem? (i := 2) rfl)) (fun _ h9 => h9) (mF.get hF_h0 0 rfl) dX15_feed_83 ?_
  refine lv_iload hx hb dX15_feed_86 (lv_at hl 0 rfl) ?_
  refine lv_bipush (v := 24) hx hb dX15_feed_88 (by decide) ?_
  refine lv_bipush (v := 8) hx hb dX15_feed_90 (by decide) ?_
  refine lv_iload hx hb dX15_feed_92 (lv_at hl 1 rfl) ?_
  refine lv_iconst (v := 4) hx hb dX15_feed_94 (by decide) ?_
  refine lv_irem hx hb dX15_feed_95 (by decide) ?_
  refine lv_topi (fun v_75 ev_75 => ?_)
  have ev_75 : v_75 = 1 := ev_75.trans (by decide)
  subst ev_75
  refine lv_imul hx hb dX15_feed_96 ?_
  refine lv_topi (fun v_76 ev_76 => ?_)
  have ev_76 : v_76 = 8 := ev_76.trans (by decide)
  subst ev_76
  refine lv_isub hx hb dX15_feed_97 ?_
  refine lv_topi (fun v_77 ev_77 => ?_)
  have ev_77 : v_77 = 16 := ev_77.trans (by decide)
  subst ev_77
  refine lv_ishr hx hb dX15_feed_98 ?_
  refine lv_topi (fun v_78 ev_78 => ?_)
  refine lv_sipush (v := 255) hx hb dX15_feed_99 (by decide) ?_
  refine lv_iand hx hb dX15_feed_102 ?_
  refine lv_topi (fun v_79 ev_79 => ?_)
  refine va_iast hx hb hK hP hD hS 1 0 rfl rfl (by exact fun h => by rcases h with h | h <;> revert h <;> decide) dX15_feed_103 ?_
  clear hP hD hS; try clear H
  intro H locs hP hD hS
  have hPx := hP; have hDx := hD
  obtain ⟨f_80, hPx, hDx⟩ : ∃ g : Nat → Int32, va_P (dC, dI) vwCl [(h0, .inr (15, fs_74)), (qfed, .inl (ke, 200, .inl g))] H ∧ va_D A [(h0, .inr (15, fs_74)), (qfed, .inl (ke, 200, .inl g))] := ⟨_, hP, hD⟩
  replace hP := hPx; replace hD := hDx; clear hPx hDx
  replace hP : va_P (dC, dI) vwCl [(h0, .inr (15, fs_74)), (qfed, .inl (ke, 200, .inl f_80))] H := hP
  replace hD : va_D A [(h0, .inr (15, fs_74)), (qfed, .inl (ke, 200, .inl f_80))] := hD
  refine lv_aload_n hx hb dX15_feed_104 rfl (lv_at hl 2 rfl) ?_
  refine lv_dup hx hb dX15_feed_105 rfl ?_
  refine va_get (D := (dC, dI)) (ci := 15) (v := .int 9) (C := RX15) (T := TX15) (N := 89) hx hb hts (in_m_feed_X15) hown hK hP 0 rfl rfl 18 (by decide) (hts (.fieldLink RX15 299 "MotionSignsModel" "tape" "I") (List.mem_of_getElem? (i := 2) rfl)) (fun _ h9 => h9) (mF.get hF_h0 0 rfl) dX15_feed_106 ?_
  refine lv_iconst (v := 1) hx hb dX15_feed_109 (by decide) ?_
  refine lv_iadd hx hb dX15_feed_110 ?_
  refine lv_topi (fun v_81 ev_81 => ?_)
  have ev_81 : v_81 = 10 := ev_81.trans (by decide)
  subst ev_81
  refine va_put (D := (dC, dI)) (ci := 15) (v := .int 10) (ty := .int) (C := RX15) (T := TX15) (N := 89) hx hb hts (in_m_feed_X15) tyX15 tyX15_ok nmX15 hown hK hP hD hS 0 rfl rfl 18 (by decide) (hts (.fieldLink RX15 299 "MotionSignsModel" "tape" "I") (List.mem_of_getElem? (i := 2) rfl)) (fun _ h9 => h9) rfl (tyX15_ok 18 (by decide)) rfl rfl (mF.lt hF_h0 (by decide)) dX15_feed_111 ?_
  clear hP hD hS; try clear H
  intro H locs hP hD hS
  have hF0 := mF.sub (L' := [(0, .int 0), (19, .int 0), (20, .int (-1)), (21, .int 0), (22, .int 0), (23, .int 0), (24, .int 0), (25, .int 0), (27, .int 0), (28, .int 0), (29, .int 0), (35, .int 0), (17, .int (-1)), (26, .ref qfed), (30, .ref qf), (31, .ref qfd), (33, .ref qs), (36, .ref qk)]) hF_h0 [1, 2, 3, 4, 5, 6, 7, 8, 9, 10, 11, 12, 13, 14, 15, 16, 17, 18] rfl
  have hF1 := mF.put hF0 18 (.int 10) (by decide) rfl
  replace hP : va_P (dC, dI) vwCl [(h0, .inr (15, (fs_74.set 18 (.int 10)))), (qfed, .inl (ke, 200, .inl f_80))] H := hP
  replace hD : va_D A [(h0, .inr (15, (fs_74.set 18 (.int 10)))), (qfed, .inl (ke, 200, .inl f_80))] := hD
  generalize fs_74.set 18 (.int 10) = fs_82 at hP hD hF1
  replace hF_h0 : mF 89 [(18, .int 10), (0, .int 0), (19, .int 0), (20, .int (-1)), (21, .int 0), (22, .int 0), (23, .int 0), (24, .int 0), (25, .int 0), (27, .int 0), (28, .int 0), (29, .int 0), (35, .int 0), (17, .int (-1)), (26, .ref qfed), (30, .ref qf), (31, .ref qfd), (33, .ref qs), (36, .ref qk)] fs_82 := hF1
  clear hF1 hF0
  replace hP : va_P (dC, dI) vwCl [(h0, .inr (15, fs_82)), (qfed, .inl (ke, 200, .inl f_80))] H := hP
  replace hD : va_D A [(h0, .inr (15, fs_82)), (qfed, .inl (ke, 200, .inl f_80))] := hD
  refine lv_iinc (v := 10) (lv' := [(6, .int 10), (7, .int x2), (0, .ref h0), (1, .int x0), (2, .int x1), (3, .int x2), (4, .int x3), (5, .int x4)]) hx hb dX15_feed_114 hl (k := 1) rfl (by decide) (by decide) rfl (fun ls hl => ?_)
  refine lv_goto (tgt := 23) hx hb dX15_feed_117 (by decide) ?_
  refine lv_iload hx hb dX15_feed_23 (lv_at hl 0 rfl) ?_
  refine lv_bipush (v := 20) hx hb dX15_feed_25 (by decide) ?_
  refine lv_icmp_ge (tgt := 120) hx hb dX15_feed_27 (by decide) (fun hc => absurd hc (by decide)) (fun _ => ?_)
  refine lv_iload hx hb dX15_feed_30 (lv_at hl 0 rfl) ?_
  refine lv_iconst (v := 4) hx hb dX15_feed_32 (by decide) ?_
  refine lv_icmp_ge (tgt := 40) hx hb dX15_feed_33 (by decide) (fun _ => ?_) (fun hc => absurd (by decide) hc)
  refine lv_iload hx hb dX15_feed_40 (lv_at hl 0 rfl) ?_
  refine lv_bipush (v := 8) hx hb dX15_feed_42 (by decide) ?_
  refine lv_icmp_ge (tgt := 51) hx hb dX15_feed_44 (by decide) (fun _ => ?_) (fun hc => absurd (by decide) hc)
  refine lv_iload hx hb dX15_feed_51 (lv_at hl 0 rfl) ?_
  refine lv_bipush (v := 12) hx hb dX15_feed_53 (by decide) ?_
  refine lv_icmp_ge (tgt := 62) hx hb dX15_feed_55 (by decide) (fun hc => absurd hc (by decide)) (fun _ => ?_)
  refine lv_iload_n hx hb dX15_feed_58 rfl (lv_at hl 5 rfl) ?_
  refine lv_goto (tgt := 76) hx hb dX15_feed_59 (by decide) ?_
  refine lv_istore (lv' := [(7, .int x2), (6, .int 10), (0, .ref h0), (1, .int x0), (2, .int x1), (3, .int x2), (4, .int x3), (5, .int x4)]) hx hb dX15_feed_76 hl (by decide) rfl (fun ls hl => ?_)
  refine lv_aload_n hx hb dX15_feed_78 rfl (lv_at hl 2 rfl) ?_
  refine va_get (D := (dC, dI)) (ci := 15) (v := .ref qfed) (C := RX15) (T := TX15) (N := 89) hx hb hts (in_m_feed_X15) hown hK hP 0 rfl rfl 26 (by decide) (hts (.fieldLink RX15 124 "MotionSignsModel" "fed" "[I") (List.mem_of_getElem? (i := 3) rfl)) (fun _ h9 => h9) (mF.get hF_h0 14 rfl) dX15_feed_79 ?_
  refine lv_aload_n hx hb dX15_feed_82 rfl (lv_at hl 2 rfl) ?_
  refine va_get (D := (dC, dI)) (ci := 15) (v := .int 10) (C := RX15) (T := TX15) (N := 89) hx hb hts (in_m_feed_X15) hown hK hP 0 rfl rfl 18 (by decide) (hts (.fieldLink RX15 299 "MotionSignsModel" "tape" "I") (List.mem_of_getElem? (i := 2) rfl)) (fun _ h9 => h9) (mF.get hF_h0 0 rfl) dX15_feed_83 ?_
  refine lv_iload hx hb dX15_feed_86 (lv_at hl 0 rfl) ?_
  refine lv_bipush (v := 24) hx hb dX15_feed_88 (by decide) ?_
  refine lv_bipush (v := 8) hx hb dX15_feed_90 (by decide) ?_
  refine lv_iload hx hb dX15_feed_92 (lv_at hl 1 rfl) ?_
  refine lv_iconst (v := 4) hx hb dX15_feed_94 (by decide) ?_
  refine lv_irem hx hb dX15_feed_95 (by decide) ?_
  refine lv_topi (fun v_83 ev_83 => ?_)
  have ev_83 : v_83 = 2 := ev_83.trans (by decide)
  subst ev_83
  refine lv_imul hx hb dX15_feed_96 ?_
  refine lv_topi (fun v_84 ev_84 => ?_)
  have ev_84 : v_84 = 16 := ev_84.trans (by decide)
  subst ev_84
  refine lv_isub hx hb dX15_feed_97 ?_
  refine lv_topi (fun v_85 ev_85 => ?_)
  have ev_85 : v_85 = 8 := ev_85.trans (by decide)
  subst ev_85
  refine lv_ishr hx hb dX15_feed_98 ?_
  refine lv_topi (fun v_86 ev_86 => ?_)
  refine lv_sipush (v := 255) hx hb dX15_feed_99 (by decide) ?_
  refine lv_iand hx hb dX15_feed_102 ?_
  refine lv_topi (fun v_87 ev_87 => ?_)
  refine va_iast hx hb hK hP hD hS 1 0 rfl rfl (by exact fun h => by rcases h with h | h <;> revert h <;> decide) dX15_feed_103 ?_
  clear hP hD hS; try clear H
  intro H locs hP hD hS
  have hPx := hP; have hDx := hD
  obtain ⟨f_88, hPx, hDx⟩ : ∃ g : Nat → Int32, va_P (dC, dI) vwCl [(h0, .inr (15, fs_82)), (qfed, .inl (ke, 200, .inl g))] H ∧ va_D A [(h0, .inr (15, fs_82)), (qfed, .inl (ke, 200, .inl g))] := ⟨_, hP, hD⟩
  replace hP := hPx; replace hD := hDx; clear hPx hDx
  replace hP : va_P (dC, dI) vwCl [(h0, .inr (15, fs_82)), (qfed, .inl (ke, 200, .inl f_88))] H := hP
  replace hD : va_D A [(h0, .inr (15, fs_82)), (qfed, .inl (ke, 200, .inl f_88))] := hD
  refine lv_aload_n hx hb dX15_feed_104 rfl (lv_at hl 2 rfl) ?_
  refine lv_dup hx hb dX15_feed_105 rfl ?_
  refine va_get (D := (dC, dI)) (ci := 15) (v := .int 10) (C := RX15) (T := TX15) (N := 89) hx hb hts (in_m_feed_X15) hown hK hP 0 rfl rfl 18 (by decide) (hts (.fieldLink RX15 299 "MotionSignsModel" "tape" "I") (List.mem_of_getElem? (i := 2) rfl)) (fun _ h9 => h9) (mF.get hF_h0 0 rfl) dX15_feed_106 ?_
  refine lv_iconst (v := 1) hx hb dX15_feed_109 (by decide) ?_
  refine lv_iadd hx hb dX15_feed_110 ?_
  refine lv_topi (fun v_89 ev_89 => ?_)
  have ev_89 : v_89 = 11 := ev_89.trans (by decide)
  subst ev_89
  refine va_put (D := (dC, dI)) (ci := 15) (v := .int 11) (ty := .int) (C := RX15) (T := TX15) (N := 89) hx hb hts (in_m_feed_X15) tyX15 tyX15_ok nmX15 hown hK hP hD hS 0 rfl rfl 18 (by decide) (hts (.fieldLink RX15 299 "MotionSignsModel" "tape" "I") (List.mem_of_getElem? (i := 2) rfl)) (fun _ h9 => h9) rfl (tyX15_ok 18 (by decide)) rfl rfl (mF.lt hF_h0 (by decide)) dX15_feed_111 ?_
  clear hP hD hS; try clear H
  intro H locs hP hD hS
  have hF0 := mF.sub (L' := [(0, .int 0), (19, .int 0), (20, .int (-1)), (21, .int 0), (22, .int 0), (23, .int 0), (24, .int 0), (25, .int 0), (27, .int 0), (28, .int 0), (29, .int 0), (35, .int 0), (17, .int (-1)), (26, .ref qfed), (30, .ref qf), (31, .ref qfd), (33, .ref qs), (36, .ref qk)]) hF_h0 [1, 2, 3, 4, 5, 6, 7, 8, 9, 10, 11, 12, 13, 14, 15, 16, 17, 18] rfl
  have hF1 := mF.put hF0 18 (.int 11) (by decide) rfl
  replace hP : va_P (dC, dI) vwCl [(h0, .inr (15, (fs_82.set 18 (.int 11)))), (qfed, .inl (ke, 200, .inl f_88))] H := hP
  replace hD : va_D A [(h0, .inr (15, (fs_82.set 18 (.int 11)))), (qfed, .inl (ke, 200, .inl f_88))] := hD
  generalize fs_82.set 18 (.int 11) = fs_90 at hP hD hF1
  replace hF_h0 : mF 89 [(18, .int 11), (0, .int 0), (19, .int 0), (20, .int (-1)), (21, .int 0), (22, .int 0), (23, .int 0), (24, .int 0), (25, .int 0), (27, .int 0), (28, .int 0), (29, .int 0), (35, .int 0), (17, .int (-1)), (26, .ref qfed), (30, .ref qf), (31, .ref qfd), (33, .ref qs), (36, .ref qk)] fs_90 := hF1
  clear hF1 hF0
  replace hP : va_P (dC, dI) vwCl [(h0, .inr (15, fs_90)), (qfed, .inl (ke, 200, .inl f_88))] H := hP
  replace hD : va_D A [(h0, .inr (15, fs_90)), (qfed, .inl (ke, 200, .inl f_88))] := hD
  refine lv_iinc (v := 11) (lv' := [(6, .int 11), (7, .int x2), (0, .ref h0), (1, .int x0), (2, .int x1), (3, .int x2), (4, .int x3), (5, .int x4)]) hx hb dX15_feed_114 hl (k := 1) rfl (by decide) (by decide) rfl (fun ls hl => ?_)
  refine lv_goto (tgt := 23) hx hb dX15_feed_117 (by decide) ?_
  refine lv_iload hx hb dX15_feed_23 (lv_at hl 0 rfl) ?_
  refine lv_bipush (v := 20) hx hb dX15_feed_25 (by decide) ?_
  refine lv_icmp_ge (tgt := 120) hx hb dX15_feed_27 (by decide) (fun hc => absurd hc (by decide)) (fun _ => ?_)
  refine lv_iload hx hb dX15_feed_30 (lv_at hl 0 rfl) ?_
  refine lv_iconst (v := 4) hx hb dX15_feed_32 (by decide) ?_
  refine lv_icmp_ge (tgt := 40) hx hb dX15_feed_33 (by decide) (fun _ => ?_) (fun hc => absurd (by decide) hc)
  refine lv_iload hx hb dX15_feed_40 (lv_at hl 0 rfl) ?_
  refine lv_bipush (v := 8) hx hb dX15_feed_42 (by decide) ?_
  refine lv_icmp_ge (tgt := 51) hx hb dX15_feed_44 (by decide) (fun _ => ?_) (fun hc => absurd (by decide) hc)
  refine lv_iload hx hb dX15_feed_51 (lv_at hl 0 rfl) ?_
  refine lv_bipush (v := 12) hx hb dX15_feed_53 (by decide) ?_
  refine lv_icmp_ge (tgt := 62) hx hb dX15_feed_55 (by decide) (fun hc => absurd hc (by decide)) (fun _ => ?_)
  refine lv_iload_n hx hb dX15_feed_58 rfl (lv_at hl 5 rfl) ?_
  refine lv_goto (tgt := 76) hx hb dX15_feed_59 (by decide) ?_
  refine lv_istore (lv' := [(7, .int x2), (6, .int 11), (0, .ref h0), (1, .int x0), (2, .int x1), (3, .int x2), (4, .int x3), (5, .int x4)]) hx hb dX15_feed_76 hl (by decide) rfl (fun ls hl => ?_)
  refine lv_aload_n hx hb dX15_feed_78 rfl (lv_at hl 2 rfl) ?_
  refine va_get (D := (dC, dI)) (ci := 15) (v := .ref qfed) (C := RX15) (T := TX15) (N := 89) hx hb hts (in_m_feed_X15) hown hK hP 0 rfl rfl 26 (by decide) (hts (.fieldLink RX15 124 "MotionSignsModel" "fed" "[I") (List.mem_of_getElem? (i := 3) rfl)) (fun _ h9 => h9) (mF.get hF_h0 14 rfl) dX15_feed_79 ?_
  refine lv_aload_n hx hb dX15_feed_82 rfl (lv_at hl 2 rfl) ?_
  refine va_get (D := (dC, dI)) (ci := 15) (v := .int 11) (C := RX15) (T := TX15) (N := 89) hx hb hts (in_m_feed_X15) hown hK hP 0 rfl rfl 18 (by decide) (hts (.fieldLink RX15 299 "MotionSignsModel" "tape" "I") (List.mem_of_getElem? (i := 2) rfl)) (fun _ h9 => h9) (mF.get hF_h0 0 rfl) dX15_feed_83 ?_
  refine lv_iload hx hb dX15_feed_86 (lv_at hl 0 rfl) ?_
  refine lv_bipush (v := 24) hx hb dX15_feed_88 (by decide) ?_
  refine lv_bipush (v := 8) hx hb dX15_feed_90 (by decide) ?_
  refine lv_iload hx hb dX15_feed_92 (lv_at hl 1 rfl) ?_
  refine lv_iconst (v := 4) hx hb dX15_feed_94 (by decide) ?_
  refine lv_irem hx hb dX15_feed_95 (by decide) ?_
  refine lv_topi (fun v_91 ev_91 => ?_)
  have ev_91 : v_91 = 3 := ev_91.trans (by decide)
  subst ev_91
  refine lv_imul hx hb dX15_feed_96 ?_
  refine lv_topi (fun v_92 ev_92 => ?_)
  have ev_92 : v_92 = 24 := ev_92.trans (by decide)
  subst ev_92
  refine lv_isub hx hb dX15_feed_97 ?_
  refine lv_topi (fun v_93 ev_93 => ?_)
  have ev_93 : v_93 = 0 := ev_93.trans (by decide)
  subst ev_93
  refine lv_ishr hx hb dX15_feed_98 ?_
  refine lv_topi (fun v_94 ev_94 => ?_)
  refine lv_sipush (v := 255) hx hb dX15_feed_99 (by decide) ?_
  refine lv_iand hx hb dX15_feed_102 ?_
  refine lv_topi (fun v_95 ev_95 => ?_)
  refine va_iast hx hb hK hP hD hS 1 0 rfl rfl (by exact fun h => by rcases h with h | h <;> revert h <;> decide) dX15_feed_103 ?_
  clear hP hD hS; try clear H
  intro H locs hP hD hS
  have hPx := hP; have hDx := hD
  obtain ⟨f_96, hPx, hDx⟩ : ∃ g : Nat → Int32, va_P (dC, dI) vwCl [(h0, .inr (15, fs_90)), (qfed, .inl (ke, 200, .inl g))] H ∧ va_D A [(h0, .inr (15, fs_90)), (qfed, .inl (ke, 200, .inl g))] := ⟨_, hP, hD⟩
  replace hP := hPx; replace hD := hDx; clear hPx hDx
  replace hP : va_P (dC, dI) vwCl [(h0, .inr (15, fs_90)), (qfed, .inl (ke, 200, .inl f_96))] H := hP
  replace hD : va_D A [(h0, .inr (15, fs_90)), (qfed, .inl (ke, 200, .inl f_96))] := hD
  refine lv_aload_n hx hb dX15_feed_104 rfl (lv_at hl 2 rfl) ?_
  refine lv_dup hx hb dX15_feed_105 rfl ?_
  refine va_get (D := (dC, dI)) (ci := 15) (v := .int 11) (C := RX15) (T := TX15) (N := 89) hx hb hts (in_m_feed_X15) hown hK hP 0 rfl rfl 18 (by decide) (hts (.fieldLink RX15 299 "MotionSignsModel" "tape" "I") (List.mem_of_getElem? (i := 2) rfl)) (fun _ h9 => h9) (mF.get hF_h0 0 rfl) dX15_feed_106 ?_
  refine lv_iconst (v := 1) hx hb dX15_feed_109 (by decide) ?_
  refine lv_iadd hx hb dX15_feed_110 ?_
  refine lv_topi (fun v_97 ev_97 => ?_)
  have ev_97 : v_97 = 12 := ev_97.trans (by decide)
  subst ev_97
  refine va_put (D := (dC, dI)) (ci := 15) (v := .int 12) (ty := .int) (C := RX15) (T := TX15) (N := 89) hx hb hts (in_m_feed_X15) tyX15 tyX15_ok nmX15 hown hK hP hD hS 0 rfl rfl 18 (by decide) (hts (.fieldLink RX15 299 "MotionSignsModel" "tape" "I") (List.mem_of_getElem? (i := 2) rfl)) (fun _ h9 => h9) rfl (tyX15_ok 18 (by decide)) rfl rfl (mF.lt hF_h0 (by decide)) dX15_feed_111 ?_
  clear hP hD hS; try clear H
  intro H locs hP hD hS
  have hF0 := mF.sub (L' := [(0, .int 0), (19, .int 0), (20, .int (-1)), (21, .int 0), (22, .int 0), (23, .int 0), (24, .int 0), (25, .int 0), (27, .int 0), (28, .int 0), (29, .int 0), (35, .int 0), (17, .int (-1)), (26, .ref qfed), (30, .ref qf), (31, .ref qfd), (33, .ref qs), (36, .ref qk)]) hF_h0 [1, 2, 3, 4, 5, 6, 7, 8, 9, 10, 11, 12, 13, 14, 15, 16, 17, 18] rfl
  have hF1 := mF.put hF0 18 (.int 12) (by decide) rfl
  replace hP : va_P (dC, dI) vwCl [(h0, .inr (15, (fs_90.set 18 (.int 12)))), (qfed, .inl (ke, 200, .inl f_96))] H := hP
  replace hD : va_D A [(h0, .inr (15, (fs_90.set 18 (.int 12)))), (qfed, .inl (ke, 200, .inl f_96))] := hD
  generalize fs_90.set 18 (.int 12) = fs_98 at hP hD hF1
  replace hF_h0 : mF 89 [(18, .int 12), (0, .int 0), (19, .int 0), (20, .int (-1)), (21, .int 0), (22, .int 0), (23, .int 0), (24, .int 0), (25, .int 0), (27, .int 0), (28, .int 0), (29, .int 0), (35, .int 0), (17, .int (-1)), (26, .ref qfed), (30, .ref qf), (31, .ref qfd), (33, .ref qs), (36, .ref qk)] fs_98 := hF1
  clear hF1 hF0
  replace hP : va_P (dC, dI) vwCl [(h0, .inr (15, fs_98)), (qfed, .inl (ke, 200, .inl f_96))] H := hP
  replace hD : va_D A [(h0, .inr (15, fs_98)), (qfed, .inl (ke, 200, .inl f_96))] := hD
  refine lv_iinc (v := 12) (lv' := [(6, .int 12), (7, .int x2), (0, .ref h0), (1, .int x0), (2, .int x1), (3, .int x2), (4, .int x3), (5, .int x4)]) hx hb dX15_feed_114 hl (k := 1) rfl (by decide) (by decide) rfl (fun ls hl => ?_)
  refine lv_goto (tgt := 23) hx hb dX15_feed_117 (by decide) ?_
  refine lv_iload hx hb dX15_feed_23 (lv_at hl 0 rfl) ?_
  refine lv_bipush (v := 20) hx hb dX15_feed_25 (by decide) ?_
  refine lv_icmp_ge (tgt := 120) hx hb dX15_feed_27 (by decide) (fun hc => absurd hc (by decide)) (fun _ => ?_)
  refine lv_iload hx hb dX15_feed_30 (lv_at hl 0 rfl) ?_
  refine lv_iconst (v := 4) hx hb dX15_feed_32 (by decide) ?_
  refine lv_icmp_ge (tgt := 40) hx hb dX15_feed_33 (by decide) (fun _ => ?_) (fun hc => absurd (by decide) hc)
  refine lv_iload hx hb dX15_feed_40 (lv_at hl 0 rfl) ?_
  refine lv_bipush (v := 8) hx hb dX15_feed_42 (by decide) ?_
  refine lv_icmp_ge (tgt := 51) hx hb dX15_feed_44 (by decide) (fun _ => ?_) (fun hc => absurd (by decide) hc)
  refine lv_iload hx hb dX15_feed_51 (lv_at hl 0 rfl) ?_
  refine lv_bipush (v := 12) hx hb dX15_feed_53 (by decide) ?_
  refine lv_icmp_ge (tgt := 62) hx hb dX15_feed_55 (by decide) (fun _ => ?_) (fun hc => absurd (by decide) hc)
  refine lv_iload hx hb dX15_feed_62 (lv_at hl 0 rfl) ?_
  refine lv_bipush (v := 16) hx hb dX15_feed_64 (by decide) ?_
  refine lv_icmp_ge (tgt := 74) hx hb dX15_feed_66 (by decide) (fun hc => absurd hc (by decide)) (fun _ => ?_)
  refine lv_iload hx hb dX15_feed_69 (lv_at hl 6 rfl) ?_
  refine lv_goto (tgt := 76) hx hb dX15_feed_71 (by decide) ?_
  refine lv_istore (lv' := [(7, .int x3), (6, .int 12), (0, .ref h0), (1, .int x0), (2, .int x1), (3, .int x2), (4, .int x3), (5, .int x4)]) hx hb dX15_feed_76 hl (by decide) rfl (fun ls hl => ?_)
  refine lv_aload_n hx hb dX15_feed_78 rfl (lv_at hl 2 rfl) ?_
  refine va_get (D := (dC, dI)) (ci := 15) (v := .ref qfed) (C := RX15) (T := TX15) (N := 89) hx hb hts (in_m_feed_X15) hown hK hP 0 rfl rfl 26 (by decide) (hts (.fieldLink RX15 124 "MotionSignsModel" "fed" "[I") (List.mem_of_getElem? (i := 3) rfl)) (fun _ h9 => h9) (mF.get hF_h0 14 rfl) dX15_feed_79 ?_
  refine lv_aload_n hx hb dX15_feed_82 rfl (lv_at hl 2 rfl) ?_
  refine va_get (D := (dC, dI)) (ci := 15) (v := .int 12) (C := RX15) (T := TX15) (N := 89) hx hb hts (in_m_feed_X15) hown hK hP 0 rfl rfl 18 (by decide) (hts (.fieldLink RX15 299 "MotionSignsModel" "tape" "I") (List.mem_of_getElem? (i := 2) rfl)) (fun _ h9 => h9) (mF.get hF_h0 0 rfl) dX15_feed_83 ?_
  refine lv_iload hx hb dX15_feed_86 (lv_at hl 0 rfl) ?_
  refine lv_bipush (v := 24) hx hb dX15_feed_88 (by decide) ?_
  refine lv_bipush (v := 8) hx hb dX15_feed_90 (by decide) ?_
  refine lv_iload hx hb dX15_feed_92 (lv_at hl 1 rfl) ?_
  refine lv_iconst (v := 4) hx hb dX15_feed_94 (by decide) ?_
  refine lv_irem hx hb dX15_feed_95 (by decide) ?_
  refine lv_topi (fun v_99 ev_99 => ?_)
  have ev_99 : v_99 = 0 := ev_99.trans (by decide)
  subst ev_99
  refine lv_imul hx hb dX15_feed_96 ?_
  refine lv_topi (fun v_100 ev_100 => ?_)
  have ev_100 : v_100 = 0 := ev_100.trans (by decide)
  subst ev_100
  refine lv_isub hx hb dX15_feed_97 ?_
  refine lv_topi (fun v_101 ev_101 => ?_)
  have ev_101 : v_101 = 24 := ev_101.trans (by decide)
  subst ev_101
  refine lv_ishr hx hb dX15_feed_98 ?_
  refine lv_topi (fun v_102 ev_102 => ?_)
  refine lv_sipush (v := 255) hx hb dX15_feed_99 (by decide) ?_
  refine lv_iand hx hb dX15_feed_102 ?_
  refine lv_topi (fun v_103 ev_103 => ?_)
  refine va_iast hx hb hK hP hD hS 1 0 rfl rfl (by exact fun h => by rcases h with h | h <;> revert h <;> decide) dX15_feed_103 ?_
  clear hP hD hS; try clear H
  intro H locs hP hD hS
  have hPx := hP; have hDx := hD
  obtain ⟨f_104, hPx, hDx⟩ : ∃ g : Nat → Int32, va_P (dC, dI) vwCl [(h0, .inr (15, fs_98)), (qfed, .inl (ke, 200, .inl g))] H ∧ va_D A [(h0, .inr (15, fs_98)), (qfed, .inl (ke, 200, .inl g))] := ⟨_, hP, hD⟩
  replace hP := hPx; replace hD := hDx; clear hPx hDx
  replace hP : va_P (dC, dI) vwCl [(h0, .inr (15, fs_98)), (qfed, .inl (ke, 200, .inl f_104))] H := hP
  replace hD : va_D A [(h0, .inr (15, fs_98)), (qfed, .inl (ke, 200, .inl f_104))] := hD
  refine lv_aload_n hx hb dX15_feed_104 rfl (lv_at hl 2 rfl) ?_
  refine lv_dup hx hb dX15_feed_105 rfl ?_
  refine va_get (D := (dC, dI)) (ci := 15) (v := .int 12) (C := RX15) (T := TX15) (N := 89) hx hb hts (in_m_feed_X15) hown hK hP 0 rfl rfl 18 (by decide) (hts (.fieldLink RX15 299 "MotionSignsModel" "tape" "I") (List.mem_of_getElem? (i := 2) rfl)) (fun _ h9 => h9) (mF.get hF_h0 0 rfl) dX15_feed_106 ?_
  refine lv_iconst (v := 1) hx hb dX15_feed_109 (by decide) ?_
  refine lv_iadd hx hb dX15_feed_110 ?_
  refine lv_topi (fun v_105 ev_105 => ?_)
  have ev_105 : v_105 = 13 := ev_105.trans (by decide)
  subst ev_105
  refine va_put (D := (dC, dI)) (ci := 15) (v := .int 13) (ty := .int) (C := RX15) (T := TX15) (N := 89) hx hb hts (in_m_feed_X15) tyX15 tyX15_ok nmX15 hown hK hP hD hS 0 rfl rfl 18 (by decide) (hts (.fieldLink RX15 299 "MotionSignsModel" "tape" "I") (List.mem_of_getElem? (i := 2) rfl)) (fun _ h9 => h9) rfl (tyX15_ok 18 (by decide)) rfl rfl (mF.lt hF_h0 (by decide)) dX15_feed_111 ?_
  clear hP hD hS; try clear H
  intro H locs hP hD hS
  have hF0 := mF.sub (L' := [(0, .int 0), (19, .int 0), (20, .int (-1)), (21, .int 0), (22, .int 0), (23, .int 0), (24, .int 0), (25, .int 0), (27, .int 0), (28, .int 0), (29, .int 0), (35, .int 0), (17, .int (-1)), (26, .ref qfed), (30, .ref qf), (31, .ref qfd), (33, .ref qs), (36, .ref qk)]) hF_h0 [1, 2, 3, 4, 5, 6, 7, 8, 9, 10, 11, 12, 13, 14, 15, 16, 17, 18] rfl
  have hF1 := mF.put hF0 18 (.int 13) (by decide) rfl
  replace hP : va_P (dC, dI) vwCl [(h0, .inr (15, (fs_98.set 18 (.int 13)))), (qfed, .inl (ke, 200, .inl f_104))] H := hP
  replace hD : va_D A [(h0, .inr (15, (fs_98.set 18 (.int 13)))), (qfed, .inl (ke, 200, .inl f_104))] := hD
  generalize fs_98.set 18 (.int 13) = fs_106 at hP hD hF1
  replace hF_h0 : mF 89 [(18, .int 13), (0, .int 0), (19, .int 0), (20, .int (-1)), (21, .int 0), (22, .int 0), (23, .int 0), (24, .int 0), (25, .int 0), (27, .int 0), (28, .int 0), (29, .int 0), (35, .int 0), (17, .int (-1)), (26, .ref qfed), (30, .ref qf), (31, .ref qfd), (33, .ref qs), (36, .ref qk)] fs_106 := hF1
  clear hF1 hF0
  replace hP : va_P (dC, dI) vwCl [(h0, .inr (15, fs_106)), (qfed, .inl (ke, 200, .inl f_104))] H := hP
  replace hD : va_D A [(h0, .inr (15, fs_106)), (qfed, .inl (ke, 200, .inl f_104))] := hD
  refine lv_iinc (v := 13) (lv' := [(6, .int 13), (7, .int x3), (0, .ref h0), (1, .int x0), (2, .int x1), (3, .int x2), (4, .int x3), (5, .int x4)]) hx hb dX15_feed_114 hl (k := 1) rfl (by decide) (by decide) rfl (fun ls hl => ?_)
  refine lv_goto (tgt := 23) hx hb dX15_feed_117 (by decide) ?_
  refine lv_iload hx hb dX15_feed_23 (lv_at hl 0 rfl) ?_
  refine lv_bipush (v := 20) hx hb dX15_feed_25 (by decide) ?_
  refine lv_icmp_ge (tgt := 120) hx hb dX15_feed_27 (by decide) (fun hc => absurd hc (by decide)) (fun _ => ?_)
  refine lv_iload hx hb dX15_feed_30 (lv_at hl 0 rfl) ?_
  refine lv_iconst (v := 4) hx hb dX15_feed_32 (by decide) ?_
  refine lv_icmp_ge (tgt := 40) hx hb dX15_feed_33 (by decide) (fun _ => ?_) (fun hc => absurd (by decide) hc)
  refine lv_iload hx hb dX15_feed_40 (lv_at hl 0 rfl) ?_
  refine lv_bipush (v := 8) hx hb dX15_feed_42 (by decide) ?_
  refine lv_icmp_ge (tgt := 51) hx hb dX15_feed_44 (by decide) (fun _ => ?_) (fun hc => absurd (by decide) hc)
  refine lv_iload hx hb dX15_feed_51 (lv_at hl 0 rfl) ?_
  refine lv_bipush (v := 12) hx hb dX15_feed_53 (by decide) ?_
  refine lv_icmp_ge (tgt := 62) hx hb dX15_feed_55 (by decide) (fun _ => ?_) (fun hc => absurd (by decide) hc)
  refine lv_iload hx hb dX15_feed_62 (lv_at hl 0 rfl) ?_
  refine lv_bipush (v := 16) hx hb dX15_feed_64 (by decide) ?_
  refine lv_icmp_ge (tgt := 74) hx hb dX15_feed_66 (by decide) (fun hc => absurd hc (by decide)) (fun _ => ?_)
  refine lv_iload hx hb dX15_feed_69 (lv_at hl 6 rfl) ?_
  refine lv_goto (tgt := 76) hx hb dX15_feed_71 (by decide) ?_
  refine lv_istore (lv' := [(7, .int x3), (6, .int 13), (0, .ref h0), (1, .int x0), (2, .int x1), (3, .int x2), (4, .int x3), (5, .int x4)]) hx hb dX15_feed_76 hl (by decide) rfl (fun ls hl => ?_)
  refine lv_aload_n hx hb dX15_feed_78 rfl (lv_at hl 2 rfl) ?_
  refine va_get (D := (dC, dI)) (ci := 15) (v := .ref qfed) (C := RX15) (T := TX15) (N := 89) hx hb hts (in_m_feed_X15) hown hK hP 0 rfl rfl 26 (by decide) (hts (.fieldLink RX15 124 "MotionSignsModel" "fed" "[I") (List.mem_of_getElem? (i := 3) rfl)) (fun _ h9 => h9) (mF.get hF_h0 14 rfl) dX15_feed_79 ?_
  refine lv_aload_n hx hb dX15_feed_82 rfl (lv_at hl 2 rfl) ?_
  refine va_get (D := (dC, dI)) (ci := 15) (v := .int 13) (C := RX15) (T := TX15) (N := 89) hx hb hts (in_m_feed_X15) hown hK hP 0 rfl rfl 18 (by decide) (hts (.fieldLink RX15 299 "MotionSignsModel" "tape" "I") (List.mem_of_getElem? (i := 2) rfl)) (fun _ h9 => h9) (mF.get hF_h0 0 rfl) dX15_feed_83 ?_
  refine lv_iload hx hb dX15_feed_86 (lv_at hl 0 rfl) ?_
  refine lv_bipush (v := 24) hx hb dX15_feed_88 (by decide) ?_
  refine lv_bipush (v := 8) hx hb dX15_feed_90 (by decide) ?_
  refine lv_iload hx hb dX15_feed_92 (lv_at hl 1 rfl) ?_
  refine lv_iconst (v := 4) hx hb dX15_feed_94 (by decide) ?_
  refine lv_irem hx hb dX15_feed_95 (by decide) ?_
  refine lv_topi (fun v_107 ev_107 => ?_)
  have ev_107 : v_107 = 1 := ev_107.trans (by decide)
  subst ev_107
  refine lv_imul hx hb dX15_feed_96 ?_
  refine lv_topi (fun v_108 ev_108 => ?_)
  have ev_108 : v_108 = 8 := ev_108.trans (by decide)
  subst ev_108
  refine lv_isub hx hb dX15_feed_97 ?_
  refine lv_topi (fun v_109 ev_109 => ?_)
  have ev_109 : v_109 = 16 := ev_109.trans (by decide)
  subst ev_109
  refine lv_ishr hx hb dX15_feed_98 ?_
  refine lv_topi (fun v_110 ev_110 => ?_)
  refine lv_sipush (v := 255) hx hb dX15_feed_99 (by decide) ?_
  refine lv_iand hx hb dX15_feed_102 ?_
  refine lv_topi (fun v_111 ev_111 => ?_)
  refine va_iast hx hb hK hP hD hS 1 0 rfl rfl (by exact fun h => by rcases h with h | h <;> revert h <;> decide) dX15_feed_103 ?_
  clear hP hD hS; try clear H
  intro H locs hP hD hS
  have hPx := hP; have hDx := hD
  obtain ⟨f_112, hPx, hDx⟩ : ∃ g : Nat → Int32, va_P (dC, dI) vwCl [(h0, .inr (15, fs_106)), (qfed, .inl (ke, 200, .inl g))] H ∧ va_D A [(h0, .inr (15, fs_106)), (qfed, .inl (ke, 200, .inl g))] := ⟨_, hP, hD⟩
  replace hP := hPx; replace hD := hDx; clear hPx hDx
  replace hP : va_P (dC, dI) vwCl [(h0, .inr (15, fs_106)), (qfed, .inl (ke, 200, .inl f_112))] H := hP
  replace hD : va_D A [(h0, .inr (15, fs_106)), (qfed, .inl (ke, 200, .inl f_112))] := hD
  refine lv_aload_n hx hb dX15_feed_104 rfl (lv_at hl 2 rfl) ?_
  refine lv_dup hx hb dX15_feed_105 rfl ?_
  refine va_get (D := (dC, dI)) (ci := 15) (v := .int 13) (C := RX15) (T := TX15) (N := 89) hx hb hts (in_m_feed_X15) hown hK hP 0 rfl rfl 18 (by decide) (hts (.fieldLink RX15 299 "MotionSignsModel" "tape" "I") (List.mem_of_getElem? (i := 2) rfl)) (fun _ h9 => h9) (mF.get hF_h0 0 rfl) dX15_feed_106 ?_
  refine lv_iconst (v := 1) hx hb dX15_feed_109 (by decide) ?_
  refine lv_iadd hx hb dX15_feed_110 ?_
  refine lv_topi (fun v_113 ev_113 => ?_)
  have ev_113 : v_113 = 14 := ev_113.trans (by decide)
  subst ev_113
  refine va_put (D := (dC, dI)) (ci := 15) (v := .int 14) (ty := .int) (C := RX15) (T := TX15) (N := 89) hx hb hts (in_m_feed_X15) tyX15 tyX15_ok nmX15 hown hK hP hD hS 0 rfl rfl 18 (by decide) (hts (.fieldLink RX15 299 "MotionSignsModel" "tape" "I") (List.mem_of_getElem? (i := 2) rfl)) (fun _ h9 => h9) rfl (tyX15_ok 18 (by decide)) rfl rfl (mF.lt hF_h0 (by decide)) dX15_feed_111 ?_
  clear hP hD hS; try clear H
  intro H locs hP hD hS
  have hF0 := mF.sub (L' := [(0, .int 0), (19, .int 0), (20, .int (-1)), (21, .int 0), (22, .int 0), (23, .int 0), (24, .int 0), (25, .int 0), (27, .int 0), (28, .int 0), (29, .int 0), (35, .int 0), (17, .int (-1)), (26, .ref qfed), (30, .ref qf), (31, .ref qfd), (33, .ref qs), (36, .ref qk)]) hF_h0 [1, 2, 3, 4, 5, 6, 7, 8, 9, 10, 11, 12, 13, 14, 15, 16, 17, 18] rfl
  have hF1 := mF.put hF0 18 (.int 14) (by decide) rfl
  replace hP : va_P (dC, dI) vwCl [(h0, .inr (15, (fs_106.set 18 (.int 14)))), (qfed, .inl (ke, 200, .inl f_112))] H := hP
  replace hD : va_D A [(h0, .inr (15, (fs_106.set 18 (.int 14)))), (qfed, .inl (ke, 200, .inl f_112))] := hD
  generalize fs_106.set 18 (.int 14) = fs_114 at hP hD hF1
  replace hF_h0 : mF 89 [(18, .int 14), (0, .int 0), (19, .int 0), (20, .int (-1)), (21, .int 0), (22, .int 0), (23, .int 0), (24, .int 0), (25, .int 0), (27, .int 0), (28, .int 0), (29, .int 0), (35, .int 0), (17, .int (-1)), (26, .ref qfed), (30, .ref qf), (31, .ref qfd), (33, .ref qs), (36, .ref qk)] fs_114 := hF1
  clear hF1 hF0
  replace hP : va_P (dC, dI) vwCl [(h0, .inr (15, fs_114)), (qfed, .inl (ke, 200, .inl f_112))] H := hP
  replace hD : va_D A [(h0, .inr (15, fs_114)), (qfed, .inl (ke, 200, .inl f_112))] := hD
  refine lv_iinc (v := 14) (lv' := [(6, .int 14), (7, .int x3), (0, .ref h0), (1, .int x0), (2, .int x1), (3, .int x2), (4, .int x3), (5, .int x4)]) hx hb dX15_feed_114 hl (k := 1) rfl (by decide) (by decide) rfl (fun ls hl => ?_)
  refine lv_goto (tgt := 23) hx hb dX15_feed_117 (by decide) ?_
  refine lv_iload hx hb dX15_feed_23 (lv_at hl 0 rfl) ?_
  refine lv_bipush (v := 20) hx hb dX15_feed_25 (by decide) ?_
  refine lv_icmp_ge (tgt := 120) hx hb dX15_feed_27 (by decide) (fun hc => absurd hc (by decide)) (fun _ => ?_)
  refine lv_iload hx hb dX15_feed_30 (lv_at hl 0 rfl) ?_
  refine lv_iconst (v := 4) hx hb dX15_feed_32 (by decide) ?_
  refine lv_icmp_ge (tgt := 40) hx hb dX15_feed_33 (by decide) (fun _ => ?_) (fun hc => absurd (by decide) hc)
  refine lv_iload hx hb dX15_feed_40 (lv_at hl 0 rfl) ?_
  refine lv_bipush (v := 8) hx hb dX15_feed_42 (by decide) ?_
  refine lv_icmp_ge (tgt := 51) hx hb dX15_feed_44 (by decide) (fun _ => ?_) (fun hc => absurd (by decide) hc)
  refine lv_iload hx hb dX15_feed_51 (lv_at hl 0 rfl) ?_
  refine lv_bipush (v := 12) hx hb dX15_feed_53 (by decide) ?_
  refine lv_icmp_ge (tgt := 62) hx hb dX15_feed_55 (by decide) (fun _ => ?_) (fun hc => absurd (by decide) hc)
  refine lv_iload hx hb dX15_feed_62 (lv_at hl 0 rfl) ?_
  refine lv_bipush (v := 16) hx hb dX15_feed_64 (by decide) ?_
  refine lv_icmp_ge (tgt := 74) hx hb dX15_feed_66 (by decide) (fun hc => absurd hc (by decide)) (fun _ => ?_)
  refine lv_iload hx hb dX15_feed_69 (lv_at hl 6 rfl) ?_
  refine lv_goto (tgt := 76) hx hb dX15_feed_71 (by decide) ?_
  refine lv_istore (lv' := [(7, .int x3), (6, .int 14), (0, .ref h0), (1, .int x0), (2, .int x1), (3, .int x2), (4, .int x3), (5, .int x4)]) hx hb dX15_feed_76 hl (by decide) rfl (fun ls hl => ?_)
  refine lv_aload_n hx hb dX15_feed_78 rfl (lv_at hl 2 rfl) ?_
  refine va_get (D := (dC, dI)) (ci := 15) (v := .ref qfed) (C := RX15) (T := TX15) (N := 89) hx hb hts (in_m_feed_X15) hown hK hP 0 rfl rfl 26 (by decide) (hts (.fieldLink RX15 124 "MotionSignsModel" "fed" "[I") (List.mem_of_getElem? (i := 3) rfl)) (fun _ h9 => h9) (mF.get hF_h0 14 rfl) dX15_feed_79 ?_
  refine lv_aload_n hx hb dX15_feed_82 rfl (lv_at hl 2 rfl) ?_
  refine va_get (D := (dC, dI)) (ci := 15) (v := .int 14) (C := RX15) (T := TX15) (N := 89) hx hb hts (in_m_feed_X15) hown hK hP 0 rfl rfl 18 (by decide) (hts (.fieldLink RX15 299 "MotionSignsModel" "tape" "I") (List.mem_of_getElem? (i := 2) rfl)) (fun _ h9 => h9) (mF.get hF_h0 0 rfl) dX15_feed_83 ?_
  refine lv_iload hx hb dX15_feed_86 (lv_at hl 0 rfl) ?_
  refine lv_bipush (v := 24) hx hb dX15_feed_88 (by decide) ?_
  refine lv_bipush (v := 8) hx hb dX15_feed_90 (by decide) ?_
  refine lv_iload hx hb dX15_feed_92 (lv_at hl 1 rfl) ?_
  refine lv_iconst (v := 4) hx hb dX15_feed_94 (by decide) ?_
  refine lv_irem hx hb dX15_feed_95 (by decide) ?_
  refine lv_topi (fun v_115 ev_115 => ?_)
  have ev_115 : v_115 = 2 := ev_115.trans (by decide)
  subst ev_115
  refine lv_imul hx hb dX15_feed_96 ?_
  refine lv_topi (fun v_116 ev_116 => ?_)
  have ev_116 : v_116 = 16 := ev_116.trans (by decide)
  subst ev_116
  refine lv_isub hx hb dX15_feed_97 ?_
  refine lv_topi (fun v_117 ev_117 => ?_)
  have ev_117 : v_117 = 8 := ev_117.trans (by decide)
  subst ev_117
  refine lv_ishr hx hb dX15_feed_98 ?_
  refine lv_topi (fun v_118 ev_118 => ?_)
  refine lv_sipush (v := 255) hx hb dX15_feed_99 (by decide) ?_
  refine lv_iand hx hb dX15_feed_102 ?_
  refine lv_topi (fun v_119 ev_119 => ?_)
  refine va_iast hx hb hK hP hD hS 1 0 rfl rfl (by exact fun h => by rcases h with h | h <;> revert h <;> decide) dX15_feed_103 ?_
  clear hP hD hS; try clear H
  intro H locs hP hD hS
  have hPx := hP; have hDx := hD
  obtain ⟨f_120, hPx, hDx⟩ : ∃ g : Nat → Int32, va_P (dC, dI) vwCl [(h0, .inr (15, fs_114)), (qfed, .inl (ke, 200, .inl g))] H ∧ va_D A [(h0, .inr (15, fs_114)), (qfed, .inl (ke, 200, .inl g))] := ⟨_, hP, hD⟩
  replace hP := hPx; replace hD := hDx; clear hPx hDx
  replace hP : va_P (dC, dI) vwCl [(h0, .inr (15, fs_114)), (qfed, .inl (ke, 200, .inl f_120))] H := hP
  replace hD : va_D A [(h0, .inr (15, fs_114)), (qfed, .inl (ke, 200, .inl f_120))] := hD
  refine lv_aload_n hx hb dX15_feed_104 rfl (lv_at hl 2 rfl) ?_
  refine lv_dup hx hb dX15_feed_105 rfl ?_
  refine va_get (D := (dC, dI)) (ci := 15) (v := .int 14) (C := RX15) (T := TX15) (N := 89) hx hb hts (in_m_feed_X15) hown hK hP 0 rfl rfl 18 (by decide) (hts (.fieldLink RX15 299 "MotionSignsModel" "tape" "I") (List.mem_of_getElem? (i := 2) rfl)) (fun _ h9 => h9) (mF.get hF_h0 0 rfl) dX15_feed_106 ?_
  refine lv_iconst (v := 1) hx hb dX15_feed_109 (by decide) ?_
  refine lv_iadd hx hb dX15_feed_110 ?_
  refine lv_topi (fun v_121 ev_121 => ?_)
  have ev_121 : v_121 = 15 := ev_121.trans (by decide)
  subst ev_121
  refine va_put (D := (dC, dI)) (ci := 15) (v := .int 15) (ty := .int) (C := RX15) (T := TX15) (N := 89) hx hb hts (in_m_feed_X15) tyX15 tyX15_ok nmX15 hown hK hP hD hS 0 rfl rfl 18 (by decide) (hts (.fieldLink RX15 299 "MotionSignsModel" "tape" "I") (List.mem_of_getElem? (i := 2) rfl)) (fun _ h9 => h9) rfl (tyX15_ok 18 (by decide)) rfl rfl (mF.lt hF_h0 (by decide)) dX15_feed_111 ?_
  clear hP hD hS; try clear H
  intro H locs hP hD hS
  have hF0 := mF.sub (L' := [(0, .int 0), (19, .int 0), (20, .int (-1)), (21, .int 0), (22, .int 0), (23, .int 0), (24, .int 0), (25, .int 0), (27, .int 0), (28, .int 0), (29, .int 0), (35, .int 0), (17, .int (-1)), (26, .ref qfed), (30, .ref qf), (31, .ref qfd), (33, .ref qs), (36, .ref qk)]) hF_h0 [1, 2, 3, 4, 5, 6, 7, 8, 9, 10, 11, 12, 13, 14, 15, 16, 17, 18] rfl
  have hF1 := mF.put hF0 18 (.int 15) (by decide) rfl
  replace hP : va_P (dC, dI) vwCl [(h0, .inr (15, (fs_114.set 18 (.int 15)))), (qfed, .inl (ke, 200, .inl f_120))] H := hP
  replace hD : va_D A [(h0, .inr (15, (fs_114.set 18 (.int 15)))), (qfed, .inl (ke, 200, .inl f_120))] := hD
  generalize fs_114.set 18 (.int 15) = fs_122 at hP hD hF1
  replace hF_h0 : mF 89 [(18, .int 15), (0, .int 0), (19, .int 0), (20, .int (-1)), (21, .int 0), (22, .int 0), (23, .int 0), (24, .int 0), (25, .int 0), (27, .int 0), (28, .int 0), (29, .int 0), (35, .int 0), (17, .int (-1)), (26, .ref qfed), (30, .ref qf), (31, .ref qfd), (33, .ref qs), (36, .ref qk)] fs_122 := hF1
  clear hF1 hF0
  replace hP : va_P (dC, dI) vwCl [(h0, .inr (15, fs_122)), (qfed, .inl (ke, 200, .inl f_120))] H := hP
  replace hD : va_D A [(h0, .inr (15, fs_122)), (qfed, .inl (ke, 200, .inl f_120))] := hD
  refine lv_iinc (v := 15) (lv' := [(6, .int 15), (7, .int x3), (0, .ref h0), (1, .int x0), (2, .int x1), (3, .int x2), (4, .int x3), (5, .int x4)]) hx hb dX15_feed_114 hl (k := 1) rfl (by decide) (by decide) rfl (fun ls hl => ?_)
  refine lv_goto (tgt := 23) hx hb dX15_feed_117 (by decide) ?_
  refine lv_iload hx hb dX15_feed_23 (lv_at hl 0 rfl) ?_
  refine lv_bipush (v := 20) hx hb dX15_feed_25 (by decide) ?_
  refine lv_icmp_ge (tgt := 120) hx hb dX15_feed_27 (by decide) (fun hc => absurd hc (by decide)) (fun _ => ?_)
  refine lv_iload hx hb dX15_feed_30 (lv_at hl 0 rfl) ?_
  refine lv_iconst (v := 4) hx hb dX15_feed_32 (by decide) ?_
  refine lv_icmp_ge (tgt := 40) hx hb dX15_feed_33 (by decide) (fun _ => ?_) (fun hc => absurd (by decide) hc)
  refine lv_iload hx hb dX15_feed_40 (lv_at hl 0 rfl) ?_
  refine lv_bipush (v := 8) hx hb dX15_feed_42 (by decide) ?_
  refine lv_icmp_ge (tgt := 51) hx hb dX15_feed_44 (by decide) (fun _ => ?_) (fun hc => absurd (by decide) hc)
  refine lv_iload hx hb dX15_feed_51 (lv_at hl 0 rfl) ?_
  refine lv_bipush (v := 12) hx hb dX15_feed_53 (by decide) ?_
  refine lv_icmp_ge (tgt := 62) hx hb dX15_feed_55 (by decide) (fun _ => ?_) (fun hc => absurd (by decide) hc)
  refine lv_iload hx hb dX15_feed_62 (lv_at hl 0 rfl) ?_
  refine lv_bipush (v := 16) hx hb dX15_feed_64 (by decide) ?_
  refine lv_icmp_ge (tgt := 74) hx hb dX15_feed_66 (by decide) (fun hc => absurd hc (by decide)) (fun _ => ?_)
  refine lv_iload hx hb dX15_feed_69 (lv_at hl 6 rfl) ?_
  refine lv_goto (tgt := 76) hx hb dX15_feed_71 (by decide) ?_
  refine lv_istore (lv' := [(7, .int x3), (6, .int 15), (0, .ref h0), (1, .int x0), (2, .int x1), (3, .int x2), (4, .int x3), (5, .int x4)]) hx hb dX15_feed_76 hl (by decide) rfl (fun ls hl => ?_)
  refine lv_aload_n hx hb dX15_feed_78 rfl (lv_at hl 2 rfl) ?_
  refine va_get (D := (dC, dI)) (ci := 15) (v := .ref qfed) (C := RX15) (T := TX15) (N := 89) hx hb hts (in_m_feed_X15) hown hK hP 0 rfl rfl 26 (by decide) (hts (.fieldLink RX15 124 "MotionSignsModel" "fed" "[I") (List.mem_of_getElem? (i := 3) rfl)) (fun _ h9 => h9) (mF.get hF_h0 14 rfl) dX15_feed_79 ?_
  refine lv_aload_n hx hb dX15_feed_82 rfl (lv_at hl 2 rfl) ?_
  refine va_get (D := (dC, dI)) (ci := 15) (v := .int 15) (C := RX15) (T := TX15) (N := 89) hx hb hts (in_m_feed_X15) hown hK hP 0 rfl rfl 18 (by decide) (hts (.fieldLink RX15 299 "MotionSignsModel" "tape" "I") (List.mem_of_getElem? (i := 2) rfl)) (fun _ h9 => h9) (mF.get hF_h0 0 rfl) dX15_feed_83 ?_
  refine lv_iload hx hb dX15_feed_86 (lv_at hl 0 rfl) ?_
  refine lv_bipush (v := 24) hx hb dX15_feed_88 (by decide) ?_
  refine lv_bipush (v := 8) hx hb dX15_feed_90 (by decide) ?_
  refine lv_iload hx hb dX15_feed_92 (lv_at hl 1 rfl) ?_
  refine lv_iconst (v := 4) hx hb dX15_feed_94 (by decide) ?_
  refine lv_irem hx hb dX15_feed_95 (by decide) ?_
  refine lv_topi (fun v_123 ev_123 => ?_)
  have ev_123 : v_123 = 3 := ev_123.trans (by decide)
  subst ev_123
  refine lv_imul hx hb dX15_feed_96 ?_
  refine lv_topi (fun v_124 ev_124 => ?_)
  have ev_124 : v_124 = 24 := ev_124.trans (by decide)
  subst ev_124
  refine lv_isub hx hb dX15_feed_97 ?_
  refine lv_topi (fun v_125 ev_125 => ?_)
  have ev_125 : v_125 = 0 := ev_125.trans (by decide)
  subst ev_125
  refine lv_ishr hx hb dX15_feed_98 ?_
  refine lv_topi (fun v_126 ev_126 => ?_)
  refine lv_sipush (v := 255) hx hb dX15_feed_99 (by decide) ?_
  refine lv_iand hx hb dX15_feed_102 ?_
  refine lv_topi (fun v_127 ev_127 => ?_)
  refine va_iast hx hb hK hP hD hS 1 0 rfl rfl (by exact fun h => by rcases h with h | h <;> revert h <;> decide) dX15_feed_103 ?_
  clear hP hD hS; try clear H
  intro H locs hP hD hS
  have hPx := hP; have hDx := hD
  obtain ⟨f_128, hPx, hDx⟩ : ∃ g : Nat → Int32, va_P (dC, dI) vwCl [(h0, .inr (15, fs_122)), (qfed, .inl (ke, 200, .inl g))] H ∧ va_D A [(h0, .inr (15, fs_122)), (qfed, .inl (ke, 200, .inl g))] := ⟨_, hP, hD⟩
  replace hP := hPx; replace hD := hDx; clear hPx hDx
  replace hP : va_P (dC, dI) vwCl [(h0, .inr (15, fs_122)), (qfed, .inl (ke, 200, .inl f_128))] H := hP
  replace hD : va_D A [(h0, .inr (15, fs_122)), (qfed, .inl (ke, 200, .inl f_128))] := hD
  refine lv_aload_n hx hb dX15_feed_104 rfl (lv_at hl 2 rfl) ?_
  refine lv_dup hx hb dX15_feed_105 rfl ?_
  refine va_get (D := (dC, dI)) (ci := 15) (v := .int 15) (C := RX15) (T := TX15) (N := 89) hx hb hts (in_m_feed_X15) hown hK hP 0 rfl rfl 18 (by decide) (hts (.fieldLink RX15 299 "MotionSignsModel" "tape" "I") (List.mem_of_getElem? (i := 2) rfl)) (fun _ h9 => h9) (mF.get hF_h0 0 rfl) dX15_feed_106 ?_
  refine lv_iconst (v := 1) hx hb dX15_feed_109 (by decide) ?_
  refine lv_iadd hx hb dX15_feed_110 ?_
  refine lv_topi (fun v_129 ev_129 => ?_)
  have ev_129 : v_129 = 16 := ev_129.trans (by decide)
  subst ev_129
  refine va_put (D := (dC, dI)) (ci := 15) (v := .int 16) (ty := .int) (C := RX15) (T := TX15) (N := 89) hx hb hts (in_m_feed_X15) tyX15 tyX15_ok nmX15 hown hK hP hD hS 0 rfl rfl 18 (by decide) (hts (.fieldLink RX15 299 "MotionSignsModel" "tape" "I") (List.mem_of_getElem? (i := 2) rfl)) (fun _ h9 => h9) rfl (tyX15_ok 18 (by decide)) rfl rfl (mF.lt hF_h0 (by decide)) dX15_feed_111 ?_
  clear hP hD hS; try clear H
  intro H locs hP hD hS
  have hF0 := mF.sub (L' := [(0, .int 0), (19, .int 0), (20, .int (-1)), (21, .int 0), (22, .int 0), (23, .int 0), (24, .int 0), (25, .int 0), (27, .int 0), (28, .int 0), (29, .int 0), (35, .int 0), (17, .int (-1)), (26, .ref qfed), (30, .ref qf), (31, .ref qfd), (33, .ref qs), (36, .ref qk)]) hF_h0 [1, 2, 3, 4, 5, 6, 7, 8, 9, 10, 11, 12, 13, 14, 15, 16, 17, 18] rfl
  have hF1 := mF.put hF0 18 (.int 16) (by decide) rfl
  replace hP : va_P (dC, dI) vwCl [(h0, .inr (15, (fs_122.set 18 (.int 16)))), (qfed, .inl (ke, 200, .inl f_128))] H := hP
  replace hD : va_D A [(h0, .inr (15, (fs_122.set 18 (.int 16)))), (qfed, .inl (ke, 200, .inl f_128))] := hD
  generalize fs_122.set 18 (.int 16) = fs_130 at hP hD hF1
  replace hF_h0 : mF 89 [(18, .int 16), (0, .int 0), (19, .int 0), (20, .int (-1)), (21, .int 0), (22, .int 0), (23, .int 0), (24, .int 0), (25, .int 0), (27, .int 0), (28, .int 0), (29, .int 0), (35, .int 0), (17, .int (-1)), (26, .ref qfed), (30, .ref qf), (31, .ref qfd), (33, .ref qs), (36, .ref qk)] fs_130 := hF1
  clear hF1 hF0
  replace hP : va_P (dC, dI) vwCl [(h0, .inr (15, fs_130)), (qfed, .inl (ke, 200, .inl f_128))] H := hP
  replace hD : va_D A [(h0, .inr (15, fs_130)), (qfed, .inl (ke, 200, .inl f_128))] := hD
  refine lv_iinc (v := 16) (lv' := [(6, .int 16), (7, .int x3), (0, .ref h0), (1, .int x0), (2, .int x1), (3, .int x2), (4, .int x3), (5, .int x4)]) hx hb dX15_feed_114 hl (k := 1) rfl (by decide) (by decide) rfl (fun ls hl => ?_)
  refine lv_goto (tgt := 23) hx hb dX15_feed_117 (by decide) ?_
  refine lv_iload hx hb dX15_feed_23 (lv_at hl 0 rfl) ?_
  refine lv_bipush (v := 20) hx hb dX15_feed_25 (by decide) ?_
  refine lv_icmp_ge (tgt := 120) hx hb dX15_feed_27 (by decide) (fun hc => absurd hc (by decide)) (fun _ => ?_)
  refine lv_iload hx hb dX15_feed_30 (lv_at hl 0 rfl) ?_
  refine lv_iconst (v := 4) hx hb dX15_feed_32 (by decide) ?_
  refine lv_icmp_ge (tgt := 40) hx hb dX15_feed_33 (by decide) (fun _ => ?_) (fun hc => absurd (by decide) hc)
  refine lv_iload hx hb dX15_feed_40 (lv_at hl 0 rfl) ?_
  refine lv_bipush (v := 8) hx hb dX15_feed_42 (by decide) ?_
  refine lv_icmp_ge (tgt := 51) hx hb dX15_feed_44 (by decide) (fun _ => ?_) (fun hc => absurd (by decide) hc)
  refine lv_iload hx hb dX15_feed_51 (lv_at hl 0 rfl) ?_
  refine lv_bipush (v := 12) hx hb dX15_feed_53 (by decide) ?_
  refine lv_icmp_ge (tgt := 62) hx hb dX15_feed_55 (by decide) (fun _ => ?_) (fun hc => absurd (by decide) hc)
  refine lv_iload hx hb dX15_feed_62 (lv_at hl 0 rfl) ?_
  refine lv_bipush (v := 16) hx hb dX15_feed_64 (by decide) ?_
  refine lv_icmp_ge (tgt := 74) hx hb dX15_feed_66 (by decide) (fun _ => ?_) (fun hc => absurd (by decide) hc)
  refine lv_iload hx hb dX15_feed_74 (lv_at hl 7 rfl) ?_
  refine lv_istore (lv' := [(7, .int x4), (6, .int 16), (0, .ref h0), (1, .int x0), (2, .int x1), (3, .int x2), (4, .int x3), (5, .int x4)]) hx hb dX15_feed_76 hl (by decide) rfl (fun ls hl => ?_)
  refine lv_aload_n hx hb dX15_feed_78 rfl (lv_at hl 2 rfl) ?_
  refine va_get (D := (dC, dI)) (ci := 15) (v := .ref qfed) (C := RX15) (T := TX15) (N := 89) hx hb hts (in_m_feed_X15) hown hK hP 0 rfl rfl 26 (by decide) (hts (.fieldLink RX15 124 "MotionSignsModel" "fed" "[I") (List.mem_of_getElem? (i := 3) rfl)) (fun _ h9 => h9) (mF.get hF_h0 14 rfl) dX15_feed_79 ?_
  refine lv_aload_n hx hb dX15_feed_82 rfl (lv_at hl 2 rfl) ?_
  refine va_get (D := (dC, dI)) (ci := 15) (v := .int 16) (C := RX15) (T := TX15) (N := 89) hx hb hts (in_m_feed_X15) hown hK hP 0 rfl rfl 18 (by decide) (hts (.fieldLink RX15 299 "MotionSignsModel" "tape" "I") (List.mem_of_getElem? (i := 2) rfl)) (fun _ h9 => h9) (mF.get hF_h0 0 rfl) dX15_feed_83 ?_
  refine lv_iload hx hb dX15_feed_86 (lv_at hl 0 rfl) ?_
  refine lv_bipush (v := 24) hx hb dX15_feed_88 (by decide) ?_
  refine lv_bipush (v := 8) hx hb dX15_feed_90 (by decide) ?_
  refine lv_iload hx hb dX15_feed_92 (lv_at hl 1 rfl) ?_
  refine lv_iconst (v := 4) hx hb dX15_feed_94 (by decide) ?_
  refine lv_irem hx hb dX15_feed_95 (by decide) ?_
  refine lv_topi (fun v_131 ev_131 => ?_)
  have ev_131 : v_131 = 0 := ev_131.trans (by decide)
  subst ev_131
  refine lv_imul hx hb dX15_feed_96 ?_
  refine lv_topi (fun v_132 ev_132 => ?_)
  have ev_132 : v_132 = 0 := ev_132.trans (by decide)
  subst ev_132
  refine lv_isub hx hb dX15_feed_97 ?_
  refine lv_topi (fun v_133 ev_133 => ?_)
  have ev_133 : v_133 = 24 := ev_133.trans (by decide)
  subst ev_133
  refine lv_ishr hx hb dX15_feed_98 ?_
  refine lv_topi (fun v_134 ev_134 => ?_)
  refine lv_sipush (v := 255) hx hb dX15_feed_99 (by decide) ?_
  refine lv_iand hx hb dX15_feed_102 ?_
  refine lv_topi (fun v_135 ev_135 => ?_)
  refine va_iast hx hb hK hP hD hS 1 0 rfl rfl (by exact fun h => by rcases h with h | h <;> revert h <;> decide) dX15_feed_103 ?_
  clear hP hD hS; try clear H
  intro H locs hP hD hS
  have hPx := hP; have hDx := hD
  obtain ⟨f_136, hPx, hDx⟩ : ∃ g : Nat → Int32, va_P (dC, dI) vwCl [(h0, .inr (15, fs_130)), (qfed, .inl (ke, 200, .inl g))] H ∧ va_D A [(h0, .inr (15, fs_130)), (qfed, .inl (ke, 200, .inl g))] := ⟨_, hP, hD⟩
  replace hP := hPx; replace hD := hDx; clear hPx hDx
  replace hP : va_P (dC, dI) vwCl [(h0, .inr (15, fs_130)), (qfed, .inl (ke, 200, .inl f_136))] H := hP
  replace hD : va_D A [(h0, .inr (15, fs_130)), (qfed, .inl (ke, 200, .inl f_136))] := hD
  refine lv_aload_n hx hb dX15_feed_104 rfl (lv_at hl 2 rfl) ?_
  refine lv_dup hx hb dX15_feed_105 rfl ?_
  refine va_get (D := (dC, dI)) (ci := 15) (v := .int 16) (C := RX15) (T := TX15) (N := 89) hx hb hts (in_m_feed_X15) hown hK hP 0 rfl rfl 18 (by decide) (hts (.fieldLink RX15 299 "MotionSignsModel" "tape" "I") (List.mem_of_getElem? (i := 2) rfl)) (fun _ h9 => h9) (mF.get hF_h0 0 rfl) dX15_feed_106 ?_
  refine lv_iconst (v := 1) hx hb dX15_feed_109 (by decide) ?_
  refine lv_iadd hx hb dX15_feed_110 ?_
  refine lv_topi (fun v_137 ev_137 => ?_)
  have ev_137 : v_137 = 17 := ev_137.trans (by decide)
  subst ev_137
  refine va_put (D := (dC, dI)) (ci := 15) (v := .int 17) (ty := .int) (C := RX15) (T := TX15) (N := 89) hx hb hts (in_m_feed_X15) tyX15 tyX15_ok nmX15 hown hK hP hD hS 0 rfl rfl 18 (by decide) (hts (.fieldLink RX15 299 "MotionSignsModel" "tape" "I") (List.mem_of_getElem? (i := 2) rfl)) (fun _ h9 => h9) rfl (tyX15_ok 18 (by decide)) rfl rfl (mF.lt hF_h0 (by decide)) dX15_feed_111 ?_
  clear hP hD hS; try clear H
  intro H locs hP hD hS
  have hF0 := mF.sub (L' := [(0, .int 0), (19, .int 0), (20, .int (-1)), (21, .int 0), (22, .int 0), (23, .int 0), (24, .int 0), (25, .int 0), (27, .int 0), (28, .int 0), (29, .int 0), (35, .int 0), (17, .int (-1)), (26, .ref qfed), (30, .ref qf), (31, .ref qfd), (33, .ref qs), (36, .ref qk)]) hF_h0 [1, 2, 3, 4, 5, 6, 7, 8, 9, 10, 11, 12, 13, 14, 15, 16, 17, 18] rfl
  have hF1 := mF.put hF0 18 (.int 17) (by decide) rfl
  replace hP : va_P (dC, dI) vwCl [(h0, .inr (15, (fs_130.set 18 (.int 17)))), (qfed, .inl (ke, 200, .inl f_136))] H := hP
  replace hD : va_D A [(h0, .inr (15, (fs_130.set 18 (.int 17)))), (qfed, .inl (ke, 200, .inl f_136))] := hD
  generalize fs_130.set 18 (.int 17) = fs_138 at hP hD hF1
  replace hF_h0 : mF 89 [(18, .int 17), (0, .int 0), (19, .int 0), (20, .int (-1)), (21, .int 0), (22, .int 0), (23, .int 0), (24, .int 0), (25, .int 0), (27, .int 0), (28, .int 0), (29, .int 0), (35, .int 0), (17, .int (-1)), (26, .ref qfed), (30, .ref qf), (31, .ref qfd), (33, .ref qs), (36, .ref qk)] fs_138 := hF1
  clear hF1 hF0
  replace hP : va_P (dC, dI) vwCl [(h0, .inr (15, fs_138)), (qfed, .inl (ke, 200, .inl f_136))] H := hP
  replace hD : va_D A [(h0, .inr (15, fs_138)), (qfed, .inl (ke, 200, .inl f_136))] := hD
  refine lv_iinc (v := 17) (lv' := [(6, .int 17), (7, .int x4), (0, .ref h0), (1, .int x0), (2, .int x1), (3, .int x2), (4, .int x3), (5, .int x4)]) hx hb dX15_feed_114 hl (k := 1) rfl (by decide) (by decide) rfl (fun ls hl => ?_)
  refine lv_goto (tgt := 23) hx hb dX15_feed_117 (by decide) ?_
  refine lv_iload hx hb dX15_feed_23 (lv_at hl 0 rfl) ?_
  refine lv_bipush (v := 20) hx hb dX15_feed_25 (by decide) ?_
  refine lv_icmp_ge (tgt := 120) hx hb dX15_feed_27 (by decide) (fun hc => absurd hc (by decide)) (fun _ => ?_)
  refine lv_iload hx hb dX15_feed_30 (lv_at hl 0 rfl) ?_
  refine lv_iconst (v := 4) hx hb dX15_feed_32 (by decide) ?_
  refine lv_icmp_ge (tgt := 40) hx hb dX15_feed_33 (by decide) (fun _ => ?_) (fun hc => absurd (by decide) hc)
  refine lv_iload hx hb dX15_feed_40 (lv_at hl 0 rfl) ?_
  refine lv_bipush (v := 8) hx hb dX15_feed_42 (by decide) ?_
  refine lv_icmp_ge (tgt := 51) hx hb dX15_feed_44 (by decide) (fun _ => ?_) (fun hc => absurd (by decide) hc)
  refine lv_iload hx hb dX15_feed_51 (lv_at hl 0 rfl) ?_
  refine lv_bipush (v := 12) hx hb dX15_feed_53 (by decide) ?_
  refine lv_icmp_ge (tgt := 62) hx hb dX15_feed_55 (by decide) (fun _ => ?_) (fun hc => absurd (by decide) hc)
  refine lv_iload hx hb dX15_feed_62 (lv_at hl 0 rfl) ?_
  refine lv_bipush (v := 16) hx hb dX15_feed_64 (by decide) ?_
  refine lv_icmp_ge (tgt := 74) hx hb dX15_feed_66 (by decide) (fun _ => ?_) (fun hc => absurd (by decide) hc)
  refine lv_iload hx hb dX15_feed_74 (lv_at hl 7 rfl) ?_
  refine lv_istore (lv' := [(7, .int x4), (6, .int 17), (0, .ref h0), (1, .int x0), (2, .int x1), (3, .int x2), (4, .int x3), (5, .int x4)]) hx hb dX15_feed_76 hl (by decide) rfl (fun ls hl => ?_)
  refine lv_aload_n hx hb dX15_feed_78 rfl (lv_at hl 2 rfl) ?_
  refine va_get (D := (dC, dI)) (ci := 15) (v := .ref qfed) (C := RX15) (T := TX15) (N := 89) hx hb hts (in_m_feed_X15) hown hK hP 0 rfl rfl 26 (by decide) (hts (.fieldLink RX15 124 "MotionSignsModel" "fed" "[I") (List.mem_of_getElem? (i := 3) rfl)) (fun _ h9 => h9) (mF.get hF_h0 14 rfl) dX15_feed_79 ?_
  refine lv_aload_n hx hb dX15_feed_82 rfl (lv_at hl 2 rfl) ?_
  refine va_get (D := (dC, dI)) (ci := 15) (v := .int 17) (C := RX15) (T := TX15) (N := 89) hx hb hts (in_m_feed_X15) hown hK hP 0 rfl rfl 18 (by decide) (hts (.fieldLink RX15 299 "MotionSignsModel" "tape" "I") (List.mem_of_getElem? (i := 2) rfl)) (fun _ h9 => h9) (mF.get hF_h0 0 rfl) dX15_feed_83 ?_
  refine lv_iload hx hb dX15_feed_86 (lv_at hl 0 rfl) ?_
  refine lv_bipush (v := 24) hx hb dX15_feed_88 (by decide) ?_
  refine lv_bipush (v := 8) hx hb dX15_feed_90 (by decide) ?_
  refine lv_iload hx hb dX15_feed_92 (lv_at hl 1 rfl) ?_
  refine lv_iconst (v := 4) hx hb dX15_feed_94 (by decide) ?_
  refine lv_irem hx hb dX15_feed_95 (by decide) ?_
  refine lv_topi (fun v_139 ev_139 => ?_)
  have ev_139 : v_139 = 1 := ev_139.trans (by decide)
  subst ev_139
  refine lv_imul hx hb dX15_feed_96 ?_
  refine lv_topi (fun v_140 ev_140 => ?_)
  have ev_140 : v_140 = 8 := ev_140.trans (by decide)
  subst ev_140
  refine lv_isub hx hb dX15_feed_97 ?_
  refine lv_topi (fun v_141 ev_141 => ?_)
  have ev_141 : v_141 = 16 := ev_141.trans (by decide)
  subst ev_141
  refine lv_ishr hx hb dX15_feed_98 ?_
  refine lv_topi (fun v_142 ev_142 => ?_)
  refine lv_sipush (v := 255) hx hb dX15_feed_99 (by decide) ?_
  refine lv_iand hx hb dX15_feed_102 ?_
  refine lv_topi (fun v_143 ev_143 => ?_)
  refine va_iast hx hb hK hP hD hS 1 0 rfl rfl (by exact fun h => by rcases h with h | h <;> revert h <;> decide) dX15_feed_103 ?_
  clear hP hD hS; try clear H
  intro H locs hP hD hS
  have hPx := hP; have hDx := hD
  obtain ⟨f_144, hPx, hDx⟩ : ∃ g : Nat → Int32, va_P (dC, dI) vwCl [(h0, .inr (15, fs_138)), (qfed, .inl (ke, 200, .inl g))] H ∧ va_D A [(h0, .inr (15, fs_138)), (qfed, .inl (ke, 200, .inl g))] := ⟨_, hP, hD⟩
  replace hP := hPx; replace hD := hDx; clear hPx hDx
  replace hP : va_P (dC, dI) vwCl [(h0, .inr (15, fs_138)), (qfed, .inl (ke, 200, .inl f_144))] H := hP
  replace hD : va_D A [(h0, .inr (15, fs_138)), (qfed, .inl (ke, 200, .inl f_144))] := hD
  refine lv_aload_n hx hb dX15_feed_104 rfl (lv_at hl 2 rfl) ?_
  refine lv_dup hx hb dX15_feed_105 rfl ?_
  refine va_get (D := (dC, dI)) (ci := 15) (v := .int 17) (C := RX15) (T := TX15) (N := 89) hx hb hts (in_m_feed_X15) hown hK hP 0 rfl rfl 18 (by decide) (hts (.fieldLink RX15 299 "MotionSignsModel" "tape" "I") (List.mem_of_getElem? (i := 2) rfl)) (fun _ h9 => h9) (mF.get hF_h0 0 rfl) dX15_feed_106 ?_
  refine lv_iconst (v := 1) hx hb dX15_feed_109 (by decide) ?_
  refine lv_iadd hx hb dX15_feed_110 ?_
  refine lv_topi (fun v_145 ev_145 => ?_)
  have ev_145 : v_145 = 18 := ev_145.trans (by decide)
  subst ev_145
  refine va_put (D := (dC, dI)) (ci := 15) (v := .int 18) (ty := .int) (C := RX15) (T := TX15) (N := 89) hx hb hts (in_m_feed_X15) tyX15 tyX15_ok nmX15 hown hK hP hD hS 0 rfl rfl 18 (by decide) (hts (.fieldLink RX15 299 "MotionSignsModel" "tape" "I") (List.mem_of_getElem? (i := 2) rfl)) (fun _ h9 => h9) rfl (tyX15_ok 18 (by decide)) rfl rfl (mF.lt hF_h0 (by decide)) dX15_feed_111 ?_
  clear hP hD hS; try clear H
  intro H locs hP hD hS
  have hF0 := mF.sub (L' := [(0, .int 0), (19, .int 0), (20, .int (-1)), (21, .int 0), (22, .int 0), (23, .int 0), (24, .int 0), (25, .int 0), (27, .int 0), (28, .int 0), (29, .int 0), (35, .int 0), (17, .int (-1)), (26, .ref qfed), (30, .ref qf), (31, .ref qfd), (33, .ref qs), (36, .ref qk)]) hF_h0 [1, 2, 3, 4, 5, 6, 7, 8, 9, 10, 11, 12, 13, 14, 15, 16, 17, 18] rfl
  have hF1 := mF.put hF0 18 (.int 18) (by decide) rfl
  replace hP : va_P (dC, dI) vwCl [(h0, .inr (15, (fs_138.set 18 (.int 18)))), (qfed, .inl (ke, 200, .inl f_144))] H := hP
  replace hD : va_D A [(h0, .inr (15, (fs_138.set 18 (.int 18)))), (qfed, .inl (ke, 200, .inl f_144))] := hD
  generalize fs_138.set 18 (.int 18) = fs_146 at hP hD hF1
  replace hF_h0 : mF 89 [(18, .int 18), (0, .int 0), (19, .int 0), (20, .int (-1)), (21, .int 0), (22, .int 0), (23, .int 0), (24, .int 0), (25, .int 0), (27, .int 0), (28, .int 0), (29, .int 0), (35, .int 0), (17, .int (-1)), (26, .ref qfed), (30, .ref qf), (31, .ref qfd), (33, .ref qs), (36, .ref qk)] fs_146 := hF1
  clear hF1 hF0
  replace hP : va_P (dC, dI) vwCl [(h0, .inr (15, fs_146)), (qfed, .inl (ke, 200, .inl f_144))] H := hP
  replace hD : va_D A [(h0, .inr (15, fs_146)), (qfed, .inl (ke, 200, .inl f_144))] := hD
  refine lv_iinc (v := 18) (lv' := [(6, .int 18), (7, .int x4), (0, .ref h0), (1, .int x0), (2, .int x1), (3, .int x2), (4, .int x3), (5, .int x4)]) hx hb dX15_feed_114 hl (k := 1) rfl (by decide) (by decide) rfl (fun ls hl => ?_)
  refine lv_goto (tgt := 23) hx hb dX15_feed_117 (by decide) ?_
  refine lv_iload hx hb dX15_feed_23 (lv_at hl 0 rfl) ?_
  refine lv_bipush (v := 20) hx hb dX15_feed_25 (by decide) ?_
  refine lv_icmp_ge (tgt := 120) hx hb dX15_feed_27 (by decide) (fun hc => absurd hc (by decide)) (fun _ => ?_)
  refine lv_iload hx hb dX15_feed_30 (lv_at hl 0 rfl) ?_
  refine lv_iconst (v := 4) hx hb dX15_feed_32 (by decide) ?_
  refine lv_icmp_ge (tgt := 40) hx hb dX15_feed_33 (by decide) (fun _ => ?_) (fun hc => absurd (by decide) hc)
  refine lv_iload hx hb dX15_feed_40 (lv_at hl 0 rfl) ?_
  refine lv_bipush (v := 8) hx hb dX15_feed_42 (by decide) ?_
  refine lv_icmp_ge (tgt := 51) hx hb dX15_feed_44 (by decide) (fun _ => ?_) (fun hc => absurd (by decide) hc)
  refine lv_iload hx hb dX15_feed_51 (lv_at hl 0 rfl) ?_
  refine lv_bipush (v := 12) hx hb dX15_feed_53 (by decide) ?_
  refine lv_icmp_ge (tgt := 62) hx hb dX15_feed_55 (by decide) (fun _ => ?_) (fun hc => absurd (by decide) hc)
  refine lv_iload hx hb dX15_feed_62 (lv_at hl 0 rfl) ?_
  refine lv_bipush (v := 16) hx hb dX15_feed_64 (by decide) ?_
  refine lv_icmp_ge (tgt := 74) hx hb dX15_feed_66 (by decide) (fun _ => ?_) (fun hc => absurd (by decide) hc)
  refine lv_iload hx hb dX15_feed_74 (lv_at hl 7 rfl) ?_
  refine lv_istore (lv' := [(7, .int x4), (6, .int 18), (0, .ref h0), (1, .int x0), (2, .int x1), (3, .int x2), (4, .int x3), (5, .int x4)]) hx hb dX15_feed_76 hl (by decide) rfl (fun ls hl => ?_)
  refine lv_aload_n hx hb dX15_feed_78 rfl (lv_at hl 2 rfl) ?_
  refine va_get (D := (dC, dI)) (ci := 15) (v := .ref qfed) (C := RX15) (T := TX15) (N := 89) hx hb hts (in_m_feed_X15) hown hK hP 0 rfl rfl 26 (by decide) (hts (.fieldLink RX15 124 "MotionSignsModel" "fed" "[I") (List.mem_of_getElem? (i := 3) rfl)) (fun _ h9 => h9) (mF.get hF_h0 14 rfl) dX15_feed_79 ?_
  refine lv_aload_n hx hb dX15_feed_82 rfl (lv_at hl 2 rfl) ?_
  refine va_get (D := (dC, dI)) (ci := 15) (v := .int 18) (C := RX15) (T := TX15) (N := 89) hx hb hts (in_m_feed_X15) hown hK hP 0 rfl rfl 18 (by decide) (hts (.fieldLink RX15 299 "MotionSignsModel" "tape" "I") (List.mem_of_getElem? (i := 2) rfl)) (fun _ h9 => h9) (mF.get hF_h0 0 rfl) dX15_feed_83 ?_
  refine lv_iload hx hb dX15_feed_86 (lv_at hl 0 rfl) ?_
  refine lv_bipush (v := 24) hx hb dX15_feed_88 (by decide) ?_
  refine lv_bipush (v := 8) hx hb dX15_feed_90 (by decide) ?_
  refine lv_iload hx hb dX15_feed_92 (lv_at hl 1 rfl) ?_
  refine lv_iconst (v := 4) hx hb dX15_feed_94 (by decide) ?_
  refine lv_irem hx hb dX15_feed_95 (by decide) ?_
  refine lv_topi (fun v_147 ev_147 => ?_)
  have ev_147 : v_147 = 2 := ev_147.trans (by decide)
  subst ev_147
  refine lv_imul hx hb dX15_feed_96 ?_
  refine lv_topi (fun v_148 ev_148 => ?_)
  have ev_148 : v_148 = 16 := ev_148.trans (by decide)
  subst ev_148
  refine lv_isub hx hb dX15_feed_97 ?_
  refine lv_topi (fun v_149 ev_149 => ?_)
  have ev_149 : v_149 = 8 := ev_149.trans (by decide)
  subst ev_149
  refine lv_ishr hx hb dX15_feed_98 ?_
  refine lv_topi (fun v_150 ev_150 => ?_)
  refine lv_sipush (v := 255) hx hb dX15_feed_99 (by decide) ?_
  refine lv_iand hx hb dX15_feed_102 ?_
  refine lv_topi (fun v_151 ev_151 => ?_)
  refine va_iast hx hb hK hP hD hS 1 0 rfl rfl (by exact fun h => by rcases h with h | h <;> revert h <;> decide) dX15_feed_103 ?_
  clear hP hD hS; try clear H
  intro H locs hP hD hS
  have hPx := hP; have hDx := hD
  obtain ⟨f_152, hPx, hDx⟩ : ∃ g : Nat → Int32, va_P (dC, dI) vwCl [(h0, .inr (15, fs_146)), (qfed, .inl (ke, 200, .inl g))] H ∧ va_D A [(h0, .inr (15, fs_146)), (qfed, .inl (ke, 200, .inl g))] := ⟨_, hP, hD⟩
  replace hP := hPx; replace hD := hDx; clear hPx hDx
  replace hP : va_P (dC, dI) vwCl [(h0, .inr (15, fs_146)), (qfed, .inl (ke, 200, .inl f_152))] H := hP
  replace hD : va_D A [(h0, .inr (15, fs_146)), (qfed, .inl (ke, 200, .inl f_152))] := hD
  refine lv_aload_n hx hb dX15_feed_104 rfl (lv_at hl 2 rfl) ?_
  refine lv_dup hx hb dX15_feed_105 rfl ?_
  refine va_get (D := (dC, dI)) (ci := 15) (v := .int 18) (C := RX15) (T := TX15) (N := 89) hx hb hts (in_m_feed_X15) hown hK hP 0 rfl rfl 18 (by decide) (hts (.fieldLink RX15 299 "MotionSignsModel" "tape" "I") (List.mem_of_getElem? (i := 2) rfl)) (fun _ h9 => h9) (mF.get hF_h0 0 rfl) dX15_feed_106 ?_
  refine lv_iconst (v := 1) hx hb dX15_feed_109 (by decide) ?_
  refine lv_iadd hx hb dX15_feed_110 ?_
  refine lv_topi (fun v_153 ev_153 => ?_)
  have ev_153 : v_153 = 19 := ev_153.trans (by decide)
  subst ev_153
  refine va_put (D := (dC, dI)) (ci := 15) (v := .int 19) (ty := .int) (C := RX15) (T := TX15) (N := 89) hx hb hts (in_m_feed_X15) tyX15 tyX15_ok nmX15 hown hK hP hD hS 0 rfl rfl 18 (by decide) (hts (.fieldLink RX15 299 "MotionSignsModel" "tape" "I") (List.mem_of_getElem? (i := 2) rfl)) (fun _ h9 => h9) rfl (tyX15_ok 18 (by decide)) rfl rfl (mF.lt hF_h0 (by decide)) dX15_feed_111 ?_
  clear hP hD hS; try clear H
  intro H locs hP hD hS
  have hF0 := mF.sub (L' := [(0, .int 0), (19, .int 0), (20, .int (-1)), (21, .int 0), (22, .int 0), (23, .int 0), (24, .int 0), (25, .int 0), (27, .int 0), (28, .int 0), (29, .int 0), (35, .int 0), (17, .int (-1)), (26, .ref qfed), (30, .ref qf), (31, .ref qfd), (33, .ref qs), (36, .ref qk)]) hF_h0 [1, 2, 3, 4, 5, 6, 7, 8, 9, 10, 11, 12, 13, 14, 15, 16, 17, 18] rfl
  have hF1 := mF.put hF0 18 (.int 19) (by decide) rfl
  replace hP : va_P (dC, dI) vwCl [(h0, .inr (15, (fs_146.set 18 (.int 19)))), (qfed, .inl (ke, 200, .inl f_152))] H := hP
  replace hD : va_D A [(h0, .inr (15, (fs_146.set 18 (.int 19)))), (qfed, .inl (ke, 200, .inl f_152))] := hD
  generalize fs_146.set 18 (.int 19) = fs_154 at hP hD hF1
  replace hF_h0 : mF 89 [(18, .int 19), (0, .int 0), (19, .int 0), (20, .int (-1)), (21, .int 0), (22, .int 0), (23, .int 0), (24, .int 0), (25, .int 0), (27, .int 0), (28, .int 0), (29, .int 0), (35, .int 0), (17, .int (-1)), (26, .ref qfed), (30, .ref qf), (31, .ref qfd), (33, .ref qs), (36, .ref qk)] fs_154 := hF1
  clear hF1 hF0
  replace hP : va_P (dC, dI) vwCl [(h0, .inr (15, fs_154)), (qfed, .inl (ke, 200, .inl f_152))] H := hP
  replace hD : va_D A [(h0, .inr (15, fs_154)), (qfed, .inl (ke, 200, .inl f_152))] := hD
  refine lv_iinc (v := 19) (lv' := [(6, .int 19), (7, .int x4), (0, .ref h0), (1, .int x0), (2, .int x1), (3, .int x2), (4, .int x3), (5, .int x4)]) hx hb dX15_feed_114 hl (k := 1) rfl (by decide) (by decide) rfl (fun ls hl => ?_)
  refine lv_goto (tgt := 23) hx hb dX15_feed_117 (by decide) ?_
  refine lv_iload hx hb dX15_feed_23 (lv_at hl 0 rfl) ?_
  refine lv_bipush (v := 20) hx hb dX15_feed_25 (by decide) ?_
  refine lv_icmp_ge (tgt := 120) hx hb dX15_feed_27 (by decide) (fun hc => absurd hc (by decide)) (fun _ => ?_)
  refine lv_iload hx hb dX15_feed_30 (lv_at hl 0 rfl) ?_
  refine lv_iconst (v := 4) hx hb dX15_feed_32 (by decide) ?_
  refine lv_icmp_ge (tgt := 40) hx hb dX15_feed_33 (by decide) (fun _ => ?_) (fun hc => absurd (by decide) hc)
  refine lv_iload hx hb dX15_feed_40 (lv_at hl 0 rfl) ?_
  refine lv_bipush (v := 8) hx hb dX15_feed_42 (by decide) ?_
  refine lv_icmp_ge (tgt := 51) hx hb dX15_feed_44 (by decide) (fun _ => ?_) (fun hc => absurd (by decide) hc)
  refine lv_iload hx hb dX15_feed_51 (lv_at hl 0 rfl) ?_
  refine lv_bipush (v := 12) hx hb dX15_feed_53 (by decide) ?_
  refine lv_icmp_ge (tgt := 62) hx hb dX15_feed_55 (by decide) (fun _ => ?_) (fun hc => absurd (by decide) hc)
  refine lv_iload hx hb dX15_feed_62 (lv_at hl 0 rfl) ?_
  refine lv_bipush (v := 16) hx hb dX15_feed_64 (by decide) ?_
  refine lv_icmp_ge (tgt := 74) hx hb dX15_feed_66 (by decide) (fun _ => ?_) (fun hc => absurd (by decide) hc)
  refine lv_iload hx hb dX15_feed_74 (lv_at hl 7 rfl) ?_
  refine lv_istore (lv' := [(7, .int x4), (6, .int 19), (0, .ref h0), (1, .int x0), (2, .int x1), (3, .int x2), (4, .int x3), (5, .int x4)]) hx hb dX15_feed_76 hl (by decide) rfl (fun ls hl => ?_)
  refine lv_aload_n hx hb dX15_feed_78 rfl (lv_at hl 2 rfl) ?_
  refine va_get (D := (dC, dI)) (ci := 15) (v := .ref qfed) (C := RX15) (T := TX15) (N := 89) hx hb hts (in_m_feed_X15) hown hK hP 0 rfl rfl 26 (by decide) (hts (.fieldLink RX15 124 "MotionSignsModel" "fed" "[I") (List.mem_of_getElem? (i := 3) rfl)) (fun _ h9 => h9) (mF.get hF_h0 14 rfl) dX15_feed_79 ?_
  refine lv_aload_n hx hb dX15_feed_82 rfl (lv_at hl 2 rfl) ?_
  refine va_get (D := (dC, dI)) (ci := 15) (v := .int 19) (C := RX15) (T := TX15) (N := 89) hx hb hts (in_m_feed_X15) hown hK hP 0 rfl rfl 18 (by decide) (hts (.fieldLink RX15 299 "MotionSignsModel" "tape" "I") (List.mem_of_getElem? (i := 2) rfl)) (fun _ h9 => h9) (mF.get hF_h0 0 rfl) dX15_feed_83 ?_
  refine lv_iload hx hb dX15_feed_86 (lv_at hl 0 rfl) ?_
  refine lv_bipush (v := 24) hx hb dX15_feed_88 (by decide) ?_
  refine lv_bipush (v := 8) hx hb dX15_feed_90 (by decide) ?_
  refine lv_iload hx hb dX15_feed_92 (lv_at hl 1 rfl) ?_
  refine lv_iconst (v := 4) hx hb dX15_feed_94 (by decide) ?_
  refine lv_irem hx hb dX15_feed_95 (by decide) ?_
  refine lv_topi (fun v_155 ev_155 => ?_)
  have ev_155 : v_155 = 3 := ev_155.trans (by decide)
  subst ev_155
  refine lv_imul hx hb dX15_feed_96 ?_
  refine lv_topi (fun v_156 ev_156 => ?_)
  have ev_156 : v_156 = 24 := ev_156.trans (by decide)
  subst ev_156
  refine lv_isub hx hb dX15_feed_97 ?_
  refine lv_topi (fun v_157 ev_157 => ?_)
  have ev_157 : v_157 = 0 := ev_157.trans (by decide)
  subst ev_157
  refine lv_ishr hx hb dX15_feed_98 ?_
  refine lv_topi (fun v_158 ev_158 => ?_)
  refine lv_sipush (v := 255) hx hb dX15_feed_99 (by decide) ?_
  refine lv_iand hx hb dX15_feed_102 ?_
  refine lv_topi (fun v_159 ev_159 => ?_)
  refine va_iast hx hb hK hP hD hS 1 0 rfl rfl (by exact fun h => by rcases h with h | h <;> revert h <;> decide) dX15_feed_103 ?_
  clear hP hD hS; try clear H
  intro H locs hP hD hS
  have hPx := hP; have hDx := hD
  obtain ⟨f_160, hPx, hDx⟩ : ∃ g : Nat → Int32, va_P (dC, dI) vwCl [(h0, .inr (15, fs_154)), (qfed, .inl (ke, 200, .inl g))] H ∧ va_D A [(h0, .inr (15, fs_154)), (qfed, .inl (ke, 200, .inl g))] := ⟨_, hP, hD⟩
  replace hP := hPx; replace hD := hDx; clear hPx hDx
  replace hP : va_P (dC, dI) vwCl [(h0, .inr (15, fs_154)), (qfed, .inl (ke, 200, .inl f_160))] H := hP
  replace hD : va_D A [(h0, .inr (15, fs_154)), (qfed, .inl (ke, 200, .inl f_160))] := hD
  refine lv_aload_n hx hb dX15_feed_104 rfl (lv_at hl 2 rfl) ?_
  refine lv_dup hx hb dX15_feed_105 rfl ?_
  refine va_get (D := (dC, dI)) (ci := 15) (v := .int 19) (C := RX15) (T := TX15) (N := 89) hx hb hts (in_m_feed_X15) hown hK hP 0 rfl rfl 18 (by decide) (hts (.fieldLink RX15 299 "MotionSignsModel" "tape" "I") (List.mem_of_getElem? (i := 2) rfl)) (fun _ h9 => h9) (mF.get hF_h0 0 rfl) dX15_feed_106 ?_
  refine lv_iconst (v := 1) hx hb dX15_feed_109 (by decide) ?_
  refine lv_iadd hx hb dX15_feed_110 ?_
  refine lv_topi (fun v_161 ev_161 => ?_)
  have ev_161 : v_161 = 20 := ev_161.trans (by decide)
  subst ev_161
  refine va_put (D := (dC, dI)) (ci := 15) (v := .int 20) (ty := .int) (C := RX15) (T := TX15) (N := 89) hx hb hts (in_m_feed_X15) tyX15 tyX15_ok nmX15 hown hK hP hD hS 0 rfl rfl 18 (by decide) (hts (.fieldLink RX15 299 "MotionSignsModel" "tape" "I") (List.mem_of_getElem? (i := 2) rfl)) (fun _ h9 => h9) rfl (tyX15_ok 18 (by decide)) rfl rfl (mF.lt hF_h0 (by decide)) dX15_feed_111 ?_
  clear hP hD hS; try clear H
  intro H locs hP hD hS
  have hF0 := mF.sub (L' := [(0, .int 0), (19, .int 0), (20, .int (-1)), (21, .int 0), (22, .int 0), (23, .int 0), (24, .int 0), (25, .int 0), (27, .int 0), (28, .int 0), (29, .int 0), (35, .int 0), (17, .int (-1)), (26, .ref qfed), (30, .ref qf), (31, .ref qfd), (33, .ref qs), (36, .ref qk)]) hF_h0 [1, 2, 3, 4, 5, 6, 7, 8, 9, 10, 11, 12, 13, 14, 15, 16, 17, 18] rfl
  have hF1 := mF.put hF0 18 (.int 20) (by decide) rfl
  replace hP : va_P (dC, dI) vwCl [(h0, .inr (15, (fs_154.set 18 (.int 20)))), (qfed, .inl (ke, 200, .inl f_160))] H := hP
  replace hD : va_D A [(h0, .inr (15, (fs_154.set 18 (.int 20)))), (qfed, .inl (ke, 200, .inl f_160))] := hD
  generalize fs_154.set 18 (.int 20) = fs_162 at hP hD hF1
  replace hF_h0 : mF 89 [(18, .int 20), (0, .int 0), (19, .int 0), (20, .int (-1)), (21, .int 0), (22, .int 0), (23, .int 0), (24, .int 0), (25, .int 0), (27, .int 0), (28, .int 0), (29, .int 0), (35, .int 0), (17, .int (-1)), (26, .ref qfed), (30, .ref qf), (31, .ref qfd), (33, .ref qs), (36, .ref qk)] fs_162 := hF1
  clear hF1 hF0
  replace hP : va_P (dC, dI) vwCl [(h0, .inr (15, fs_162)), (qfed, .inl (ke, 200, .inl f_160))] H := hP
  replace hD : va_D A [(h0, .inr (15, fs_162)), (qfed, .inl (ke, 200, .inl f_160))] := hD
  refine lv_iinc (v := 20) (lv' := [(6, .int 20), (7, .int x4), (0, .ref h0), (1, .int x0), (2, .int x1), (3, .int x2), (4, .int x3), (5, .int x4)]) hx hb dX15_feed_114 hl (k := 1) rfl (by decide) (by decide) rfl (fun ls hl => ?_)
  refine lv_goto (tgt := 23) hx hb dX15_feed_117 (by decide) ?_
  refine lv_iload hx hb dX15_feed_23 (lv_at hl 0 rfl) ?_
  refine lv_bipush (v := 20) hx hb dX15_feed_25 (by decide) ?_
  refine lv_icmp_ge (tgt := 120) hx hb dX15_feed_27 (by decide) (fun _ => ?_) (fun hc => absurd (by decide) hc)
  refine lv_aload_n hx hb dX15_feed_120 rfl (lv_at hl 2 rfl) ?_
  refine va_get (D := (dC, dI)) (ci := 15) (v := .int 20) (C := RX15) (T := TX15) (N := 89) hx hb hts (in_m_feed_X15) hown hK hP 0 rfl rfl 18 (by decide) (hts (.fieldLink RX15 299 "MotionSignsModel" "tape" "I") (List.mem_of_getElem? (i := 2) rfl)) (fun _ h9 => h9) (mF.get hF_h0 0 rfl) dX15_feed_121 ?_
  have hP9 := hP.sub (ws' := [(h0, .inr (15, fs_162))]) [0] rfl
  have hD9 := hD.sub (ws' := [(h0, .inr (15, fs_162))]) [0] (by decide) rfl
  have hK9 := hK.sub (tys' := []) [] rfl
  rw [← hAe] at hD9
  refine W.widen (k := 0) (n := 0) (Nat.le_of_ble_eq_true rfl) (Nat.le_of_ble_eq_true rfl) ?_
  subst hAe
  exact (W.iret (v := 20) hx hb hr (fun t ht hW => ⟨⟨20, (), rfl, rfl, fs_162, by rw [ht]; exact hP9, va_K.moved hW.alike hK9, hD9, (mF.sub hF_h0 [1] rfl)⟩, hS.F ht⟩) hS.2.2 dX15_feed_124)
def wv_m_byteAt : List Cond := .code yX15_byteAt cX15_byteAt 2 (some .int) :: ([.fieldLink RX15 302 "MotionSignsModel" "size" "I"] ++ (wsX150 ++ ([])))
theorem gw_m_byteAt : wv_m_byteAt.all goodWord = true := by decide +kernel
theorem in_m_byteAt_X15 : ∀ w ∈ wsX150, w ∈ wv_m_byteAt := fun _ h => List.mem_cons_of_mem _ (List.mem_append_right _ (List.mem_append_left _ h))
set_option maxHeartbeats 4000000 in
set_option maxRecDepth 100000 in
/-- byteAt -/
theorem c_m_byteAt (l : Launch) (dC : Nat → ClassId) (dI : Nat → Nat → Nat) (h0 : Nat) (fs_h0 : List Value) (hF_h0 : mF 89 [(19, .int 0)] fs_h0) (sz : Nat) : Met l yX15_byteAt wv_m_byteAt ({ frames := 0, cells := 0, slots := 0, locals := 0 }) (va_Pc [.ref h0, .int 0] (fun U => U.heap.size = sz ∧ va_P (dC, dI) vwCl [(h0, .inr (15, fs_h0))] U.heap ∧ va_K (dC, dI) vwCl [] U ∧ va_D (fun _ => True) [(h0, .inr (15, fs_h0))] ∧ w_N U)) (va_Qi (fun (r : Int32) (_ : Unit) => r = (-1)) (fun _ t => va_P (dC, dI) vwCl [(h0, .inr (15, fs_h0))] t.heap ∧ va_K (dC, dI) vwCl [] t ∧ va_D (va_A [(h0, .inr (15, fs_h0))] sz) [(h0, .inr (15, fs_h0))]) (va_A [(h0, .inr (15, fs_h0))] sz)) 0 0 (va_A [(h0, .inr (15, fs_h0))] sz) := by
  refine Met.ofW (cc := cX15_byteAt) (maxL := 2) (ret := (some .int)) (by decide) rfl ?_
  intro p e s m args below meth c s₁ B hml hv
  obtain ⟨rfl, hsz, hP, hK, hD0, hN⟩ := hv
  have hx := B.exec
  have hb := B.bytes
  have hr := B.returns
  have hts := atoms_spec (ws := wv_m_byteAt) B.pre
  have hown : s.vm.findClass RX15 = some m.cls := findClass_of_methodNamed B.named
  have hlocks := B.notSynchronized
  subst hsz
  have hD := hD0.self (sz := s.heap.size)
  generalize hAe : va_A [(h0, .inr (15, fs_h0))] s.heap.size = A at hD ⊢
  have hA : ∀ q : Nat, s.heap.size ≤ q → A q := fun q h => by rw [← hAe]; exact Or.inr h
  obtain ⟨H, hHe, hP, hS⟩ : ∃ H : Heap, H = s.heap ∧ va_P (dC, dI) vwCl [(h0, .inr (15, fs_h0))] H ∧ va_S A s.heap H [] := ⟨s.heap, rfl, hP, va_S.rf⟩
  have hl := lv_entry ([.ref h0, .int 0]) (n := 2) (Nat.le_of_ble_eq_true rfl)
  rw [lg_entry_eq]
  generalize (lg_sl ([.ref h0, .int 0]) ++ List.replicate (2 - (lg_sl ([.ref h0, .int 0])).length) Slot.unset).toArray = ls at hl ⊢
  have hl : lv_has ls 2 [(0, .ref h0), (1, .int 0)] := hl
  rw [← hHe]; clear hHe
  refine lv_iload_n hx hb dX15_byteAt_0 rfl (lv_at hl 1 rfl) ?_
  refine lv_aload_n hx hb dX15_byteAt_1 rfl (lv_at hl 0 rfl) ?_
  refine va_get (D := (dC, dI)) (ci := 15) (v := .int 0) (C := RX15) (T := TX15) (N := 89) hx hb hts (in_m_byteAt_X15) hown hK hP 0 rfl rfl 19 (by decide) (hts (.fieldLink RX15 302 "MotionSignsModel" "size" "I") (List.mem_of_getElem? (i := 1) rfl)) (fun _ h9 => h9) (mF.get hF_h0 0 rfl) dX15_byteAt_2 ?_
  refine lv_icmp_lt (tgt := 12) hx hb dX15_byteAt_5 (by decide) (fun hc => absurd hc (by decide)) (fun _ => ?_)
  refine lv_iconst (v := -1) hx hb dX15_byteAt_8 (by decide) ?_
  refine lv_goto (tgt := 18) hx hb dX15_byteAt_9 (by decide) ?_
  have hP9 := hP.sub (ws' := [(h0, .inr (15, fs_h0))]) [0] rfl
  have hD9 := hD.sub (ws' := [(h0, .inr (15, fs_h0))]) [0] (by decide) rfl
  have hK9 := hK.sub (tys' := []) [] rfl
  rw [← hAe] at hD9
  refine W.widen (k := 0) (n := 0) (Nat.le_of_ble_eq_true rfl) (Nat.le_of_ble_eq_true rfl) ?_
  subst hAe
  exact (W.iret (v := (-1)) hx hb hr (fun t ht hW => ⟨⟨(-1), (), rfl, rfl, by rw [ht]; exact hP9, va_K.moved hW.alike hK9, hD9⟩, hS.F ht⟩) hS.2.2 dX15_byteAt_18)
def wv_m_blanks : List Cond := .code yX15_blanks cX15_blanks 1 none :: ([.fieldLink RX15 303 "MotionSignsModel" "at" "I", .methodLink RX15 306 yX15_byteAt, .instanceMethod yX15_byteAt, .selects RX15 yX15_byteAt yX15_byteAt, .initialized RX15] ++ (wsX150 ++ (wv_m_byteAt ++ ([]))))
theorem gw_m_blanks : wv_m_blanks.all goodWord = true := by decide +kernel
theorem in_m_blanks_X15 : ∀ w ∈ wsX150, w ∈ wv_m_blanks := fun _ h => List.mem_cons_of_mem _ (List.mem_append_right _ (List.mem_append_left _ h))
theorem g_m_blanks_m_byteAt_306 : GoodIn wv_m_blanks (wsV RX15 306 RX15 yX15_byteAt wv_m_byteAt) := goodIn_app (goodIn_of _ (by decide +kernel)) (goodIn_sub (fun _ h => List.mem_cons_of_mem _ (List.mem_append_right _ (List.mem_append_right _ (List.mem_append_left _ h)))) gw_m_byteAt)
set_option maxHeartbeats 4000000 in
set_option maxRecDepth 100000 in
/-- blanks -/
theorem c_m_blanks (l : Launch) (dC : Nat → ClassId) (dI : Nat → Nat → Nat) (h0 : Nat) (fs_h0 : List Value) (hF_h0 : mF 89 [(19, .int 0), (21, .int 0)] fs_h0) (sz : Nat) : Met l yX15_blanks wv_m_blanks ({ frames := 1, cells := 0, slots := 0, locals := 21 }) (va_Pc [.ref h0] (fun U => U.heap.size = sz ∧ va_P (dC, dI) vwCl [(h0, .inr (15, fs_h0))] U.heap ∧ va_K (dC, dI) vwCl [] U ∧ va_D (fun _ => True) [(h0, .inr (15, fs_h0))] ∧ w_N U)) (va_Qv (fun (_ : Unit) => True) (fun _ t => va_P (dC, dI) vwCl [(h0, .inr (15, fs_h0))] t.heap ∧ va_K (dC, dI) vwCl [] t ∧ va_D (va_A [(h0, .inr (15, fs_h0))] sz) [(h0, .inr (15, fs_h0))]) (va_A [(h0, .inr (15, fs_h0))] sz)) 0 0 (va_A [(h0, .inr (15, fs_h0))] sz) := by
  refine Met.ofW (cc := cX15_blanks) (maxL := 1) (ret := none) (by decide) rfl ?_
  intro p e s m args below meth c s₁ B hml hv
  obtain ⟨rfl, hsz, hP, hK, hD0, hN⟩ := hv
  have hx := B.exec
  have hb := B.bytes
  have hr := B.returns
  have hts := atoms_spec (ws := wv_m_blanks) B.pre
  have hown : s.vm.findClass RX15 = some m.cls := findClass_of_methodNamed B.named
  have hlocks := B.notSynchronized
  subst hsz
  have hD := hD0.self (sz := s.heap.size)
  generalize hAe : va_A [(h0, .inr (15, fs_h0))] s.heap.size = A at hD ⊢
  have hA : ∀ q : Nat, s.heap.size ≤ q → A q := fun q h => by rw [← hAe]; exact Or.inr h
  obtain ⟨H, hHe, hP, hS⟩ : ∃ H : Heap, H = s.heap ∧ va_P (dC, dI) vwCl [(h0, .inr (15, fs_h0))] H ∧ va_S A s.heap H [] := ⟨s.heap, rfl, hP, va_S.rf⟩
  have hl := lv_entry ([.ref h0]) (n := 1) (Nat.le_of_ble_eq_true rfl)
  rw [lg_entry_eq]
  generalize (lg_sl ([.ref h0]) ++ List.replicate (1 - (lg_sl ([.ref h0])).length) Slot.unset).toArray = ls at hl ⊢
  have hl : lv_has ls 1 [(0, .ref h0)] := hl
  rw [← hHe]; clear hHe
  refine lv_aload_n hx hb dX15_blanks_0 rfl (lv_at hl 0 rfl) ?_
  refine lv_aload_n hx hb dX15_blanks_1 rfl (lv_at hl 0 rfl) ?_
  refine va_get (D := (dC, dI)) (ci := 15) (v := .int 0) (C := RX15) (T := TX15) (N := 89) hx hb hts (in_m_blanks_X15) hown hK hP 0 rfl rfl 21 (by decide) (hts (.fieldLink RX15 303 "MotionSignsModel" "at" "I") (List.mem_of_getElem? (i := 1) rfl)) (fun _ h9 => h9) (mF.get hF_h0 1 rfl) dX15_blanks_2 ?_
  have hPc := hP.sub (ws' := [(h0, .inr (15, fs_h0))]) [0] rfl
  have hDc := hD.sub (ws' := [(h0, .inr (15, fs_h0))]) [0] (by decide) rfl
  have hKc := hK.sub (tys' := []) [] rfl
  have hFc := va_free (wc := [(h0, .inr (15, fs_h0))]) hD hS hA [0] rfl
  refine va_calli (va_runV (As := [.int 0]) (rest := []) ⟨hx, hb, hml, hown, hts⟩ (c_m_byteAt l dC dI h0 fs_h0 (mF.sub hF_h0 [0] rfl) H.size) (cwV 1 hts g_m_blanks_m_byteAt_306 rfl rfl rfl hv_X15_byteAt ⟨Nat.le_of_ble_eq_true rfl, Nat.le_of_ble_eq_true rfl⟩) ⟨fun a U g mk q => by obtain ⟨q0, q1, qP, qK, qD, qE0⟩ := q; exact ⟨q0, q1, qP, va_K.moved (u := U) (U := U.calling g mk a) (Vm.Alike.refl U.vm) qK, qD, w_N.same rfl qE0⟩, va_recv hKc hPc (ci := 15) (q0 := 0) rfl rfl, fun U hU hW => ⟨rfl, by rw [hU], by rw [hU]; exact hPc, va_K.moved hW.alike hKc, hDc.weaken (fun _ _ _ _ => trivial), w_N.warm hW hN⟩⟩ rfl rfl hl.1 rfl (lv_room (Nat.le_of_ble_eq_true rfl)) dX15_blanks_5 ⟨(Nat.le_of_ble_eq_true rfl), (Nat.le_of_ble_eq_true rfl)⟩) hS (fun q _ h => hFc q h) hFc (fun r_1 u t H1 locs1 ht hvm hw hB hz1 hk1 hS1 => ?_)
  obtain ⟨hP1, hK1, hD1⟩ := hB
  rw [ht] at hP1
  have hK1 := va_K.moved hvm.symm hK1
  have hJ := va_join (wr := []) (w1 := [(h0, .inr (15, fs_h0))]) hP hD [0] [] rfl rfl (by decide) (by decide) hk1 hFc hP1 hD1
  clear hP hD hPc hDc hKc hFc hz1; try clear hk1
  obtain ⟨hP, hD⟩ := hJ
  replace hK := (hK.sub (tys' := []) [] rfl).app (hK1.sub (tys' := []) [] rfl)
  clear hP1 hK1 hD1 hvm ht hS; try clear t
  try clear H
  revert hS1
  intro hS
  generalize H1 = H at hP hS ⊢; try clear H1
  replace hP : va_P (dC, dI) vwCl [(h0, .inr (15, fs_h0))] H := hP
  replace hD : va_D A [(h0, .inr (15, fs_h0))] := hD
  replace hK : va_K (dC, dI) vwCl [] s := hK
  have hw_2 : r_1 = (-1) := hw; clear hw
  subst hw_2
  refine lv_bipush (v := 32) hx hb dX15_blanks_8 (by decide) ?_
  refine lv_icmp_ne (tgt := 26) hx hb dX15_blanks_10 (by decide) (fun _ => ?_) (fun hc => absurd hc (by decide))
  have hP9 := hP.sub (ws' := [(h0, .inr (15, fs_h0))]) [0] rfl
  have hD9 := hD.sub (ws' := [(h0, .inr (15, fs_h0))]) [0] (by decide) rfl
  have hK9 := hK.sub (tys' := []) [] rfl
  rw [← hAe] at hD9
  refine W.widen (k := 0) (n := 0) (Nat.le_of_ble_eq_true rfl) (Nat.le_of_ble_eq_true rfl) ?_
  subst hAe
  exact (W.vret hx hb hr (fun t ht hW => ⟨⟨(), rfl, trivial, by rw [ht]; exact hP9, va_K.moved hW.alike hK9, hD9⟩, hS.F ht⟩) hS.2.2 dX15_blanks_26)
def wv_m_isLetter : List Cond := .code yX15_isLetter cX15_isLetter 1 (some .boolean) :: ([] ++ ([]))
theorem gw_m_isLetter : wv_m_isLetter.all goodWord = true := by decide +kernel
set_option maxHeartbeats 4000000 in
set_option maxRecDepth 100000 in
/-- isLetter -/
theorem c_m_isLetter (l : Launch) (dC : Nat → ClassId) (dI : Nat → Nat → Nat) (sz : Nat) : Met l yX15_isLetter wv_m_isLetter ({ frames := 0, cells := 0, slots := 0, locals := 0 }) (va_Pc [.int (-1)] (fun U => U.heap.size = sz ∧ va_P (dC, dI) vwCl [] U.heap ∧ va_K (dC, dI) vwCl [] U ∧ va_D (fun _ => True) [] ∧ w_N U)) (va_Qi (fun (r : Int32) (_ : Unit) => r = 0) (fun _ t => va_P (dC, dI) vwCl [] t.heap ∧ va_K (dC, dI) vwCl [] t ∧ va_D (va_A [] sz) []) (va_A [] sz)) 0 0 (va_A [] sz) := by
  refine Met.ofW (cc := cX15_isLetter) (maxL := 1) (ret := (some .boolean)) (by decide) rfl ?_
  intro p e s m args below meth c s₁ B hml hv
  obtain ⟨rfl, hsz, hP, hK, hD0, hN⟩ := hv
  have hx := B.exec
  have hb := B.bytes
  have hr := B.returns
  have hts := atoms_spec (ws := wv_m_isLetter) B.pre
  have hown : s.vm.findClass RX15 = some m.cls := findClass_of_methodNamed B.named
  have hlocks := B.notSynchronized
  subst hsz
  have hD := hD0.self (sz := s.heap.size)
  generalize hAe : va_A [] s.heap.size = A at hD ⊢
  have hA : ∀ q : Nat, s.heap.size ≤ q → A q := fun q h => by rw [← hAe]; exact Or.inr h
  obtain ⟨H, hHe, hP, hS⟩ : ∃ H : Heap, H = s.heap ∧ va_P (dC, dI) vwCl [] H ∧ va_S A s.heap H [] := ⟨s.heap, rfl, hP, va_S.rf⟩
  have hl := lv_entry ([.int (-1)]) (n := 1) (Nat.le_of_ble_eq_true rfl)
  rw [lg_entry_eq]
  generalize (lg_sl ([.int (-1)]) ++ List.replicate (1 - (lg_sl ([.int (-1)])).length) Slot.unset).toArray = ls at hl ⊢
  have hl : lv_has ls 1 [(0, .int (-1))] := hl
  rw [← hHe]; clear hHe
  refine lv_iload_n hx hb dX15_isLetter_0 rfl (lv_at hl 0 rfl) ?_
  refine lv_bipush (v := 97) hx hb dX15_isLetter_1 (by decide) ?_
  refine lv_icmp_lt (tgt := 16) hx hb dX15_isLetter_3 (by decide) (fun _ => ?_) (fun hc => absurd (by decide) hc)
  refine lv_iconst (v := 0) hx hb dX15_isLetter_16 (by decide) ?_
  have hP9 := hP.sub (ws' := []) [] rfl
  have hD9 := hD.sub (ws' := []) [] (by decide) rfl
  have hK9 := hK.sub (tys' := []) [] rfl
  rw [← hAe] at hD9
  refine W.widen (k := 0) (n := 0) (Nat.le_of_ble_eq_true rfl) (Nat.le_of_ble_eq_true rfl) ?_
  subst hAe
  exact (W.zret (v := 0) hx hb hr (by decide) (fun t ht hW => ⟨⟨0, (), rfl, rfl, by rw [ht]; exact hP9, va_K.moved hW.alike hK9, hD9⟩, hS.F ht⟩) hS.2.2 dX15_isLetter_17)
