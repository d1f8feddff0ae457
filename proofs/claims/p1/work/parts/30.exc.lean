theorem in_X11_closed_X11 : ∀ w ∈ wsX110, w ∈ wv_f_closed := by decide +kernel
theorem in_X11_count_X11 : ∀ w ∈ wsX110, w ∈ wv_f_count := by decide +kernel
theorem in_X11_fault_X11 : ∀ w ∈ wsX110, w ∈ wv_f_fault := by decide +kernel
theorem in_X11_needEquation_X11 : ∀ w ∈ wsX110, w ∈ wv_f_needEquation := by decide +kernel
theorem in_X11_needEquation_X2 : ∀ w ∈ wsX20, w ∈ wv_f_needEquation := by decide +kernel
theorem in_X11_restore_X11 : ∀ w ∈ wsX110, w ∈ wv_f_restore := by decide +kernel
theorem in_X11_within_X11 : ∀ w ∈ wsX110, w ∈ wv_f_within := by decide +kernel
theorem hd_X11_baseOf : yX11_baseOf.cls ≠ "java/lang/invoke/MethodHandle" ∧ yX11_baseOf.cls ≠ "java/lang/invoke/VarHandle" ∧ (parseMethodDescriptor yX11_baseOf.desc).map (fun d => d.parameters.length) = some 1 := by decide +kernel
theorem hd_X11_needDensities : yX11_needDensities.cls ≠ "java/lang/invoke/MethodHandle" ∧ yX11_needDensities.cls ≠ "java/lang/invoke/VarHandle" ∧ (parseMethodDescriptor yX11_needDensities.desc).map (fun d => d.parameters.length) = some 1 := by decide +kernel
theorem hd_X11_needEquation : yX11_needEquation.cls ≠ "java/lang/invoke/MethodHandle" ∧ yX11_needEquation.cls ≠ "java/lang/invoke/VarHandle" ∧ (parseMethodDescriptor yX11_needEquation.desc).map (fun d => d.parameters.length) = some 0 := by decide +kernel
def kCount (v : Int32) : Int32 := if v = 0 then 0 else if v = 1 then 0 else (-1)
def kWhat (v : Int32) : Prop := ¬ v < 0 ∧ v ≤ 2

def exn : List String := ["java/lang/RuntimeException", "java/lang/Exception"]
theorem exn_fit : ∀ n ∈ exn, Bundle.fit n = true := by decide +kernel
def w_msgs : List (Nat × String) := [(322, "no equation"), (325, "no such what")]
def w_exc : List String := ["java/lang/IllegalStateException", "java/lang/IllegalArgumentException"]
/-- what a throw wants beside the words: two statics of Throwable, the messages, three words that no list bears -/
def w_T (A : Nat → Prop) (U : State) (H : Heap) : Prop := vx_Zq Bundle.tN "UNASSIGNED_STACK" Bundle.steD A U H ∧ vx_Zq Bundle.tN "SUPPRESSED_SENTINEL" Bundle.listD A U H ∧ (∀ q ∈ w_msgs, ∃ sa : Nat, vk_R RX11 q.1 q.2 sa U) ∧ (∀ E ∈ w_exc, va_Nw (.castable E E) U) ∧ va_Nw (.declares (Bundle.initS "java/lang/RuntimeException")) U ∧ va_Nw (.declares (Bundle.initS "java/lang/Exception")) U ∧ va_Nw (.declares (Bundle.initS Bundle.tN)) U
theorem w_T.same {A : Nat → Prop} {u U : State} (hv : u.vm = U.vm) (hh : u.heap = U.heap) (h : w_T A u u.heap) : w_T A U U.heap := by
  obtain ⟨h1, h2, h3, h4, h5, h6, h7⟩ := h
  have al : u.vm.Alike U.vm := hv ▸ Vm.Alike.refl u.vm
  rw [hh] at h1 h2
  exact ⟨h1.moved al, h2.moved al, fun q hq => by obtain ⟨a, ha⟩ := h3 q hq; exact ⟨a, vk_R.same hv.symm ha⟩, fun E hE => va_Nw.same rfl hv (h4 E hE), va_Nw.same rfl hv h5, va_Nw.same rfl hv h6, va_Nw.same rfl hv h7⟩
theorem w_T.go {A B : Nat → Prop} {s U : State} {H : Heap} (h : w_T A s s.heap) (hW : s.WarmedH U.vm) (hq : ∀ q : Nat, q < s.heap.size → ¬ A q → H[q]? = s.heap[q]?) (hF : ∀ q, B q → A q) (hU : U.heap = H) : w_T B U U.heap := by
  obtain ⟨h1, h2, h3, h4, h5, h6, h7⟩ := h
  rw [hU]
  exact ⟨((h1.kept hq).narrow hF).moved hW.alike, ((h2.kept hq).narrow hF).moved hW.alike, fun q hq => by obtain ⟨a, ha⟩ := h3 q hq; exact ⟨a, vk_R.warm hW ha⟩, fun E hE => va_Nw.warmC hW (h4 E hE), va_Nw.warmD hW h5, va_Nw.warmD hW h6, va_Nw.warmD hW h7⟩
def badw (X : String) : List Cond := [.castable X X, .declares (Bundle.initS "java/lang/RuntimeException"), .declares (Bundle.initS "java/lang/Exception"), .declares (Bundle.initS Bundle.tN)]
def wt_ISE : List Cond := (vx_atS RX11 324 "java/lang/IllegalStateException" exn).filter goodWord
theorem gw_ISE : wt_ISE.all goodWord = true := by decide +kernel
theorem tb_ISE : ∀ w ∈ (vx_atS RX11 324 "java/lang/IllegalStateException" exn).filter (fun w => !goodWord w), w ∈ badw "java/lang/IllegalStateException" := by decide +kernel
theorem tc_ISE {A : Nat → Prop} {U : State} {H : Heap} {args : Array Value} (h : w_T A U H) : ∀ w ∈ badw "java/lang/IllegalStateException", w.before args U = true := vx_c (va_Nw.use rfl (h.2.2.2.1 _ (List.mem_of_getElem? (i := 0) rfl))) (vx_c (va_Nw.use rfl h.2.2.2.2.1) (vx_c (va_Nw.use rfl h.2.2.2.2.2.1) (vx_c (va_Nw.use rfl h.2.2.2.2.2.2) vx_n)))
theorem tg_ISE : ∀ w ∈ Cond.classLink RX11 320 "java/lang/IllegalStateException" :: Cond.initialized "java/lang/IllegalStateException" :: vx_atS RX11 324 "java/lang/IllegalStateException" exn, vx_ot w = true := by decide +kernel
def wt_IAE : List Cond := (vx_atS RX11 222 "java/lang/IllegalArgumentException" exn).filter goodWord
theorem gw_IAE : wt_IAE.all goodWord = true := by decide +kernel
theorem tb_IAE : ∀ w ∈ (vx_atS RX11 222 "java/lang/IllegalArgumentException" exn).filter (fun w => !goodWord w), w ∈ badw "java/lang/IllegalArgumentException" := by decide +kernel
theorem tc_IAE {A : Nat → Prop} {U : State} {H : Heap} {args : Array Value} (h : w_T A U H) : ∀ w ∈ badw "java/lang/IllegalArgumentException", w.before args U = true := vx_c (va_Nw.use rfl (h.2.2.2.1 _ (List.mem_of_getElem? (i := 1) rfl))) (vx_c (va_Nw.use rfl h.2.2.2.2.1) (vx_c (va_Nw.use rfl h.2.2.2.2.2.1) (vx_c (va_Nw.use rfl h.2.2.2.2.2.2) vx_n)))
theorem tg_IAE : ∀ w ∈ Cond.classLink RX11 218 "java/lang/IllegalArgumentException" :: Cond.initialized "java/lang/IllegalArgumentException" :: vx_atS RX11 222 "java/lang/IllegalArgumentException" exn, vx_ot w = true := by decide +kernel
theorem dX11_needEquation_0 : decode cX11_needEquation 0 = .ok (.aload_n 0, 1) := by decide +kernel
theorem dX11_needEquation_1 : decode cX11_needEquation 1 = .ok (.getfield 50, 3) := by decide +kernel
theorem dX11_needEquation_4 : decode cX11_needEquation 4 = .ok (.getfield 162, 3) := by decide +kernel
theorem dX11_needEquation_7 : decode cX11_needEquation 7 = .ok (.ifCond .ne 14, 3) := by decide +kernel
theorem dX11_needEquation_10 : decode cX11_needEquation 10 = .ok (.new 320, 3) := by decide +kernel
theorem dX11_needEquation_13 : decode cX11_needEquation 13 = .ok (.dup, 1) := by decide +kernel
theorem dX11_needEquation_14 : decode cX11_needEquation 14 = .ok (.ldc_w 322, 3) := by decide +kernel
theorem dX11_needEquation_17 : decode cX11_needEquation 17 = .ok (.invokespecial 324, 3) := by decide +kernel
theorem dX11_needEquation_20 : decode cX11_needEquation 20 = .ok (.athrow, 1) := by decide +kernel
theorem dX11_baseOf_0 : decode cX11_baseOf 0 = .ok (.aload_n 0, 1) := by decide +kernel
theorem dX11_baseOf_1 : decode cX11_baseOf 1 = .ok (.invokevirtual 159, 3) := by decide +kernel
theorem dX11_needDensities_0 : decode cX11_needDensities 0 = .ok (.aload_n 0, 1) := by decide +kernel
theorem dX11_needDensities_1 : decode cX11_needDensities 1 = .ok (.invokevirtual 159, 3) := by decide +kernel
theorem dX11_field_0 : decode cX11_field 0 = .ok (.aload_n 0, 1) := by decide +kernel
theorem dX11_field_1 : decode cX11_field 1 = .ok (.invokevirtual 159, 3) := by decide +kernel
theorem dX11_solution_0 : decode cX11_solution 0 = .ok (.aload_n 0, 1) := by decide +kernel
theorem dX11_solution_1 : decode cX11_solution 1 = .ok (.invokevirtual 159, 3) := by decide +kernel
theorem dX11_rest_0 : decode cX11_rest 0 = .ok (.aload_n 0, 1) := by decide +kernel
theorem dX11_rest_1 : decode cX11_rest 1 = .ok (.invokevirtual 159, 3) := by decide +kernel
theorem dX11_leaves_0 : decode cX11_leaves 0 = .ok (.aload_n 0, 1) := by decide +kernel
theorem dX11_leaves_1 : decode cX11_leaves 1 = .ok (.invokevirtual 159, 3) := by decide +kernel
theorem dX11_fields_0 : decode cX11_fields 0 = .ok (.aload_n 0, 1) := by decide +kernel
theorem dX11_fields_1 : decode cX11_fields 1 = .ok (.iload_n 1, 1) := by decide +kernel
theorem dX11_fields_2 : decode cX11_fields 2 = .ok (.invokevirtual 201, 3) := by decide +kernel
theorem dX11_number_0 : decode cX11_number 0 = .ok (.aload_n 0, 1) := by decide +kernel
theorem dX11_number_1 : decode cX11_number 1 = .ok (.iload_n 1, 1) := by decide +kernel
theorem dX11_number_2 : decode cX11_number 2 = .ok (.invokevirtual 201, 3) := by decide +kernel
theorem dX11_within_0 : decode cX11_within 0 = .ok (.aload_n 0, 1) := by decide +kernel
theorem dX11_within_1 : decode cX11_within 1 = .ok (.getfield 59, 3) := by decide +kernel
theorem dX11_within_4 : decode cX11_within 4 = .ok (.aload_n 0, 1) := by decide +kernel
theorem dX11_within_5 : decode cX11_within 5 = .ok (.iload_n 1, 1) := by decide +kernel
theorem dX11_within_6 : decode cX11_within 6 = .ok (.invokevirtual 201, 3) := by decide +kernel
theorem dX11_closed_0 : decode cX11_closed 0 = .ok (.aload_n 0, 1) := by decide +kernel
theorem dX11_closed_1 : decode cX11_closed 1 = .ok (.getfield 59, 3) := by decide +kernel
theorem dX11_closed_4 : decode cX11_closed 4 = .ok (.aload_n 0, 1) := by decide +kernel
theorem dX11_closed_5 : decode cX11_closed 5 = .ok (.iload_n 1, 1) := by decide +kernel
theorem dX11_closed_6 : decode cX11_closed 6 = .ok (.invokevirtual 201, 3) := by decide +kernel
theorem dX11_constant_0 : decode cX11_constant 0 = .ok (.aload_n 0, 1) := by decide +kernel
theorem dX11_constant_1 : decode cX11_constant 1 = .ok (.iload_n 1, 1) := by decide +kernel
theorem dX11_constant_2 : decode cX11_constant 2 = .ok (.invokevirtual 201, 3) := by decide +kernel
theorem dX11_kind_0 : decode cX11_kind 0 = .ok (.aload_n 0, 1) := by decide +kernel
theorem dX11_kind_1 : decode cX11_kind 1 = .ok (.iload_n 1, 1) := by decide +kernel
theorem dX11_kind_2 : decode cX11_kind 2 = .ok (.invokevirtual 201, 3) := by decide +kernel
theorem dX11_steps_0 : decode cX11_steps 0 = .ok (.aload_n 0, 1) := by decide +kernel
theorem dX11_steps_1 : decode cX11_steps 1 = .ok (.iload_n 1, 1) := by decide +kernel
theorem dX11_steps_2 : decode cX11_steps 2 = .ok (.invokevirtual 201, 3) := by decide +kernel
theorem dX11_bracket_0 : decode cX11_bracket 0 = .ok (.aload_n 0, 1) := by decide +kernel
theorem dX11_bracket_1 : decode cX11_bracket 1 = .ok (.iload_n 1, 1) := by decide +kernel
theorem dX11_bracket_2 : decode cX11_bracket 2 = .ok (.invokevirtual 201, 3) := by decide +kernel
theorem dX11_stretches_0 : decode cX11_stretches 0 = .ok (.aload_n 0, 1) := by decide +kernel
theorem dX11_stretches_1 : decode cX11_stretches 1 = .ok (.invokevirtual 159, 3) := by decide +kernel
theorem dX11_stretch_0 : decode cX11_stretch 0 = .ok (.aload_n 0, 1) := by decide +kernel
theorem dX11_stretch_1 : decode cX11_stretch 1 = .ok (.invokevirtual 159, 3) := by decide +kernel
theorem dX11_keeps_0 : decode cX11_keeps 0 = .ok (.aload_n 0, 1) := by decide +kernel
theorem dX11_keeps_1 : decode cX11_keeps 1 = .ok (.invokevirtual 159, 3) := by decide +kernel
theorem dX11_sums_0 : decode cX11_sums 0 = .ok (.aload_n 0, 1) := by decide +kernel
theorem dX11_sums_1 : decode cX11_sums 1 = .ok (.iload_n 1, 1) := by decide +kernel
theorem dX11_sums_2 : decode cX11_sums 2 = .ok (.invokevirtual 276, 3) := by decide +kernel
theorem dX11_sum_0 : decode cX11_sum 0 = .ok (.aload_n 0, 1) := by decide +kernel
theorem dX11_sum_1 : decode cX11_sum 1 = .ok (.iload_n 1, 1) := by decide +kernel
theorem dX11_sum_2 : decode cX11_sum 2 = .ok (.invokevirtual 276, 3) := by decide +kernel
theorem dX11_solves_0 : decode cX11_solves 0 = .ok (.aload_n 0, 1) := by decide +kernel
theorem dX11_solves_1 : decode cX11_solves 1 = .ok (.invokevirtual 159, 3) := by decide +kernel
theorem dX11_left_0 : decode cX11_left 0 = .ok (.aload_n 0, 1) := by decide +kernel
theorem dX11_left_1 : decode cX11_left 1 = .ok (.invokevirtual 159, 3) := by decide +kernel
theorem dX11_shifted_0 : decode cX11_shifted 0 = .ok (.aload_n 0, 1) := by decide +kernel
theorem dX11_shifted_1 : decode cX11_shifted 1 = .ok (.invokevirtual 159, 3) := by decide +kernel
theorem dX11_stretched_0 : decode cX11_stretched 0 = .ok (.aload_n 0, 1) := by decide +kernel
theorem dX11_stretched_1 : decode cX11_stretched 1 = .ok (.invokevirtual 159, 3) := by decide +kernel
theorem dX11_wave_0 : decode cX11_wave 0 = .ok (.aload_n 0, 1) := by decide +kernel
theorem dX11_wave_1 : decode cX11_wave 1 = .ok (.invokevirtual 159, 3) := by decide +kernel
theorem dX11_lines_0 : decode cX11_lines 0 = .ok (.aload_n 0, 1) := by decide +kernel
theorem dX11_lines_1 : decode cX11_lines 1 = .ok (.invokevirtual 159, 3) := by decide +kernel
theorem dX11_fault_0 : decode cX11_fault 0 = .ok (.aload_n 0, 1) := by decide +kernel
theorem dX11_fault_1 : decode cX11_fault 1 = .ok (.getfield 13, 3) := by decide +kernel
theorem dX11_fault_4 : decode cX11_fault 4 = .ok (.ireturn, 1) := by decide +kernel
theorem dX11_restore_0 : decode cX11_restore 0 = .ok (.aload_n 0, 1) := by decide +kernel
theorem dX11_restore_1 : decode cX11_restore 1 = .ok (.getfield 146, 3) := by decide +kernel
theorem dX11_restore_4 : decode cX11_restore 4 = .ok (.ifCond .le 11, 3) := by decide +kernel
theorem dX11_restore_15 : decode cX11_restore 15 = .ok (.iconst (-1), 1) := by decide +kernel
theorem dX11_restore_16 : decode cX11_restore 16 = .ok (.ireturn, 1) := by decide +kernel
theorem dX11_count_0 : decode cX11_count 0 = .ok (.iload_n 1, 1) := by decide +kernel
theorem dX11_count_1 : decode cX11_count 1 = .ok (.ifCond .ne 8, 3) := by decide +kernel
theorem dX11_count_9 : decode cX11_count 9 = .ok (.iload_n 1, 1) := by decide +kernel
theorem dX11_count_10 : decode cX11_count 10 = .ok (.iconst 1, 1) := by decide +kernel
theorem dX11_count_11 : decode cX11_count 11 = .ok (.if_icmp .ne 10, 3) := by decide +kernel
theorem dX11_count_21 : decode cX11_count 21 = .ok (.iconst (-1), 1) := by decide +kernel
theorem dX11_count_22 : decode cX11_count 22 = .ok (.ireturn, 1) := by decide +kernel
theorem dX11_count_14 : decode cX11_count 14 = .ok (.aload_n 0, 1) := by decide +kernel
theorem dX11_count_15 : decode cX11_count 15 = .ok (.getfield 112, 3) := by decide +kernel
theorem dX11_count_18 : decode cX11_count 18 = .ok (.goto 4, 3) := by decide +kernel
theorem dX11_count_4 : decode cX11_count 4 = .ok (.aload_n 0, 1) := by decide +kernel
theorem dX11_count_5 : decode cX11_count 5 = .ok (.getfield 146, 3) := by decide +kernel
theorem dX11_count_8 : decode cX11_count 8 = .ok (.ireturn, 1) := by decide +kernel
theorem dX11_needWhat_0 : decode cX11_needWhat 0 = .ok (.iload_n 0, 1) := by decide +kernel
theorem dX11_needWhat_1 : decode cX11_needWhat 1 = .ok (.ifCond .lt 8, 3) := by decide +kernel
theorem dX11_needWhat_9 : decode cX11_needWhat 9 = .ok (.new 218, 3) := by decide +kernel
theorem dX11_needWhat_12 : decode cX11_needWhat 12 = .ok (.dup, 1) := by decide +kernel
theorem dX11_needWhat_13 : decode cX11_needWhat 13 = .ok (.ldc_w 325, 3) := by decide +kernel
theorem dX11_needWhat_16 : decode cX11_needWhat 16 = .ok (.invokespecial 222, 3) := by decide +kernel
theorem dX11_needWhat_19 : decode cX11_needWhat 19 = .ok (.athrow, 1) := by decide +kernel
theorem dX11_needWhat_4 : decode cX11_needWhat 4 = .ok (.iload_n 0, 1) := by decide +kernel
theorem dX11_needWhat_5 : decode cX11_needWhat 5 = .ok (.iload_n 1, 1) := by decide +kernel
theorem dX11_needWhat_6 : decode cX11_needWhat 6 = .ok (.if_icmp .le 14, 3) := by decide +kernel
theorem dX11_needWhat_20 : decode cX11_needWhat 20 = .ok (.return_, 1) := by decide +kernel
