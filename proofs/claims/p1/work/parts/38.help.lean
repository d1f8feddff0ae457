theorem w_nilP {D : va_G} {cl : List vw_C} {H : Heap} : va_P D cl [] H := fun k q h => by simp at h
theorem w_nilD {A : Nat → Prop} : va_D A [] := ⟨fun i j p q h => by simp at h, fun k q h => by simp at h⟩
/-- which thrown ones a handler doesn't take -/
def w_C (_A : Nat → Prop) (U : State) (_H : Heap) : Prop := va_Nc "java/lang/IllegalStateException" "java/util/NoSuchElementException" U ∧ va_Nc "java/lang/IllegalStateException" "java/lang/IllegalArgumentException" U
theorem w_C.same {A : Nat → Prop} {u U : State} (hv : u.vm = U.vm) (_hh : u.heap = U.heap) (h : w_C A u u.heap) : w_C A U U.heap := ⟨va_Nc.moved (hv ▸ Vm.Alike.refl u.vm) h.1, va_Nc.moved (hv ▸ Vm.Alike.refl u.vm) h.2⟩
theorem w_C.go {A B : Nat → Prop} {s U : State} {H : Heap} (h : w_C A s s.heap) (hW : s.WarmedH U.vm) (_hq : ∀ q : Nat, q < s.heap.size → ¬ A q → H[q]? = s.heap[q]?) (_hF : ∀ q, B q → A q) (_hU : U.heap = H) : w_C B U U.heap := ⟨va_Nc.moved hW.alike h.1, va_Nc.moved hW.alike h.2⟩

theorem hv_X11_bracket : yX11_bracket.cls = RX11 ∧ yX11_bracket.cls ≠ "java/lang/invoke/MethodHandle" ∧ yX11_bracket.cls ≠ "java/lang/invoke/VarHandle" ∧ (parseMethodDescriptor yX11_bracket.desc).map (fun d => d.parameters.length) = some 3 := by decide +kernel
theorem hv_X11_closed : yX11_closed.cls = RX11 ∧ yX11_closed.cls ≠ "java/lang/invoke/MethodHandle" ∧ yX11_closed.cls ≠ "java/lang/invoke/VarHandle" ∧ (parseMethodDescriptor yX11_closed.desc).map (fun d => d.parameters.length) = some 1 := by decide +kernel
theorem hv_X11_constant : yX11_constant.cls = RX11 ∧ yX11_constant.cls ≠ "java/lang/invoke/MethodHandle" ∧ yX11_constant.cls ≠ "java/lang/invoke/VarHandle" ∧ (parseMethodDescriptor yX11_constant.desc).map (fun d => d.parameters.length) = some 5 := by decide +kernel
theorem hv_X11_equation : yX11_equation.cls = RX11 ∧ yX11_equation.cls ≠ "java/lang/invoke/MethodHandle" ∧ yX11_equation.cls ≠ "java/lang/invoke/VarHandle" ∧ (parseMethodDescriptor yX11_equation.desc).map (fun d => d.parameters.length) = some 1 := by decide +kernel
theorem hv_X11_field : yX11_field.cls = RX11 ∧ yX11_field.cls ≠ "java/lang/invoke/MethodHandle" ∧ yX11_field.cls ≠ "java/lang/invoke/VarHandle" ∧ (parseMethodDescriptor yX11_field.desc).map (fun d => d.parameters.length) = some 1 := by decide +kernel
theorem hv_X11_fields : yX11_fields.cls = RX11 ∧ yX11_fields.cls ≠ "java/lang/invoke/MethodHandle" ∧ yX11_fields.cls ≠ "java/lang/invoke/VarHandle" ∧ (parseMethodDescriptor yX11_fields.desc).map (fun d => d.parameters.length) = some 1 := by decide +kernel
theorem hv_X11_keeps : yX11_keeps.cls = RX11 ∧ yX11_keeps.cls ≠ "java/lang/invoke/MethodHandle" ∧ yX11_keeps.cls ≠ "java/lang/invoke/VarHandle" ∧ (parseMethodDescriptor yX11_keeps.desc).map (fun d => d.parameters.length) = some 3 := by decide +kernel
theorem hv_X11_kind : yX11_kind.cls = RX11 ∧ yX11_kind.cls ≠ "java/lang/invoke/MethodHandle" ∧ yX11_kind.cls ≠ "java/lang/invoke/VarHandle" ∧ (parseMethodDescriptor yX11_kind.desc).map (fun d => d.parameters.length) = some 2 := by decide +kernel
theorem hv_X11_leaves : yX11_leaves.cls = RX11 ∧ yX11_leaves.cls ≠ "java/lang/invoke/MethodHandle" ∧ yX11_leaves.cls ≠ "java/lang/invoke/VarHandle" ∧ (parseMethodDescriptor yX11_leaves.desc).map (fun d => d.parameters.length) = some 0 := by decide +kernel
theorem hv_X11_left : yX11_left.cls = RX11 ∧ yX11_left.cls ≠ "java/lang/invoke/MethodHandle" ∧ yX11_left.cls ≠ "java/lang/invoke/VarHandle" ∧ (parseMethodDescriptor yX11_left.desc).map (fun d => d.parameters.length) = some 2 := by decide +kernel
theorem hv_X11_lines : yX11_lines.cls = RX11 ∧ yX11_lines.cls ≠ "java/lang/invoke/MethodHandle" ∧ yX11_lines.cls ≠ "java/lang/invoke/VarHandle" ∧ (parseMethodDescriptor yX11_lines.desc).map (fun d => d.parameters.length) = some 1 := by decide +kernel
theorem hv_X11_number : yX11_number.cls = RX11 ∧ yX11_number.cls ≠ "java/lang/invoke/MethodHandle" ∧ yX11_number.cls ≠ "java/lang/invoke/VarHandle" ∧ (parseMethodDescriptor yX11_number.desc).map (fun d => d.parameters.length) = some 4 := by decide +kernel
theorem hv_X11_rest : yX11_rest.cls = RX11 ∧ yX11_rest.cls ≠ "java/lang/invoke/MethodHandle" ∧ yX11_rest.cls ≠ "java/lang/invoke/VarHandle" ∧ (parseMethodDescriptor yX11_rest.desc).map (fun d => d.parameters.length) = some 1 := by decide +kernel
theorem hv_X11_shifted : yX11_shifted.cls = RX11 ∧ yX11_shifted.cls ≠ "java/lang/invoke/MethodHandle" ∧ yX11_shifted.cls ≠ "java/lang/invoke/VarHandle" ∧ (parseMethodDescriptor yX11_shifted.desc).map (fun d => d.parameters.length) = some 2 := by decide +kernel
theorem hv_X11_solution : yX11_solution.cls = RX11 ∧ yX11_solution.cls ≠ "java/lang/invoke/MethodHandle" ∧ yX11_solution.cls ≠ "java/lang/invoke/VarHandle" ∧ (parseMethodDescriptor yX11_solution.desc).map (fun d => d.parameters.length) = some 1 := by decide +kernel
theorem hv_X11_solves : yX11_solves.cls = RX11 ∧ yX11_solves.cls ≠ "java/lang/invoke/MethodHandle" ∧ yX11_solves.cls ≠ "java/lang/invoke/VarHandle" ∧ (parseMethodDescriptor yX11_solves.desc).map (fun d => d.parameters.length) = some 0 := by decide +kernel
theorem hv_X11_steps : yX11_steps.cls = RX11 ∧ yX11_steps.cls ≠ "java/lang/invoke/MethodHandle" ∧ yX11_steps.cls ≠ "java/lang/invoke/VarHandle" ∧ (parseMethodDescriptor yX11_steps.desc).map (fun d => d.parameters.length) = some 3 := by decide +kernel
theorem hv_X11_stretch : yX11_stretch.cls = RX11 ∧ yX11_stretch.cls ≠ "java/lang/invoke/MethodHandle" ∧ yX11_stretch.cls ≠ "java/lang/invoke/VarHandle" ∧ (parseMethodDescriptor yX11_stretch.desc).map (fun d => d.parameters.length) = some 2 := by decide +kernel
theorem hv_X11_stretched : yX11_stretched.cls = RX11 ∧ yX11_stretched.cls ≠ "java/lang/invoke/MethodHandle" ∧ yX11_stretched.cls ≠ "java/lang/invoke/VarHandle" ∧ (parseMethodDescriptor yX11_stretched.desc).map (fun d => d.parameters.length) = some 2 := by decide +kernel
theorem hv_X11_stretches : yX11_stretches.cls = RX11 ∧ yX11_stretches.cls ≠ "java/lang/invoke/MethodHandle" ∧ yX11_stretches.cls ≠ "java/lang/invoke/VarHandle" ∧ (parseMethodDescriptor yX11_stretches.desc).map (fun d => d.parameters.length) = some 0 := by decide +kernel
theorem hv_X11_sum : yX11_sum.cls = RX11 ∧ yX11_sum.cls ≠ "java/lang/invoke/MethodHandle" ∧ yX11_sum.cls ≠ "java/lang/invoke/VarHandle" ∧ (parseMethodDescriptor yX11_sum.desc).map (fun d => d.parameters.length) = some 4 := by decide +kernel
theorem hv_X11_sums : yX11_sums.cls = RX11 ∧ yX11_sums.cls ≠ "java/lang/invoke/MethodHandle" ∧ yX11_sums.cls ≠ "java/lang/invoke/VarHandle" ∧ (parseMethodDescriptor yX11_sums.desc).map (fun d => d.parameters.length) = some 1 := by decide +kernel
theorem hv_X11_term : yX11_term.cls = RX11 ∧ yX11_term.cls ≠ "java/lang/invoke/MethodHandle" ∧ yX11_term.cls ≠ "java/lang/invoke/VarHandle" ∧ (parseMethodDescriptor yX11_term.desc).map (fun d => d.parameters.length) = some 1 := by decide +kernel
theorem hv_X11_told : yX11_told.cls = RX11 ∧ yX11_told.cls ≠ "java/lang/invoke/MethodHandle" ∧ yX11_told.cls ≠ "java/lang/invoke/VarHandle" ∧ (parseMethodDescriptor yX11_told.desc).map (fun d => d.parameters.length) = some 1 := by decide +kernel
theorem hv_X11_wave : yX11_wave.cls = RX11 ∧ yX11_wave.cls ≠ "java/lang/invoke/MethodHandle" ∧ yX11_wave.cls ≠ "java/lang/invoke/VarHandle" ∧ (parseMethodDescriptor yX11_wave.desc).map (fun d => d.parameters.length) = some 2 := by decide +kernel
theorem hv_X11_within : yX11_within.cls = RX11 ∧ yX11_within.cls ≠ "java/lang/invoke/MethodHandle" ∧ yX11_within.cls ≠ "java/lang/invoke/VarHandle" ∧ (parseMethodDescriptor yX11_within.desc).map (fun d => d.parameters.length) = some 1 := by decide +kernel
theorem dL_equation_0 : decode cL_equation 0 = .ok (.aload_n 2, 1) := by decide +kernel
theorem dL_equation_1 : decode cL_equation 1 = .ok (.iconst 0, 1) := by decide +kernel
theorem dL_equation_2 : decode cL_equation 2 = .ok (.aload_n 0, 1) := by decide +kernel
theorem dL_equation_3 : decode cL_equation 3 = .ok (.iload_n 1, 1) := by decide +kernel
theorem dL_equation_4 : decode cL_equation 4 = .ok (.invokevirtual 7, 3) := by decide +kernel
theorem dL_equation_12 : decode cL_equation 12 = .ok (.astore_n 3, 1) := by decide +kernel
theorem dL_equation_13 : decode cL_equation 13 = .ok (.iconst 1, 1) := by decide +kernel
theorem dL_equation_14 : decode cL_equation 14 = .ok (.ireturn, 1) := by decide +kernel
theorem dL_equation_7 : decode cL_equation 7 = .ok (.i2l, 1) := by decide +kernel
theorem dL_equation_8 : decode cL_equation 8 = .ok (.lastore, 1) := by decide +kernel
theorem dL_equation_9 : decode cL_equation 9 = .ok (.goto 6, 3) := by decide +kernel
theorem dL_equation_15 : decode cL_equation 15 = .ok (.iconst 0, 1) := by decide +kernel
theorem dL_equation_16 : decode cL_equation 16 = .ok (.ireturn, 1) := by decide +kernel
theorem dL_field_0 : decode cL_field 0 = .ok (.aload_n 2, 1) := by decide +kernel
theorem dL_field_1 : decode cL_field 1 = .ok (.iconst 0, 1) := by decide +kernel
theorem dL_field_2 : decode cL_field 2 = .ok (.aload_n 0, 1) := by decide +kernel
theorem dL_field_3 : decode cL_field 3 = .ok (.iload_n 1, 1) := by decide +kernel
theorem dL_field_4 : decode cL_field 4 = .ok (.invokevirtual 15, 3) := by decide +kernel
theorem dL_field_15 : decode cL_field 15 = .ok (.astore_n 3, 1) := by decide +kernel
theorem dL_field_16 : decode cL_field 16 = .ok (.iconst 2, 1) := by decide +kernel
theorem dL_field_17 : decode cL_field 17 = .ok (.ireturn, 1) := by decide +kernel
theorem dL_solution_0 : decode cL_solution 0 = .ok (.aload_n 2, 1) := by decide +kernel
theorem dL_solution_1 : decode cL_solution 1 = .ok (.iconst 0, 1) := by decide +kernel
theorem dL_solution_2 : decode cL_solution 2 = .ok (.aload_n 0, 1) := by decide +kernel
theorem dL_solution_3 : decode cL_solution 3 = .ok (.iload_n 1, 1) := by decide +kernel
theorem dL_solution_4 : decode cL_solution 4 = .ok (.invokevirtual 20, 3) := by decide +kernel
theorem dL_solution_15 : decode cL_solution 15 = .ok (.astore_n 3, 1) := by decide +kernel
theorem dL_solution_16 : decode cL_solution 16 = .ok (.iconst 2, 1) := by decide +kernel
theorem dL_solution_17 : decode cL_solution 17 = .ok (.ireturn, 1) := by decide +kernel
theorem dL_told_0 : decode cL_told 0 = .ok (.aload_n 2, 1) := by decide +kernel
theorem dL_told_1 : decode cL_told 1 = .ok (.iconst 0, 1) := by decide +kernel
theorem dL_told_2 : decode cL_told 2 = .ok (.aload_n 0, 1) := by decide +kernel
theorem dL_told_3 : decode cL_told 3 = .ok (.iload_n 1, 1) := by decide +kernel
theorem dL_told_4 : decode cL_told 4 = .ok (.invokevirtual 23, 3) := by decide +kernel
theorem dL_told_12 : decode cL_told 12 = .ok (.astore_n 3, 1) := by decide +kernel
theorem dL_told_13 : decode cL_told 13 = .ok (.iconst 1, 1) := by decide +kernel
theorem dL_told_14 : decode cL_told 14 = .ok (.ireturn, 1) := by decide +kernel
theorem dL_told_7 : decode cL_told 7 = .ok (.i2l, 1) := by decide +kernel
theorem dL_told_8 : decode cL_told 8 = .ok (.lastore, 1) := by decide +kernel
theorem dL_told_9 : decode cL_told 9 = .ok (.goto 6, 3) := by decide +kernel
theorem dL_told_15 : decode cL_told 15 = .ok (.iconst 0, 1) := by decide +kernel
theorem dL_told_16 : decode cL_told 16 = .ok (.ireturn, 1) := by decide +kernel
theorem dL_term_0 : decode cL_term 0 = .ok (.aload_n 2, 1) := by decide +kernel
theorem dL_term_1 : decode cL_term 1 = .ok (.iconst 0, 1) := by decide +kernel
theorem dL_term_2 : decode cL_term 2 = .ok (.aload_n 0, 1) := by decide +kernel
theorem dL_term_3 : decode cL_term 3 = .ok (.iload_n 1, 1) := by decide +kernel
theorem dL_term_4 : decode cL_term 4 = .ok (.invokevirtual 26, 3) := by decide +kernel
theorem dL_term_12 : decode cL_term 12 = .ok (.astore_n 3, 1) := by decide +kernel
theorem dL_term_13 : decode cL_term 13 = .ok (.iconst 1, 1) := by decide +kernel
theorem dL_term_14 : decode cL_term 14 = .ok (.ireturn, 1) := by decide +kernel
theorem dL_term_7 : decode cL_term 7 = .ok (.i2l, 1) := by decide +kernel
theorem dL_term_8 : decode cL_term 8 = .ok (.lastore, 1) := by decide +kernel
theorem dL_term_9 : decode cL_term 9 = .ok (.goto 6, 3) := by decide +kernel
theorem dL_term_15 : decode cL_term 15 = .ok (.iconst 0, 1) := by decide +kernel
theorem dL_term_16 : decode cL_term 16 = .ok (.ireturn, 1) := by decide +kernel
theorem dL_rest_0 : decode cL_rest 0 = .ok (.aload_n 2, 1) := by decide +kernel
theorem dL_rest_1 : decode cL_rest 1 = .ok (.iconst 0, 1) := by decide +kernel
theorem dL_rest_2 : decode cL_rest 2 = .ok (.aload_n 0, 1) := by decide +kernel
theorem dL_rest_3 : decode cL_rest 3 = .ok (.iload_n 1, 1) := by decide +kernel
theorem dL_rest_4 : decode cL_rest 4 = .ok (.invokevirtual 29, 3) := by decide +kernel
theorem dL_rest_15 : decode cL_rest 15 = .ok (.astore_n 3, 1) := by decide +kernel
theorem dL_rest_16 : decode cL_rest 16 = .ok (.iconst 2, 1) := by decide +kernel
theorem dL_rest_17 : decode cL_rest 17 = .ok (.ireturn, 1) := by decide +kernel
theorem dL_leaves_0 : decode cL_leaves 0 = .ok (.aload_n 1, 1) := by decide +kernel
theorem dL_leaves_1 : decode cL_leaves 1 = .ok (.iconst 0, 1) := by decide +kernel
theorem dL_leaves_2 : decode cL_leaves 2 = .ok (.aload_n 0, 1) := by decide +kernel
theorem dL_leaves_3 : decode cL_leaves 3 = .ok (.invokevirtual 32, 3) := by decide +kernel
theorem dL_leaves_18 : decode cL_leaves 18 = .ok (.astore_n 2, 1) := by decide +kernel
theorem dL_leaves_19 : decode cL_leaves 19 = .ok (.iconst 1, 1) := by decide +kernel
theorem dL_leaves_20 : decode cL_leaves 20 = .ok (.ireturn, 1) := by decide +kernel
theorem dL_fields_0 : decode cL_fields 0 = .ok (.aload_n 2, 1) := by decide +kernel
theorem dL_fields_1 : decode cL_fields 1 = .ok (.iconst 0, 1) := by decide +kernel
theorem dL_fields_2 : decode cL_fields 2 = .ok (.aload_n 0, 1) := by decide +kernel
theorem dL_fields_3 : decode cL_fields 3 = .ok (.iload_n 1, 1) := by decide +kernel
theorem dL_fields_4 : decode cL_fields 4 = .ok (.invokevirtual 36, 3) := by decide +kernel
theorem dL_fields_15 : decode cL_fields 15 = .ok (.astore_n 3, 1) := by decide +kernel
theorem dL_fields_16 : decode cL_fields 16 = .ok (.iconst 2, 1) := by decide +kernel
theorem dL_fields_17 : decode cL_fields 17 = .ok (.ireturn, 1) := by decide +kernel
theorem dL_number_0 : decode cL_number 0 = .ok (.aload 5, 2) := by decide +kernel
theorem dL_number_2 : decode cL_number 2 = .ok (.iconst 0, 1) := by decide +kernel
theorem dL_number_3 : decode cL_number 3 = .ok (.aload_n 0, 1) := by decide +kernel
theorem dL_number_4 : decode cL_number 4 = .ok (.iload_n 1, 1) := by decide +kernel
theorem dL_number_5 : decode cL_number 5 = .ok (.iload_n 2, 1) := by decide +kernel
theorem dL_number_6 : decode cL_number 6 = .ok (.iload_n 3, 1) := by decide +kernel
theorem dL_number_7 : decode cL_number 7 = .ok (.iload 4, 2) := by decide +kernel
theorem dL_number_9 : decode cL_number 9 = .ok (.invokevirtual 39, 3) := by decide +kernel
theorem dL_number_24 : decode cL_number 24 = .ok (.astore 6, 2) := by decide +kernel
theorem dL_number_26 : decode cL_number 26 = .ok (.iconst 3, 1) := by decide +kernel
theorem dL_number_27 : decode cL_number 27 = .ok (.ireturn, 1) := by decide +kernel
theorem dL_within_0 : decode cL_within 0 = .ok (.aload_n 2, 1) := by decide +kernel
theorem dL_within_1 : decode cL_within 1 = .ok (.iconst 0, 1) := by decide +kernel
theorem dL_within_2 : decode cL_within 2 = .ok (.aload_n 0, 1) := by decide +kernel
theorem dL_within_3 : decode cL_within 3 = .ok (.iload_n 1, 1) := by decide +kernel
theorem dL_within_4 : decode cL_within 4 = .ok (.invokevirtual 45, 3) := by decide +kernel
theorem dL_within_22 : decode cL_within 22 = .ok (.astore_n 3, 1) := by decide +kernel
theorem dL_within_23 : decode cL_within 23 = .ok (.iconst 2, 1) := by decide +kernel
theorem dL_within_24 : decode cL_within 24 = .ok (.ireturn, 1) := by decide +kernel
theorem dL_closed_0 : decode cL_closed 0 = .ok (.aload_n 2, 1) := by decide +kernel
theorem dL_closed_1 : decode cL_closed 1 = .ok (.iconst 0, 1) := by decide +kernel
theorem dL_closed_2 : decode cL_closed 2 = .ok (.aload_n 0, 1) := by decide +kernel
theorem dL_closed_3 : decode cL_closed 3 = .ok (.iload_n 1, 1) := by decide +kernel
theorem dL_closed_4 : decode cL_closed 4 = .ok (.invokevirtual 49, 3) := by decide +kernel
theorem dL_closed_22 : decode cL_closed 22 = .ok (.astore_n 3, 1) := by decide +kernel
theorem dL_closed_23 : decode cL_closed 23 = .ok (.iconst 2, 1) := by decide +kernel
theorem dL_closed_24 : decode cL_closed 24 = .ok (.ireturn, 1) := by decide +kernel
theorem dL_constant_0 : decode cL_constant 0 = .ok (.aload 6, 2) := by decide +kernel
theorem dL_constant_2 : decode cL_constant 2 = .ok (.iconst 0, 1) := by decide +kernel
theorem dL_constant_3 : decode cL_constant 3 = .ok (.aload_n 0, 1) := by decide +kernel
theorem dL_constant_4 : decode cL_constant 4 = .ok (.iload_n 1, 1) := by decide +kernel
theorem dL_constant_5 : decode cL_constant 5 = .ok (.iload_n 2, 1) := by decide +kernel
theorem dL_constant_6 : decode cL_constant 6 = .ok (.iload_n 3, 1) := by decide +kernel
theorem dL_constant_7 : decode cL_constant 7 = .ok (.iload 4, 2) := by decide +kernel
theorem dL_constant_9 : decode cL_constant 9 = .ok (.iload 5, 2) := by decide +kernel
theorem dL_constant_11 : decode cL_constant 11 = .ok (.invokevirtual 52, 3) := by decide +kernel
theorem dL_constant_26 : decode cL_constant 26 = .ok (.astore 7, 2) := by decide +kernel
theorem dL_constant_28 : decode cL_constant 28 = .ok (.iconst 3, 1) := by decide +kernel
theorem dL_constant_29 : decode cL_constant 29 = .ok (.ireturn, 1) := by decide +kernel
theorem dL_kind_0 : decode cL_kind 0 = .ok (.aload_n 3, 1) := by decide +kernel
theorem dL_kind_1 : decode cL_kind 1 = .ok (.iconst 0, 1) := by decide +kernel
theorem dL_kind_2 : decode cL_kind 2 = .ok (.aload_n 0, 1) := by decide +kernel
theorem dL_kind_3 : decode cL_kind 3 = .ok (.iload_n 1, 1) := by decide +kernel
theorem dL_kind_4 : decode cL_kind 4 = .ok (.iload_n 2, 1) := by decide +kernel
theorem dL_kind_5 : decode cL_kind 5 = .ok (.invokevirtual 56, 3) := by decide +kernel
theorem dL_kind_17 : decode cL_kind 17 = .ok (.astore 4, 2) := by decide +kernel
theorem dL_kind_19 : decode cL_kind 19 = .ok (.iconst 2, 1) := by decide +kernel
theorem dL_kind_20 : decode cL_kind 20 = .ok (.ireturn, 1) := by decide +kernel
theorem dL_steps_0 : decode cL_steps 0 = .ok (.aload 4, 2) := by decide +kernel
theorem dL_steps_2 : decode cL_steps 2 = .ok (.iconst 0, 1) := by decide +kernel
theorem dL_steps_3 : decode cL_steps 3 = .ok (.aload_n 0, 1) := by decide +kernel
theorem dL_steps_4 : decode cL_steps 4 = .ok (.iload_n 1, 1) := by decide +kernel
theorem dL_steps_5 : decode cL_steps 5 = .ok (.iload_n 2, 1) := by decide +kernel
theorem dL_steps_6 : decode cL_steps 6 = .ok (.iload_n 3, 1) := by decide +kernel
theorem dL_steps_7 : decode cL_steps 7 = .ok (.invokevirtual 60, 3) := by decide +kernel
theorem dL_steps_23 : decode cL_steps 23 = .ok (.astore 5, 2) := by decide +kernel
theorem dL_steps_25 : decode cL_steps 25 = .ok (.iconst 3, 1) := by decide +kernel
theorem dL_steps_26 : decode cL_steps 26 = .ok (.ireturn, 1) := by decide +kernel
theorem dL_bracket_0 : decode cL_bracket 0 = .ok (.aload 4, 2) := by decide +kernel
theorem dL_bracket_2 : decode cL_bracket 2 = .ok (.iconst 0, 1) := by decide +kernel
theorem dL_bracket_3 : decode cL_bracket 3 = .ok (.aload_n 0, 1) := by decide +kernel
theorem dL_bracket_4 : decode cL_bracket 4 = .ok (.iload_n 1, 1) := by decide +kernel
theorem dL_bracket_5 : decode cL_bracket 5 = .ok (.iload_n 2, 1) := by decide +kernel
theorem dL_bracket_6 : decode cL_bracket 6 = .ok (.iload_n 3, 1) := by decide +kernel
theorem dL_bracket_7 : decode cL_bracket 7 = .ok (.invokevirtual 64, 3) := by decide +kernel
theorem dL_bracket_23 : decode cL_bracket 23 = .ok (.astore 5, 2) := by decide +kernel
theorem dL_bracket_25 : decode cL_bracket 25 = .ok (.iconst 3, 1) := by decide +kernel
theorem dL_bracket_26 : decode cL_bracket 26 = .ok (.ireturn, 1) := by decide +kernel
theorem dL_stretches_0 : decode cL_stretches 0 = .ok (.aload_n 1, 1) := by decide +kernel
theorem dL_stretches_1 : decode cL_stretches 1 = .ok (.iconst 0, 1) := by decide +kernel
theorem dL_stretches_2 : decode cL_stretches 2 = .ok (.aload_n 0, 1) := by decide +kernel
theorem dL_stretches_3 : decode cL_stretches 3 = .ok (.invokevirtual 67, 3) := by decide +kernel
theorem dL_stretches_11 : decode cL_stretches 11 = .ok (.astore_n 2, 1) := by decide +kernel
theorem dL_stretches_12 : decode cL_stretches 12 = .ok (.iconst 1, 1) := by decide +kernel
theorem dL_stretches_13 : decode cL_stretches 13 = .ok (.ireturn, 1) := by decide +kernel
theorem dL_stretch_0 : decode cL_stretch 0 = .ok (.aload_n 3, 1) := by decide +kernel
theorem dL_stretch_1 : decode cL_stretch 1 = .ok (.iconst 0, 1) := by decide +kernel
theorem dL_stretch_2 : decode cL_stretch 2 = .ok (.aload_n 0, 1) := by decide +kernel
theorem dL_stretch_3 : decode cL_stretch 3 = .ok (.iload_n 1, 1) := by decide +kernel
theorem dL_stretch_4 : decode cL_stretch 4 = .ok (.iload_n 2, 1) := by decide +kernel
theorem dL_stretch_5 : decode cL_stretch 5 = .ok (.invokevirtual 71, 3) := by decide +kernel
theorem dL_stretch_21 : decode cL_stretch 21 = .ok (.astore 4, 2) := by decide +kernel
theorem dL_stretch_23 : decode cL_stretch 23 = .ok (.iconst 3, 1) := by decide +kernel
theorem dL_stretch_24 : decode cL_stretch 24 = .ok (.ireturn, 1) := by decide +kernel
theorem dL_keeps_0 : decode cL_keeps 0 = .ok (.aload 4, 2) := by decide +kernel
theorem dL_keeps_2 : decode cL_keeps 2 = .ok (.iconst 0, 1) := by decide +kernel
theorem dL_keeps_3 : decode cL_keeps 3 = .ok (.aload_n 0, 1) := by decide +kernel
theorem dL_keeps_4 : decode cL_keeps 4 = .ok (.iload_n 1, 1) := by decide +kernel
theorem dL_keeps_5 : decode cL_keeps 5 = .ok (.iload_n 2, 1) := by decide +kernel
theorem dL_keeps_6 : decode cL_keeps 6 = .ok (.iload_n 3, 1) := by decide +kernel
theorem dL_keeps_7 : decode cL_keeps 7 = .ok (.invokevirtual 74, 3) := by decide +kernel
theorem dL_keeps_23 : decode cL_keeps 23 = .ok (.astore 5, 2) := by decide +kernel
theorem dL_keeps_25 : decode cL_keeps 25 = .ok (.iconst 3, 1) := by decide +kernel
theorem dL_keeps_26 : decode cL_keeps 26 = .ok (.ireturn, 1) := by decide +kernel
theorem dL_sums_0 : decode cL_sums 0 = .ok (.aload_n 2, 1) := by decide +kernel
theorem dL_sums_1 : decode cL_sums 1 = .ok (.iconst 0, 1) := by decide +kernel
theorem dL_sums_2 : decode cL_sums 2 = .ok (.aload_n 0, 1) := by decide +kernel
theorem dL_sums_3 : decode cL_sums 3 = .ok (.iload_n 1, 1) := by decide +kernel
theorem dL_sums_4 : decode cL_sums 4 = .ok (.invokevirtual 77, 3) := by decide +kernel
theorem dL_sums_15 : decode cL_sums 15 = .ok (.astore_n 3, 1) := by decide +kernel
theorem dL_sums_16 : decode cL_sums 16 = .ok (.iconst 2, 1) := by decide +kernel
theorem dL_sums_17 : decode cL_sums 17 = .ok (.ireturn, 1) := by decide +kernel
theorem dL_sum_0 : decode cL_sum 0 = .ok (.aload 5, 2) := by decide +kernel
theorem dL_sum_2 : decode cL_sum 2 = .ok (.iconst 0, 1) := by decide +kernel
theorem dL_sum_3 : decode cL_sum 3 = .ok (.aload_n 0, 1) := by decide +kernel
theorem dL_sum_4 : decode cL_sum 4 = .ok (.iload_n 1, 1) := by decide +kernel
theorem dL_sum_5 : decode cL_sum 5 = .ok (.iload_n 2, 1) := by decide +kernel
theorem dL_sum_6 : decode cL_sum 6 = .ok (.iload_n 3, 1) := by decide +kernel
theorem dL_sum_7 : decode cL_sum 7 = .ok (.iload 4, 2) := by decide +kernel
theorem dL_sum_9 : decode cL_sum 9 = .ok (.invokevirtual 80, 3) := by decide +kernel
theorem dL_sum_24 : decode cL_sum 24 = .ok (.astore 6, 2) := by decide +kernel
theorem dL_sum_26 : decode cL_sum 26 = .ok (.iconst 3, 1) := by decide +kernel
theorem dL_sum_27 : decode cL_sum 27 = .ok (.ireturn, 1) := by decide +kernel
theorem dL_solves_0 : decode cL_solves 0 = .ok (.aload_n 1, 1) := by decide +kernel
theorem dL_solves_1 : decode cL_solves 1 = .ok (.iconst 0, 1) := by decide +kernel
theorem dL_solves_2 : decode cL_solves 2 = .ok (.aload_n 0, 1) := by decide +kernel
theorem dL_solves_3 : decode cL_solves 3 = .ok (.invokevirtual 83, 3) := by decide +kernel
theorem dL_solves_11 : decode cL_solves 11 = .ok (.astore_n 2, 1) := by decide +kernel
theorem dL_solves_12 : decode cL_solves 12 = .ok (.iconst 1, 1) := by decide +kernel
theorem dL_solves_13 : decode cL_solves 13 = .ok (.ireturn, 1) := by decide +kernel
theorem dL_left_0 : decode cL_left 0 = .ok (.aload_n 3, 1) := by decide +kernel
theorem dL_left_1 : decode cL_left 1 = .ok (.iconst 0, 1) := by decide +kernel
theorem dL_left_2 : decode cL_left 2 = .ok (.aload_n 0, 1) := by decide +kernel
theorem dL_left_3 : decode cL_left 3 = .ok (.iload_n 1, 1) := by decide +kernel
theorem dL_left_4 : decode cL_left 4 = .ok (.iload_n 2, 1) := by decide +kernel
theorem dL_left_5 : decode cL_left 5 = .ok (.invokevirtual 86, 3) := by decide +kernel
theorem dL_left_16 : decode cL_left 16 = .ok (.astore 4, 2) := by decide +kernel
theorem dL_left_18 : decode cL_left 18 = .ok (.iconst 2, 1) := by decide +kernel
theorem dL_left_19 : decode cL_left 19 = .ok (.ireturn, 1) := by decide +kernel
theorem dL_shifted_0 : decode cL_shifted 0 = .ok (.aload_n 3, 1) := by decide +kernel
theorem dL_shifted_1 : decode cL_shifted 1 = .ok (.iconst 0, 1) := by decide +kernel
theorem dL_shifted_2 : decode cL_shifted 2 = .ok (.aload_n 0, 1) := by decide +kernel
theorem dL_shifted_3 : decode cL_shifted 3 = .ok (.iload_n 1, 1) := by decide +kernel
theorem dL_shifted_4 : decode cL_shifted 4 = .ok (.iload_n 2, 1) := by decide +kernel
theorem dL_shifted_5 : decode cL_shifted 5 = .ok (.invokevirtual 90, 3) := by decide +kernel
theorem dL_shifted_17 : decode cL_shifted 17 = .ok (.astore 4, 2) := by decide +kernel
theorem dL_shifted_19 : decode cL_shifted 19 = .ok (.iconst 2, 1) := by decide +kernel
theorem dL_shifted_20 : decode cL_shifted 20 = .ok (.ireturn, 1) := by decide +kernel
theorem dL_stretched_0 : decode cL_stretched 0 = .ok (.aload_n 3, 1) := by decide +kernel
theorem dL_stretched_1 : decode cL_stretched 1 = .ok (.iconst 0, 1) := by decide +kernel
theorem dL_stretched_2 : decode cL_stretched 2 = .ok (.aload_n 0, 1) := by decide +kernel
theorem dL_stretched_3 : decode cL_stretched 3 = .ok (.iload_n 1, 1) := by decide +kernel
theorem dL_stretched_4 : decode cL_stretched 4 = .ok (.iload_n 2, 1) := by decide +kernel
theorem dL_stretched_5 : decode cL_stretched 5 = .ok (.invokevirtual 93, 3) := by decide +kernel
theorem dL_stretched_21 : decode cL_stretched 21 = .ok (.astore 4, 2) := by decide +kernel
theorem dL_stretched_23 : decode cL_stretched 23 = .ok (.iconst 3, 1) := by decide +kernel
theorem dL_stretched_24 : decode cL_stretched 24 = .ok (.ireturn, 1) := by decide +kernel
theorem dL_wave_0 : decode cL_wave 0 = .ok (.aload_n 3, 1) := by decide +kernel
theorem dL_wave_1 : decode cL_wave 1 = .ok (.iconst 0, 1) := by decide +kernel
theorem dL_wave_2 : decode cL_wave 2 = .ok (.aload_n 0, 1) := by decide +kernel
theorem dL_wave_3 : decode cL_wave 3 = .ok (.iload_n 1, 1) := by decide +kernel
theorem dL_wave_4 : decode cL_wave 4 = .ok (.iload_n 2, 1) := by decide +kernel
theorem dL_wave_5 : decode cL_wave 5 = .ok (.invokevirtual 96, 3) := by decide +kernel
theorem dL_wave_17 : decode cL_wave 17 = .ok (.astore 4, 2) := by decide +kernel
theorem dL_wave_19 : decode cL_wave 19 = .ok (.iconst 2, 1) := by decide +kernel
theorem dL_wave_20 : decode cL_wave 20 = .ok (.ireturn, 1) := by decide +kernel
theorem dL_lines_0 : decode cL_lines 0 = .ok (.aload_n 2, 1) := by decide +kernel
theorem dL_lines_1 : decode cL_lines 1 = .ok (.iconst 0, 1) := by decide +kernel
theorem dL_lines_2 : decode cL_lines 2 = .ok (.aload_n 0, 1) := by decide +kernel
theorem dL_lines_3 : decode cL_lines 3 = .ok (.iload_n 1, 1) := by decide +kernel
theorem dL_lines_4 : decode cL_lines 4 = .ok (.invokevirtual 99, 3) := by decide +kernel
theorem dL_lines_15 : decode cL_lines 15 = .ok (.astore_n 3, 1) := by decide +kernel
theorem dL_lines_16 : decode cL_lines 16 = .ok (.iconst 2, 1) := by decide +kernel
theorem dL_lines_17 : decode cL_lines 17 = .ok (.ireturn, 1) := by decide +kernel
def wv_l_equation : List Cond := .codeWith yL_equation cL_equation 4 (some .int) [(0, 9, 12, 13)] :: ([.methodLink RL 7 yX11_equation, .instanceMethod yX11_equation, .selects RX11 yX11_equation yX11_equation, .initialized RX11, .classLink RL 13 "java/lang/IllegalArgumentException"] ++ (wv_f_equation ++ ([])))
theorem gw_l_equation : wv_l_equation.all goodWord = true := by decide +kernel
theorem g_l_equation_f_equation_7 : GoodIn wv_l_equation (wsV RL 7 RX11 yX11_equation wv_f_equation) := goodIn_app (goodIn_of _ (by decide +kernel)) (goodIn_sub (fun _ h => List.mem_cons_of_mem _ (List.mem_append_right _ (List.mem_append_left _ h))) gw_f_equation)
set_option maxHeartbeats 4000000 in
set_option maxRecDepth 100000 in
/-- the law: equation on a fresh object -/
theorem c_l_equation (l : Launch) (hlt : l.stackTraces = false) (dC : Nat → ClassId) (dI : Nat → Nat → Nat) (h0 : Nat) (qR : Nat) (qt : Nat) (qm : Nat) (qp : Nat) (kt : Nat) (kp : Nat) (qma : Nat) (qmb : Nat) (p0a : Nat) (p0b : Nat) (k1a : Nat) (k1b : Nat) (ft : Nat → Int32) (fp : Nat → Option Nat) (p0 : Nat) (qo : Nat) (ko : Nat) (x0 : Int32) (fo : Nat → Int64) (fs_h0 : List Value) (fs_qR : List Value) (fs_qm : List Value) (fs_p0 : List Value) (hF_h0 : mF 19 [(1, .int 0), (6, .ref qR), (2, .int (-1))] fs_h0) (hF_qR : mF 10 [(0, .ref qt), (3, .ref qm), (2, .ref qp), (4, .int 0), (5, .int 0), (8, .int 0), (9, .int (-1)), (6, .int 0), (7, .int 0)] fs_qR) (hF_qm : mF 3 [(0, .ref qma), (1, .ref qmb), (2, .int 0)] fs_qm) (hF_p0 : mF 3 [(0, .ref p0a), (1, .ref p0b), (2, .int 0)] fs_p0) (hfp : fp 0 = some p0) (sz : Nat) : vx_Met l yL_equation wv_l_equation ({ frames := 8, cells := 1, slots := 6, locals := 134 }) (va_Pc [.ref h0, .int x0, .ref qo] (fun U => U.heap.size = sz ∧ va_P (dC, dI) vwCl [(h0, .inr (11, fs_h0)), (qR, .inr (7, fs_qR)), (qt, .inl (kt, 200, .inl ft)), (qp, .inl (kp, 28, .inr (.inr (.inr (.inr fp))))), (qm, .inr (6, fs_qm)), (p0, .inr (6, fs_p0)), (p0a, .inl (k1a, 16, .inr (.inl (fun _ => 0)))), (p0b, .inl (k1b, 16, .inr (.inl (fun _ => 0)))), (qo, .inl (ko, 1, .inr (.inl fo)))] U.heap ∧ va_K (dC, dI) vwCl [(kt, .byte), (kp, .object RX6), (k1a, .long), (k1b, .long), (ko, .long)] U ∧ va_D (fun _ => True) [(h0, .inr (11, fs_h0)), (qR, .inr (7, fs_qR)), (qt, .inl (kt, 200, .inl ft)), (qp, .inl (kp, 28, .inr (.inr (.inr (.inr fp))))), (qm, .inr (6, fs_qm)), (p0, .inr (6, fs_p0)), (p0a, .inl (k1a, 16, .inr (.inl (fun _ => 0)))), (p0b, .inl (k1b, 16, .inr (.inl (fun _ => 0)))), (qo, .inl (ko, 1, .inr (.inl fo)))] ∧ w_N U ∧ w_T (va_A [(h0, .inr (11, fs_h0)), (qR, .inr (7, fs_qR)), (qt, .inl (kt, 200, .inl ft)), (qp, .inl (kp, 28, .inr (.inr (.inr (.inr fp))))), (qm, .inr (6, fs_qm)), (p0, .inr (6, fs_p0)), (p0a, .inl (k1a, 16, .inr (.inl (fun _ => 0)))), (p0b, .inl (k1b, 16, .inr (.inl (fun _ => 0)))), (qo, .inl (ko, 1, .inr (.inl fo)))] sz) U U.heap ∧ w_S (va_A [(h0, .inr (11, fs_h0)), (qR, .inr (7, fs_qR)), (qt, .inl (kt, 200, .inl ft)), (qp, .inl (kp, 28, .inr (.inr (.inr (.inr fp))))), (qm, .inr (6, fs_qm)), (p0, .inr (6, fs_p0)), (p0a, .inl (k1a, 16, .inr (.inl (fun _ => 0)))), (p0b, .inl (k1b, 16, .inr (.inl (fun _ => 0)))), (qo, .inl (ko, 1, .inr (.inl fo)))] sz) U U.heap ∧ w_C (va_A [(h0, .inr (11, fs_h0)), (qR, .inr (7, fs_qR)), (qt, .inl (kt, 200, .inl ft)), (qp, .inl (kp, 28, .inr (.inr (.inr (.inr fp))))), (qm, .inr (6, fs_qm)), (p0, .inr (6, fs_p0)), (p0a, .inl (k1a, 16, .inr (.inl (fun _ => 0)))), (p0b, .inl (k1b, 16, .inr (.inl (fun _ => 0)))), (qo, .inl (ko, 1, .inr (.inl fo)))] sz) U U.heap)) (va_Qi (fun (r : Int32) (u : Int64) => (r = 0 ∧ u = (-9) ∧ kTape x0) ∨ (r = 1 ∧ ¬ kTape x0)) (fun u t => ∃ (fo2 : Nat → Int64), va_P (dC, dI) vwCl [(qo, .inl (ko, 1, .inr (.inl fo2)))] t.heap ∧ va_K (dC, dI) vwCl [(ko, .long)] t ∧ va_D (va_A [(h0, .inr (11, fs_h0)), (qR, .inr (7, fs_qR)), (qt, .inl (kt, 200, .inl ft)), (qp, .inl (kp, 28, .inr (.inr (.inr (.inr fp))))), (qm, .inr (6, fs_qm)), (p0, .inr (6, fs_p0)), (p0a, .inl (k1a, 16, .inr (.inl (fun _ => 0)))), (p0b, .inl (k1b, 16, .inr (.inl (fun _ => 0)))), (qo, .inl (ko, 1, .inr (.inl fo)))] sz) [(qo, .inl (ko, 1, .inr (.inl fo2)))] ∧ fo2 0 = u) (va_A [(h0, .inr (11, fs_h0)), (qR, .inr (7, fs_qR)), (qt, .inl (kt, 200, .inl ft)), (qp, .inl (kp, 28, .inr (.inr (.inr (.inr fp))))), (qm, .inr (6, fs_qm)), (p0, .inr (6, fs_p0)), (p0a, .inl (k1a, 16, .inr (.inl (fun _ => 0)))), (p0b, .inl (k1b, 16, .inr (.inl (fun _ => 0)))), (qo, .inl (ko, 1, .inr (.inl fo)))] sz)) (vx_X (fun _ : Unit => False) (fun E _ _ => E = "java/lang/IllegalArgumentException") (va_A [(h0, .inr (11, fs_h0)), (qR, .inr (7, fs_qR)), (qt, .inl (kt, 200, .inl ft)), (qp, .inl (kp, 28, .inr (.inr (.inr (.inr fp))))), (qm, .inr (6, fs_qm)), (p0, .inr (6, fs_p0)), (p0a, .inl (k1a, 16, .inr (.inl (fun _ => 0)))), (p0b, .inl (k1b, 16, .inr (.inl (fun _ => 0)))), (qo, .inl (ko, 1, .inr (.inl fo)))] sz)) 1 6 (va_A [(h0, .inr (11, fs_h0)), (qR, .inr (7, fs_qR)), (qt, .inl (kt, 200, .inl ft)), (qp, .inl (kp, 28, .inr (.inr (.inr (.inr fp))))), (qm, .inr (6, fs_qm)), (p0, .inr (6, fs_p0)), (p0a, .inl (k1a, 16, .inr (.inl (fun _ => 0)))), (p0b, .inl (k1b, 16, .inr (.inl (fun _ => 0)))), (qo, .inl (ko, 1, .inr (.inl fo)))] sz) := by
  refine vx_ofWH (cc := cL_equation) (maxL := 4) (ret := (some .int)) (by decide) rfl ?_
  intro p e s m args below meth c s₁ B hml hv
  obtain ⟨rfl, hsz, hP, hK, hD0, hN, hT, hSt, hC⟩ := hv
  have hx := B.exec
  have hb := B.bytes
  have hr := B.returns
  have hts := atoms_spec (ws := wv_l_equation) B.pre
  have hown : s.vm.findClass RL = some m.cls := findClass_of_methodNamed B.named
  have hlocks := B.notSynchronized
  have htab := vx_table (x := yL_equation) B (hts _ (List.mem_of_getElem? (i := 0) rfl))
  subst hsz
  have hD := hD0.self (sz := s.heap.size)
  generalize hAe : va_A [(h0, .inr (11, fs_h0)), (qR, .inr (7, fs_qR)), (qt, .inl (kt, 200, .inl ft)), (qp, .inl (kp, 28, .inr (.inr (.inr (.inr fp))))), (qm, .inr (6, fs_qm)), (p0, .inr (6, fs_p0)), (p0a, .inl (k1a, 16, .inr (.inl (fun _ => 0)))), (p0b, .inl (k1b, 16, .inr (.inl (fun _ => 0)))), (qo, .inl (ko, 1, .inr (.inl fo)))] s.heap.size = A at hD hT hSt hC ⊢
  have hA : ∀ q : Nat, s.heap.size ≤ q → A q := fun q h => by rw [← hAe]; exact Or.inr h
  obtain ⟨H, hHe, hP, hS⟩ : ∃ H : Heap, H = s.heap ∧ va_P (dC, dI) vwCl [(h0, .inr (11, fs_h0)), (qR, .inr (7, fs_qR)), (qt, .inl (kt, 200, .inl ft)), (qp, .inl (kp, 28, .inr (.inr (.inr (.inr fp))))), (qm, .inr (6, fs_qm)), (p0, .inr (6, fs_p0)), (p0a, .inl (k1a, 16, .inr (.inl (fun _ => 0)))), (p0b, .inl (k1b, 16, .inr (.inl (fun _ => 0)))), (qo, .inl (ko, 1, .inr (.inl fo)))] H ∧ va_S A s.heap H [] := ⟨s.heap, rfl, hP, va_S.rf⟩
  have hl := lv_entry ([.ref h0, .int x0, .ref qo]) (n := 4) (Nat.le_of_ble_eq_true rfl)
  rw [lg_entry_eq]
  generalize (lg_sl ([.ref h0, .int x0, .ref qo]) ++ List.replicate (4 - (lg_sl ([.ref h0, .int x0, .ref qo])).length) Slot.unset).toArray = ls at hl ⊢
  have hl : lv_has ls 4 [(0, .ref h0), (1, .int x0), (2, .ref qo)] := hl
  rw [← hHe]; clear hHe
  refine lv_aload_n hx hb dL_equation_0 rfl (lv_at hl 2 rfl) ?_
  refine lv_iconst (v := 0) hx hb dL_equation_1 (by decide) ?_
  refine lv_aload_n hx hb dL_equation_2 rfl (lv_at hl 0 rfl) ?_
  refine lv_iload_n hx hb dL_equation_3 rfl (lv_at hl 1 rfl) ?_
  have hPc := hP.sub (ws' := [(h0, .inr (11, fs_h0)), (qR, .inr (7, fs_qR)), (qt, .inl (kt, 200, .inl ft)), (qp, .inl (kp, 28, .inr (.inr (.inr (.inr fp))))), (qm, .inr (6, fs_qm)), (p0, .inr (6, fs_p0)), (p0a, .inl (k1a, 16, .inr (.inl (fun _ => 0)))), (p0b, .inl (k1b, 16, .inr (.inl (fun _ => 0))))]) [0, 1, 2, 3, 4, 5, 6, 7] rfl
  have hDc := hD.sub (ws' := [(h0, .inr (11, fs_h0)), (qR, .inr (7, fs_qR)), (qt, .inl (kt, 200, .inl ft)), (qp, .inl (kp, 28, .inr (.inr (.inr (.inr fp))))), (qm, .inr (6, fs_qm)), (p0, .inr (6, fs_p0)), (p0a, .inl (k1a, 16, .inr (.inl (fun _ => 0)))), (p0b, .inl (k1b, 16, .inr (.inl (fun _ => 0))))]) [0, 1, 2, 3, 4, 5, 6, 7] (by decide) rfl
  have hKc := hK.sub (tys' := [(kt, .byte), (kp, .object RX6), (k1a, .long), (k1b, .long)]) [0, 1, 2, 3] rfl
  have hFc := va_free (wc := [(h0, .inr (11, fs_h0)), (qR, .inr (7, fs_qR)), (qt, .inl (kt, 200, .inl ft)), (qp, .inl (kp, 28, .inr (.inr (.inr (.inr fp))))), (qm, .inr (6, fs_qm)), (p0, .inr (6, fs_p0)), (p0a, .inl (k1a, 16, .inr (.inl (fun _ => 0)))), (p0b, .inl (k1b, 16, .inr (.inl (fun _ => 0))))]) hD hS hA [0, 1, 2, 3, 4, 5, 6, 7] rfl
  refine vx_calli (vx_runV (As := [.int x0]) (rest := [.int 0, .ref qo]) ⟨hx, hb, hml, hown, hts⟩ (c_f_equation l hlt dC dI h0 qR qt qm qp kt kp qma qmb p0a p0b k1a k1b x0 ft fp p0 fs_h0 fs_qR fs_qm fs_p0 (mF.sub hF_h0 [0, 1, 2] rfl) (mF.sub hF_qR [0, 1, 2, 3, 4, 5, 6, 7, 8] rfl) (mF.sub hF_qm [0, 1, 2] rfl) (mF.sub hF_p0 [0, 1, 2] rfl) hfp H.size) (cwV 1 hts g_l_equation_f_equation_7 rfl rfl rfl hv_X11_equation ⟨Nat.le_of_ble_eq_true rfl, Nat.le_of_ble_eq_true rfl⟩) ⟨fun a U g mk q => by obtain ⟨q0, q1, qP, qK, qD, qE0, qE1, qE2⟩ := q; exact ⟨q0, q1, qP, va_K.moved (u := U) (U := U.calling g mk a) (Vm.Alike.refl U.vm) qK, qD, w_N.same rfl qE0, w_T.same rfl rfl qE1, w_S.same rfl rfl qE2⟩, va_recv hKc hPc (ci := 11) (q0 := 0) rfl rfl, fun U hU hW => ⟨rfl, by rw [hU], by rw [hU]; exact hPc, va_K.moved hW.alike hKc, hDc.weaken (fun _ _ _ _ => trivial), w_N.warm hW hN, w_T.go hT hW hS.2.1 hFc hU, w_S.go hSt hW hS.2.1 hFc hU⟩⟩ rfl rfl hl.1 rfl (lv_room (Nat.le_of_ble_eq_true rfl)) dL_equation_4 ⟨(Nat.le_of_ble_eq_true rfl), (Nat.le_of_ble_eq_true rfl)⟩) hS (fun q _ h => hFc q h) hFc (fun q _ h => hFc q h) (fun E9 ce9 q9 u t H1 locs1 ht hvm hpx hBX hz1 hk1 hS1 hcell9 hv9 hcl9 => ?_) (fun r_1 u t H1 locs1 ht hvm hw hB hz1 hk1 hS1 => ?_)
  · skip
    obtain rfl : E9 = "java/lang/IllegalArgumentException" := hBX
    have hJ := va_join (wr := [(qo, .inl (ko, 1, .inr (.inl fo)))]) (w1 := []) hP hD [0, 1, 2, 3, 4, 5, 6, 7] [8] rfl rfl (by decide) (by decide) hk1 hFc w_nilP w_nilD
    refine vx_catch (own := RL) (name := "java/lang/IllegalArgumentException") hown [] ⟨0, 9, 12, 13⟩ [] (htab.trans rfl) (fun z hz => absurd hz List.not_mem_nil) (by decide) (by decide) (hts (.classLink RL 13 "java/lang/IllegalArgumentException") (List.mem_of_getElem? (i := 5) rfl)) (va_Nw.use rfl (hT.2.2.2.1 _ (List.mem_of_getElem? (i := 1) rfl))) hcell9 hv9 hcl9 ?_
    have hxf_2 : ¬ kTape x0 := hpx; clear hpx
    clear hP hD; obtain ⟨hP, hD⟩ := hJ
    clear hS; revert hS1; intro hS
    clear ht; generalize H1 = H at hP hS ⊢
    replace hP : va_P (dC, dI) vwCl [(qo, .inl (ko, 1, .inr (.inl fo)))] H := hP
    replace hD : va_D A [(qo, .inl (ko, 1, .inr (.inl fo)))] := hD
    replace hK : va_K (dC, dI) vwCl [(kt, .byte), (kp, .object RX6), (k1a, .long), (k1b, .long), (ko, .long)] s := hK
    refine W.eq (g2 := F0 m 12 ls [.ref q9]) rfl ?_
    refine lv_astore_n (lv' := [(3, .ref q9), (0, .ref h0), (1, .int x0), (2, .ref qo)]) hx hb dL_equation_12 rfl hl (by decide) rfl (fun ls hl => ?_)
    refine lv_iconst (v := 1) hx hb dL_equation_13 (by decide) ?_
    have hP9 := hP.sub (ws' := [(qo, .inl (ko, 1, .inr (.inl fo)))]) [0] rfl
    have hD9 := hD.sub (ws' := [(qo, .inl (ko, 1, .inr (.inl fo)))]) [0] (by decide) rfl
    have hK9 := hK.sub (tys' := [(ko, .long)]) [4] rfl
    rw [← hAe] at hD9
    refine W.widen (k := 1) (n := 6) (Nat.le_of_ble_eq_true rfl) (Nat.le_of_ble_eq_true rfl) ?_
    subst hAe
    exact vx_ret (W.iret (v := 1) hx hb hr (fun t ht hW => ⟨⟨1, (fo 0), rfl, Or.inr ⟨rfl, hxf_2⟩, (fo), by rw [ht]; exact hP9, va_K.moved hW.alike hK9, hD9, rfl⟩, hS.F ht⟩) hS.2.2 dL_equation_14)
  · skip
    obtain ⟨hP1, hK1, hD1⟩ := hB
    rw [ht] at hP1
    have hK1 := va_K.moved hvm.symm hK1
    have hJ := va_join (wr := [(qo, .inl (ko, 1, .inr (.inl fo)))]) (w1 := []) hP hD [0, 1, 2, 3, 4, 5, 6, 7] [8] rfl rfl (by decide) (by decide) hk1 hFc hP1 hD1
    clear hP hD hPc hDc hKc hFc hz1; try clear hk1
    obtain ⟨hP, hD⟩ := hJ
    replace hK := (hK.sub (tys' := [(kt, .byte), (kp, .object RX6), (k1a, .long), (k1b, .long), (ko, .long)]) [0, 1, 2, 3, 4] rfl).app (hK1.sub (tys' := []) [] rfl)
    clear hP1 hK1 hD1 hvm ht hS; try clear t
    try clear H
    revert hS1
    intro hS
    generalize H1 = H at hP hS ⊢; try clear H1
    replace hP : va_P (dC, dI) vwCl [(qo, .inl (ko, 1, .inr (.inl fo)))] H := hP
    replace hD : va_D A [(qo, .inl (ko, 1, .inr (.inl fo)))] := hD
    replace hK : va_K (dC, dI) vwCl [(kt, .byte), (kp, .object RX6), (k1a, .long), (k1b, .long), (ko, .long)] s := hK
    have hw_3 : r_1 = (-9) ∧ kTape x0 := hw; clear hw
    obtain ⟨er9, hw_3⟩ := hw_3; subst er9
    refine lv_i2l (v := (-9)) hx hb dL_equation_7 (by decide) ?_
    refine va_last hx hb hK hP hD hS 0 4 rfl rfl (by exact fun h => by rcases h with h | h <;> revert h <;> decide) dL_equation_8 ?_
    clear hP hD hS; try clear H
    intro H locs hP hD hS
    obtain ⟨g_4, hg_5, hPx, hDx⟩ : ∃ g : Nat → Int64, g 0 = (-9) ∧ va_P (dC, dI) vwCl [(qo, .inl (ko, 1, .inr (.inl g)))] H ∧ va_D A [(qo, .inl (ko, 1, .inr (.inl g)))] := ⟨_, by rfl, hP, hD⟩
    replace hP := hPx; replace hD := hDx; clear hPx hDx
    replace hP : va_P (dC, dI) vwCl [(qo, .inl (ko, 1, .inr (.inl g_4)))] H := hP
    replace hD : va_D A [(qo, .inl (ko, 1, .inr (.inl g_4)))] := hD
    refine lv_goto (tgt := 15) hx hb dL_equation_9 (by decide) ?_
    refine lv_iconst (v := 0) hx hb dL_equation_15 (by decide) ?_
    have hP9 := hP.sub (ws' := [(qo, .inl (ko, 1, .inr (.inl g_4)))]) [0] rfl
    have hD9 := hD.sub (ws' := [(qo, .inl (ko, 1, .inr (.inl g_4)))]) [0] (by decide) rfl
    have hK9 := hK.sub (tys' := [(ko, .long)]) [4] rfl
    rw [← hAe] at hD9
    refine W.widen (k := 1) (n := 6) (Nat.le_of_ble_eq_true rfl) (Nat.le_of_ble_eq_true rfl) ?_
    subst hAe
    exact vx_ret (W.iret (v := 0) hx hb hr (fun t ht hW => ⟨⟨0, (-9), rfl, Or.inl ⟨rfl, rfl, hw_3⟩, (g_4), by rw [ht]; exact hP9, va_K.moved hW.alike hK9, hD9, hg_5⟩, hS.F ht⟩) hS.2.2 dL_equation_16)
def wv_l_field : List Cond := .codeWith yL_field cL_field 4 (some .int) [(0, 9, 12, 13), (0, 9, 15, 18)] :: ([.methodLink RL 15 yX11_field, .instanceMethod yX11_field, .selects RX11 yX11_field yX11_field, .initialized RX11, .classLink RL 13 "java/lang/IllegalArgumentException", .classLink RL 18 "java/lang/IllegalStateException"] ++ (wv_f_field ++ ([])))
theorem gw_l_field : wv_l_field.all goodWord = true := by decide +kernel
theorem g_l_field_f_field_15 : GoodIn wv_l_field (wsV RL 15 RX11 yX11_field wv_f_field) := goodIn_app (goodIn_of _ (by decide +kernel)) (goodIn_sub (fun _ h => List.mem_cons_of_mem _ (List.mem_append_right _ (List.mem_append_left _ h))) gw_f_field)
set_option maxHeartbeats 4000000 in
set_option maxRecDepth 100000 in
/-- the law: field on a fresh object -/
theorem c_l_field (l : Launch) (hlt : l.stackTraces = false) (dC : Nat → ClassId) (dI : Nat → Nat → Nat) (h0 : Nat) (qC : Nat) (qo : Nat) (x0 : Int32) (fs_h0 : List Value) (fs_qC : List Value) (hF_h0 : mF 19 [(7, .ref qC)] fs_h0) (hF_qC : mF 13 [(8, .int 0)] fs_qC) (sz : Nat) : vx_Met l yL_field wv_l_field ({ frames := 8, cells := 1, slots := 6, locals := 131 }) (va_Pc [.ref h0, .int x0, .ref qo] (fun U => U.heap.size = sz ∧ va_P (dC, dI) vwCl [(h0, .inr (11, fs_h0)), (qC, .inr (2, fs_qC))] U.heap ∧ va_K (dC, dI) vwCl [] U ∧ va_D (fun _ => True) [(h0, .inr (11, fs_h0)), (qC, .inr (2, fs_qC))] ∧ w_N U ∧ w_T (va_A [(h0, .inr (11, fs_h0)), (qC, .inr (2, fs_qC))] sz) U U.heap ∧ w_C (va_A [(h0, .inr (11, fs_h0)), (qC, .inr (2, fs_qC))] sz) U U.heap)) (va_Qi (fun (r : Int32) (_ : Unit) => r = 2) (fun _ t => va_P (dC, dI) vwCl [] t.heap ∧ va_K (dC, dI) vwCl [] t ∧ va_D (va_A [(h0, .inr (11, fs_h0)), (qC, .inr (2, fs_qC))] sz) []) (va_A [(h0, .inr (11, fs_h0)), (qC, .inr (2, fs_qC))] sz)) (vx_X (fun _ : Unit => False) (fun E _ _ => E = "java/lang/IllegalStateException") (va_A [(h0, .inr (11, fs_h0)), (qC, .inr (2, fs_qC))] sz)) 1 6 (va_A [(h0, .inr (11, fs_h0)), (qC, .inr (2, fs_qC))] sz) := by
  refine vx_ofWH (cc := cL_field) (maxL := 4) (ret := (some .int)) (by decide) rfl ?_
  intro p e s m args below meth c s₁ B hml hv
  obtain ⟨rfl, hsz, hP, hK, hD0, hN, hT, hC⟩ := hv
  have hx := B.exec
  have hb := B.bytes
  have hr := B.returns
  have hts := atoms_spec (ws := wv_l_field) B.pre
  have hown : s.vm.findClass RL = some m.cls := findClass_of_methodNamed B.named
  have hlocks := B.notSynchronized
  have htab := vx_table (x := yL_field) B (hts _ (List.mem_of_getElem? (i := 0) rfl))
  subst hsz
  have hD := hD0.self (sz := s.heap.size)
  generalize hAe : va_A [(h0, .inr (11, fs_h0)), (qC, .inr (2, fs_qC))] s.heap.size = A at hD hT hC ⊢
  have hA : ∀ q : Nat, s.heap.size ≤ q → A q := fun q h => by rw [← hAe]; exact Or.inr h
  obtain ⟨H, hHe, hP, hS⟩ : ∃ H : Heap, H = s.heap ∧ va_P (dC, dI) vwCl [(h0, .inr (11, fs_h0)), (qC, .inr (2, fs_qC))] H ∧ va_S A s.heap H [] := ⟨s.heap, rfl, hP, va_S.rf⟩
  have hl := lv_entry ([.ref h0, .int x0, .ref qo]) (n := 4) (Nat.le_of_ble_eq_true rfl)
  rw [lg_entry_eq]
  generalize (lg_sl ([.ref h0, .int x0, .ref qo]) ++ List.replicate (4 - (lg_sl ([.ref h0, .int x0, .ref qo])).length) Slot.unset).toArray = ls at hl ⊢
  have hl : lv_has ls 4 [(0, .ref h0), (1, .int x0), (2, .ref qo)] := hl
  rw [← hHe]; clear hHe
  refine lv_aload_n hx hb dL_field_0 rfl (lv_at hl 2 rfl) ?_
  refine lv_iconst (v := 0) hx hb dL_field_1 (by decide) ?_
  refine lv_aload_n hx hb dL_field_2 rfl (lv_at hl 0 rfl) ?_
  refine lv_iload_n hx hb dL_field_3 rfl (lv_at hl 1 rfl) ?_
  have hPc := hP.sub (ws' := [(h0, .inr (11, fs_h0)), (qC, .inr (2, fs_qC))]) [0, 1] rfl
  have hDc := hD.sub (ws' := [(h0, .inr (11, fs_h0)), (qC, .inr (2, fs_qC))]) [0, 1] (by decide) rfl
  have hKc := hK.sub (tys' := []) [] rfl
  have hFc := va_free (wc := [(h0, .inr (11, fs_h0)), (qC, .inr (2, fs_qC))]) hD hS hA [0, 1] rfl
  refine vx_calli (vx_runV (As := [.int x0]) (rest := [.int 0, .ref qo]) ⟨hx, hb, hml, hown, hts⟩ (c_f_field l hlt dC dI h0 qC x0 fs_h0 fs_qC (mF.sub hF_h0 [0] rfl) (mF.sub hF_qC [0] rfl) H.size) (cwV 1 hts g_l_field_f_field_15 rfl rfl rfl hv_X11_field ⟨Nat.le_of_ble_eq_true rfl, Nat.le_of_ble_eq_true rfl⟩) ⟨fun a U g mk q => by obtain ⟨q0, q1, qP, qK, qD, qE0, qE1⟩ := q; exact ⟨q0, q1, qP, va_K.moved (u := U) (U := U.calling g mk a) (Vm.Alike.refl U.vm) qK, qD, w_N.same rfl qE0, w_T.same rfl rfl qE1⟩, va_recv hKc hPc (ci := 11) (q0 := 0) rfl rfl, fun U hU hW => ⟨rfl, by rw [hU], by rw [hU]; exact hPc, va_K.moved hW.alike hKc, hDc.weaken (fun _ _ _ _ => trivial), w_N.warm hW hN, w_T.go hT hW hS.2.1 hFc hU⟩⟩ rfl rfl hl.1 rfl (lv_room (Nat.le_of_ble_eq_true rfl)) dL_field_4 ⟨(Nat.le_of_ble_eq_true rfl), (Nat.le_of_ble_eq_true rfl)⟩) hS (fun q _ h => hFc q h) hFc (fun q _ h => hFc q h) (fun E9 ce9 q9 u t H1 locs1 ht hvm hpx hBX hz1 hk1 hS1 hcell9 hv9 hcl9 => ?_) (fun r_1 u t H1 locs1 ht hvm hw hB hz1 hk1 hS1 => ?_)
  · skip
    obtain rfl : E9 = "java/lang/IllegalStateException" := hBX
    have hJ := va_join (wr := []) (w1 := []) hP hD [0, 1] [] rfl rfl (by decide) (by decide) hk1 hFc w_nilP w_nilD
    refine vx_catch (own := RL) (name := "java/lang/IllegalStateException") hown [⟨0, 9, 12, 13⟩] ⟨0, 9, 15, 18⟩ [] (htab.trans rfl) ?hps (by decide) (by decide) (hts (.classLink RL 18 "java/lang/IllegalStateException") (List.mem_of_getElem? (i := 6) rfl)) (va_Nw.use rfl (hT.2.2.2.1 _ (List.mem_of_getElem? (i := 0) rfl))) hcell9 hv9 hcl9 ?_
    case hps =>
      intro z hz
      simp only [List.mem_cons, List.not_mem_nil, or_false] at hz
      rcases hz with rfl
      · exact Or.inr ⟨by decide, "java/lang/IllegalArgumentException", (hts (.classLink RL 13 "java/lang/IllegalArgumentException") (List.mem_of_getElem? (i := 5) rfl)), hC.2⟩
    have hxf_2 : True := hpx; clear hpx
    clear hP hD; obtain ⟨hP, hD⟩ := hJ
    clear hS; revert hS1; intro hS
    clear ht; generalize H1 = H at hP hS ⊢
    replace hP : va_P (dC, dI) vwCl [] H := hP
    replace hD : va_D A [] := hD
    replace hK : va_K (dC, dI) vwCl [] s := hK
    refine W.eq (g2 := F0 m 15 ls [.ref q9]) rfl ?_
    refine lv_astore_n (lv' := [(3, .ref q9), (0, .ref h0), (1, .int x0), (2, .ref qo)]) hx hb dL_field_15 rfl hl (by decide) rfl (fun ls hl => ?_)
    refine lv_iconst (v := 2) hx hb dL_field_16 (by decide) ?_
    have hP9 := hP.sub (ws' := []) [] rfl
    have hD9 := hD.sub (ws' := []) [] (by decide) rfl
    have hK9 := hK.sub (tys' := []) [] rfl
    rw [← hAe] at hD9
    refine W.widen (k := 1) (n := 6) (Nat.le_of_ble_eq_true rfl) (Nat.le_of_ble_eq_true rfl) ?_
    subst hAe
    exact vx_ret (W.iret (v := 2) hx hb hr (fun t ht hW => ⟨⟨2, (), rfl, rfl, by rw [ht]; exact hP9, va_K.moved hW.alike hK9, hD9⟩, hS.F ht⟩) hS.2.2 dL_field_17)
  · skip
    exact (hw : False).elim
def wv_l_solution : List Cond := .codeWith yL_solution cL_solution 4 (some .int) [(0, 9, 12, 13), (0, 9, 15, 18)] :: ([.methodLink RL 20 yX11_solution, .instanceMethod yX11_solution, .selects RX11 yX11_solution yX11_solution, .initialized RX11, .classLink RL 13 "java/lang/IllegalArgumentException", .classLink RL 18 "java/lang/IllegalStateException"] ++ (wv_f_solution ++ ([])))
theorem gw_l_solution : wv_l_solution.all goodWord = true := by decide +kernel
theorem g_l_solution_f_solution_20 : GoodIn wv_l_solution (wsV RL 20 RX11 yX11_solution wv_f_solution) := goodIn_app (goodIn_of _ (by decide +kernel)) (goodIn_sub (fun _ h => List.mem_cons_of_mem _ (List.mem_append_right _ (List.mem_append_left _ h))) gw_f_solution)
set_option maxHeartbeats 4000000 in
set_option maxRecDepth 100000 in
/-- the law: solution on a fresh object -/
theorem c_l_solution (l : Launch) (hlt : l.stackTraces = false) (dC : Nat → ClassId) (dI : Nat → Nat → Nat) (h0 : Nat) (qC : Nat) (qo : Nat) (x0 : Int32) (fs_h0 : List Value) (fs_qC : List Value) (hF_h0 : mF 19 [(7, .ref qC)] fs_h0) (hF_qC : mF 13 [(8, .int 0)] fs_qC) (sz : Nat) : vx_Met l yL_solution wv_l_solution ({ frames := 8, cells := 1, slots := 6, locals := 131 }) (va_Pc [.ref h0, .int x0, .ref qo] (fun U => U.heap.size = sz ∧ va_P (dC, dI) vwCl [(h0, .inr (11, fs_h0)), (qC, .inr (2, fs_qC))] U.heap ∧ va_K (dC, dI) vwCl [] U ∧ va_D (fun _ => True) [(h0, .inr (11, fs_h0)), (qC, .inr (2, fs_qC))] ∧ w_N U ∧ w_T (va_A [(h0, .inr (11, fs_h0)), (qC, .inr (2, fs_qC))] sz) U U.heap ∧ w_C (va_A [(h0, .inr (11, fs_h0)), (qC, .inr (2, fs_qC))] sz) U U.heap)) (va_Qi (fun (r : Int32) (_ : Unit) => r = 2) (fun _ t => va_P (dC, dI) vwCl [] t.heap ∧ va_K (dC, dI) vwCl [] t ∧ va_D (va_A [(h0, .inr (11, fs_h0)), (qC, .inr (2, fs_qC))] sz) []) (va_A [(h0, .inr (11, fs_h0)), (qC, .inr (2, fs_qC))] sz)) (vx_X (fun _ : Unit => False) (fun E _ _ => E = "java/lang/IllegalStateException") (va_A [(h0, .inr (11, fs_h0)), (qC, .inr (2, fs_qC))] sz)) 1 6 (va_A [(h0, .inr (11, fs_h0)), (qC, .inr (2, fs_qC))] sz) := by
  refine vx_ofWH (cc := cL_solution) (maxL := 4) (ret := (some .int)) (by decide) rfl ?_
  intro p e s m args below meth c s₁ B hml hv
  obtain ⟨rfl, hsz, hP, hK, hD0, hN, hT, hC⟩ := hv
  have hx := B.exec
  have hb := B.bytes
  have hr := B.returns
  have hts := atoms_spec (ws := wv_l_solution) B.pre
  have hown : s.vm.findClass RL = some m.cls := findClass_of_methodNamed B.named
  have hlocks := B.notSynchronized
  have htab := vx_table (x := yL_solution) B (hts _ (List.mem_of_getElem? (i := 0) rfl))
  subst hsz
  have hD := hD0.self (sz := s.heap.size)
  generalize hAe : va_A [(h0, .inr (11, fs_h0)), (qC, .inr (2, fs_qC))] s.heap.size = A at hD hT hC ⊢
  have hA : ∀ q : Nat, s.heap.size ≤ q → A q := fun q h => by rw [← hAe]; exact Or.inr h
  obtain ⟨H, hHe, hP, hS⟩ : ∃ H : Heap, H = s.heap ∧ va_P (dC, dI) vwCl [(h0, .inr (11, fs_h0)), (qC, .inr (2, fs_qC))] H ∧ va_S A s.heap H [] := ⟨s.heap, rfl, hP, va_S.rf⟩
  have hl := lv_entry ([.ref h0, .int x0, .ref qo]) (n := 4) (Nat.le_of_ble_eq_true rfl)
  rw [lg_entry_eq]
  generalize (lg_sl ([.ref h0, .int x0, .ref qo]) ++ List.replicate (4 - (lg_sl ([.ref h0, .int x0, .ref qo])).length) Slot.unset).toArray = ls at hl ⊢
  have hl : lv_has ls 4 [(0, .ref h0), (1, .int x0), (2, .ref qo)] := hl
  rw [← hHe]; clear hHe
  refine lv_aload_n hx hb dL_solution_0 rfl (lv_at hl 2 rfl) ?_
  refine lv_iconst (v := 0) hx hb dL_solution_1 (by decide) ?_
  refine lv_aload_n hx hb dL_solution_2 rfl (lv_at hl 0 rfl) ?_
  refine lv_iload_n hx hb dL_solution_3 rfl (lv_at hl 1 rfl) ?_
  have hPc := hP.sub (ws' := [(h0, .inr (11, fs_h0)), (qC, .inr (2, fs_qC))]) [0, 1] rfl
  have hDc := hD.sub (ws' := [(h0, .inr (11, fs_h0)), (qC, .inr (2, fs_qC))]) [0, 1] (by decide) rfl
  have hKc := hK.sub (tys' := []) [] rfl
  have hFc := va_free (wc := [(h0, .inr (11, fs_h0)), (qC, .inr (2, fs_qC))]) hD hS hA [0, 1] rfl
  refine vx_calli (vx_runV (As := [.int x0]) (rest := [.int 0, .ref qo]) ⟨hx, hb, hml, hown, hts⟩ (c_f_solution l hlt dC dI h0 qC x0 fs_h0 fs_qC (mF.sub hF_h0 [0] rfl) (mF.sub hF_qC [0] rfl) H.size) (cwV 1 hts g_l_solution_f_solution_20 rfl rfl rfl hv_X11_solution ⟨Nat.le_of_ble_eq_true rfl, Nat.le_of_ble_eq_true rfl⟩) ⟨fun a U g mk q => by obtain ⟨q0, q1, qP, qK, qD, qE0, qE1⟩ := q; exact ⟨q0, q1, qP, va_K.moved (u := U) (U := U.calling g mk a) (Vm.Alike.refl U.vm) qK, qD, w_N.same rfl qE0, w_T.same rfl rfl qE1⟩, va_recv hKc hPc (ci := 11) (q0 := 0) rfl rfl, fun U hU hW => ⟨rfl, by rw [hU], by rw [hU]; exact hPc, va_K.moved hW.alike hKc, hDc.weaken (fun _ _ _ _ => trivial), w_N.warm hW hN, w_T.go hT hW hS.2.1 hFc hU⟩⟩ rfl rfl hl.1 rfl (lv_room (Nat.le_of_ble_eq_true rfl)) dL_solution_4 ⟨(Nat.le_of_ble_eq_true rfl), (Nat.le_of_ble_eq_true rfl)⟩) hS (fun q _ h => hFc q h) hFc (fun q _ h => hFc q h) (fun E9 ce9 q9 u t H1 locs1 ht hvm hpx hBX hz1 hk1 hS1 hcell9 hv9 hcl9 => ?_) (fun r_1 u t H1 locs1 ht hvm hw hB hz1 hk1 hS1 => ?_)
  · skip
    obtain rfl : E9 = "java/lang/IllegalStateException" := hBX
    have hJ := va_join (wr := []) (w1 := []) hP hD [0, 1] [] rfl rfl (by decide) (by decide) hk1 hFc w_nilP w_nilD
    refine vx_catch (own := RL) (name := "java/lang/IllegalStateException") hown [⟨0, 9, 12, 13⟩] ⟨0, 9, 15, 18⟩ [] (htab.trans rfl) ?hps (by decide) (by decide) (hts (.classLink RL 18 "java/lang/IllegalStateException") (List.mem_of_getElem? (i := 6) rfl)) (va_Nw.use rfl (hT.2.2.2.1 _ (List.mem_of_getElem? (i := 0) rfl))) hcell9 hv9 hcl9 ?_
    case hps =>
      intro z hz
      simp only [List.mem_cons, List.not_mem_nil, or_false] at hz
      rcases hz with rfl
      · exact Or.inr ⟨by decide, "java/lang/IllegalArgumentException", (hts (.classLink RL 13 "java/lang/IllegalArgumentException") (List.mem_of_getElem? (i := 5) rfl)), hC.2⟩
    have hxf_2 : True := hpx; clear hpx
    clear hP hD; obtain ⟨hP, hD⟩ := hJ
    clear hS; revert hS1; intro hS
    clear ht; generalize H1 = H at hP hS ⊢
    replace hP : va_P (dC, dI) vwCl [] H := hP
    replace hD : va_D A [] := hD
    replace hK : va_K (dC, dI) vwCl [] s := hK
    refine W.eq (g2 := F0 m 15 ls [.ref q9]) rfl ?_
    refine lv_astore_n (lv' := [(3, .ref q9), (0, .ref h0), (1, .int x0), (2, .ref qo)]) hx hb dL_solution_15 rfl hl (by decide) rfl (fun ls hl => ?_)
    refine lv_iconst (v := 2) hx hb dL_solution_16 (by decide) ?_
    have hP9 := hP.sub (ws' := []) [] rfl
    have hD9 := hD.sub (ws' := []) [] (by decide) rfl
    have hK9 := hK.sub (tys' := []) [] rfl
    rw [← hAe] at hD9
    refine W.widen (k := 1) (n := 6) (Nat.le_of_ble_eq_true rfl) (Nat.le_of_ble_eq_true rfl) ?_
    subst hAe
    exact vx_ret (W.iret (v := 2) hx hb hr (fun t ht hW => ⟨⟨2, (), rfl, rfl, by rw [ht]; exact hP9, va_K.moved hW.alike hK9, hD9⟩, hS.F ht⟩) hS.2.2 dL_solution_17)
  · skip
    exact (hw : False).elim
def wv_l_told : List Cond := .codeWith yL_told cL_told 4 (some .int) [(0, 9, 12, 13)] :: ([.methodLink RL 23 yX11_told, .instanceMethod yX11_told, .selects RX11 yX11_told yX11_told, .initialized RX11, .classLink RL 13 "java/lang/IllegalArgumentException"] ++ (wv_f_told ++ ([])))
theorem gw_l_told : wv_l_told.all goodWord = true := by decide +kernel
theorem g_l_told_f_told_23 : GoodIn wv_l_told (wsV RL 23 RX11 yX11_told wv_f_told) := goodIn_app (goodIn_of _ (by decide +kernel)) (goodIn_sub (fun _ h => List.mem_cons_of_mem _ (List.mem_append_right _ (List.mem_append_left _ h))) gw_f_told)
set_option maxHeartbeats 4000000 in
set_option maxRecDepth 100000 in
/-- the law: told on a fresh object -/
theorem c_l_told (l : Launch) (hlt : l.stackTraces = false) (dC : Nat → ClassId) (dI : Nat → Nat → Nat) (h0 : Nat) (qC : Nat) (qr : Nat) (qra : Nat) (qrb : Nat) (k1a : Nat) (k1b : Nat) (qo : Nat) (ko : Nat) (x0 : Int32) (fo : Nat → Int64) (fs_h0 : List Value) (fs_qC : List Value) (fs_qr : List Value) (hF_h0 : mF 19 [(7, .ref qC)] fs_h0) (hF_qC : mF 13 [(2, .ref qr), (8, .int 0)] fs_qC) (hF_qr : mF 3 [(0, .ref qra), (1, .ref qrb), (2, .int 0)] fs_qr) (sz : Nat) : vx_Met l yL_told wv_l_told ({ frames := 8, cells := 1, slots := 6, locals := 132 }) (va_Pc [.ref h0, .int x0, .ref qo] (fun U => U.heap.size = sz ∧ va_P (dC, dI) vwCl [(h0, .inr (11, fs_h0)), (qC, .inr (2, fs_qC)), (qr, .inr (6, fs_qr)), (qra, .inl (k1a, 16, .inr (.inl (fun _ => 0)))), (qrb, .inl (k1b, 16, .inr (.inl (fun _ => 0)))), (qo, .inl (ko, 1, .inr (.inl fo)))] U.heap ∧ va_K (dC, dI) vwCl [(k1a, .long), (k1b, .long), (ko, .long)] U ∧ va_D (fun _ => True) [(h0, .inr (11, fs_h0)), (qC, .inr (2, fs_qC)), (qr, .inr (6, fs_qr)), (qra, .inl (k1a, 16, .inr (.inl (fun _ => 0)))), (qrb, .inl (k1b, 16, .inr (.inl (fun _ => 0)))), (qo, .inl (ko, 1, .inr (.inl fo)))] ∧ w_N U ∧ w_T (va_A [(h0, .inr (11, fs_h0)), (qC, .inr (2, fs_qC)), (qr, .inr (6, fs_qr)), (qra, .inl (k1a, 16, .inr (.inl (fun _ => 0)))), (qrb, .inl (k1b, 16, .inr (.inl (fun _ => 0)))), (qo, .inl (ko, 1, .inr (.inl fo)))] sz) U U.heap ∧ w_C (va_A [(h0, .inr (11, fs_h0)), (qC, .inr (2, fs_qC)), (qr, .inr (6, fs_qr)), (qra, .inl (k1a, 16, .inr (.inl (fun _ => 0)))), (qrb, .inl (k1b, 16, .inr (.inl (fun _ => 0)))), (qo, .inl (ko, 1, .inr (.inl fo)))] sz) U U.heap)) (va_Qi (fun (r : Int32) (u : Int64) => (r = 0 ∧ u = 0 ∧ kWhat x0) ∨ (r = 1 ∧ ¬ kWhat x0)) (fun u t => ∃ (fo2 : Nat → Int64), va_P (dC, dI) vwCl [(qo, .inl (ko, 1, .inr (.inl fo2)))] t.heap ∧ va_K (dC, dI) vwCl [(ko, .long)] t ∧ va_D (va_A [(h0, .inr (11, fs_h0)), (qC, .inr (2, fs_qC)), (qr, .inr (6, fs_qr)), (qra, .inl (k1a, 16, .inr (.inl (fun _ => 0)))), (qrb, .inl (k1b, 16, .inr (.inl (fun _ => 0)))), (qo, .inl (ko, 1, .inr (.inl fo)))] sz) [(qo, .inl (ko, 1, .inr (.inl fo2)))] ∧ fo2 0 = u) (va_A [(h0, .inr (11, fs_h0)), (qC, .inr (2, fs_qC)), (qr, .inr (6, fs_qr)), (qra, .inl (k1a, 16, .inr (.inl (fun _ => 0)))), (qrb, .inl (k1b, 16, .inr (.inl (fun _ => 0)))), (qo, .inl (ko, 1, .inr (.inl fo)))] sz)) (vx_X (fun _ : Unit => False) (fun E _ _ => E = "java/lang/IllegalArgumentException") (va_A [(h0, .inr (11, fs_h0)), (qC, .inr (2, fs_qC)), (qr, .inr (6, fs_qr)), (qra, .inl (k1a, 16, .inr (.inl (fun _ => 0)))), (qrb, .inl (k1b, 16, .inr (.inl (fun _ => 0)))), (qo, .inl (ko, 1, .inr (.inl fo)))] sz)) 1 6 (va_A [(h0, .inr (11, fs_h0)), (qC, .inr (2, fs_qC)), (qr, .inr (6, fs_qr)), (qra, .inl (k1a, 16, .inr (.inl (fun _ => 0)))), (qrb, .inl (k1b, 16, .inr (.inl (fun _ => 0)))), (qo, .inl (ko, 1, .inr (.inl fo)))] sz) := by
  refine vx_ofWH (cc := cL_told) (maxL := 4) (ret := (some .int)) (by decide) rfl ?_
  intro p e s m args below meth c s₁ B hml hv
  obtain ⟨rfl, hsz, hP, hK, hD0, hN, hT, hC⟩ := hv
  have hx := B.exec
  have hb := B.bytes
  have hr := B.returns
  have hts := atoms_spec (ws := wv_l_told) B.pre
  have hown : s.vm.findClass RL = some m.cls := findClass_of_methodNamed B.named
  have hlocks := B.notSynchronized
  have htab := vx_table (x := yL_told) B (hts _ (List.mem_of_getElem? (i := 0) rfl))
  subst hsz
  have hD := hD0.self (sz := s.heap.size)
  generalize hAe : va_A [(h0, .inr (11, fs_h0)), (qC, .inr (2, fs_qC)), (qr, .inr (6, fs_qr)), (qra, .inl (k1a, 16, .inr (.inl (fun _ => 0)))), (qrb, .inl (k1b, 16, .inr (.inl (fun _ => 0)))), (qo, .inl (ko, 1, .inr (.inl fo)))] s.heap.size = A at hD hT hC ⊢
  have hA : ∀ q : Nat, s.heap.size ≤ q → A q := fun q h => by rw [← hAe]; exact Or.inr h
  obtain ⟨H, hHe, hP, hS⟩ : ∃ H : Heap, H = s.heap ∧ va_P (dC, dI) vwCl [(h0, .inr (11, fs_h0)), (qC, .inr (2, fs_qC)), (qr, .inr (6, fs_qr)), (qra, .inl (k1a, 16, .inr (.inl (fun _ => 0)))), (qrb, .inl (k1b, 16, .inr (.inl (fun _ => 0)))), (qo, .inl (ko, 1, .inr (.inl fo)))] H ∧ va_S A s.heap H [] := ⟨s.heap, rfl, hP, va_S.rf⟩
  have hl := lv_entry ([.ref h0, .int x0, .ref qo]) (n := 4) (Nat.le_of_ble_eq_true rfl)
  rw [lg_entry_eq]
  generalize (lg_sl ([.ref h0, .int x0, .ref qo]) ++ List.replicate (4 - (lg_sl ([.ref h0, .int x0, .ref qo])).length) Slot.unset).toArray = ls at hl ⊢
  have hl : lv_has ls 4 [(0, .ref h0), (1, .int x0), (2, .ref qo)] := hl
  rw [← hHe]; clear hHe
  refine lv_aload_n hx hb dL_told_0 rfl (lv_at hl 2 rfl) ?_
  refine lv_iconst (v := 0) hx hb dL_told_1 (by decide) ?_
  refine lv_aload_n hx hb dL_told_2 rfl (lv_at hl 0 rfl) ?_
  refine lv_iload_n hx hb dL_told_3 rfl (lv_at hl 1 rfl) ?_
  have hPc := hP.sub (ws' := [(h0, .inr (11, fs_h0)), (qC, .inr (2, fs_qC)), (qr, .inr (6, fs_qr)), (qra, .inl (k1a, 16, .inr (.inl (fun _ => 0)))), (qrb, .inl (k1b, 16, .inr (.inl (fun _ => 0))))]) [0, 1, 2, 3, 4] rfl
  have hDc := hD.sub (ws' := [(h0, .inr (11, fs_h0)), (qC, .inr (2, fs_qC)), (qr, .inr (6, fs_qr)), (qra, .inl (k1a, 16, .inr (.inl (fun _ => 0)))), (qrb, .inl (k1b, 16, .inr (.inl (fun _ => 0))))]) [0, 1, 2, 3, 4] (by decide) rfl
  have hKc := hK.sub (tys' := [(k1a, .long), (k1b, .long)]) [0, 1] rfl
  have hFc := va_free (wc := [(h0, .inr (11, fs_h0)), (qC, .inr (2, fs_qC)), (qr, .inr (6, fs_qr)), (qra, .inl (k1a, 16, .inr (.inl (fun _ => 0)))), (qrb, .inl (k1b, 16, .inr (.inl (fun _ => 0))))]) hD hS hA [0, 1, 2, 3, 4] rfl
  refine vx_calli (vx_runV (As := [.int x0]) (rest := [.int 0, .ref qo]) ⟨hx, hb, hml, hown, hts⟩ (c_f_told l hlt dC dI h0 qC qr qra qrb k1a k1b x0 fs_h0 fs_qC fs_qr (mF.sub hF_h0 [0] rfl) (mF.sub hF_qC [0, 1] rfl) (mF.sub hF_qr [0, 1, 2] rfl) H.size) (cwV 1 hts g_l_told_f_told_23 rfl rfl rfl hv_X11_told ⟨Nat.le_of_ble_eq_true rfl, Nat.le_of_ble_eq_true rfl⟩) ⟨fun a U g mk q => by obtain ⟨q0, q1, qP, qK, qD, qE0, qE1⟩ := q; exact ⟨q0, q1, qP, va_K.moved (u := U) (U := U.calling g mk a) (Vm.Alike.refl U.vm) qK, qD, w_N.same rfl qE0, w_T.same rfl rfl qE1⟩, va_recv hKc hPc (ci := 11) (q0 := 0) rfl rfl, fun U hU hW => ⟨rfl, by rw [hU], by rw [hU]; exact hPc, va_K.moved hW.alike hKc, hDc.weaken (fun _ _ _ _ => trivial), w_N.warm hW hN, w_T.go hT hW hS.2.1 hFc hU⟩⟩ rfl rfl hl.1 rfl (lv_room (Nat.le_of_ble_eq_true rfl)) dL_told_4 ⟨(Nat.le_of_ble_eq_true rfl), (Nat.le_of_ble_eq_true rfl)⟩) hS (fun q _ h => hFc q h) hFc (fun q _ h => hFc q h) (fun E9 ce9 q9 u t H1 locs1 ht hvm hpx hBX hz1 hk1 hS1 hcell9 hv9 hcl9 => ?_) (fun r_1 u t H1 locs1 ht hvm hw hB hz1 hk1 hS1 => ?_)
  · skip
    obtain rfl : E9 = "java/lang/IllegalArgumentException" := hBX
    have hJ := va_join (wr := [(qo, .inl (ko, 1, .inr (.inl fo)))]) (w1 := []) hP hD [0, 1, 2, 3, 4] [5] rfl rfl (by decide) (by decide) hk1 hFc w_nilP w_nilD
    refine vx_catch (own := RL) (name := "java/lang/IllegalArgumentException") hown [] ⟨0, 9, 12, 13⟩ [] (htab.trans rfl) (fun z hz => absurd hz List.not_mem_nil) (by decide) (by decide) (hts (.classLink RL 13 "java/lang/IllegalArgumentException") (List.mem_of_getElem? (i := 5) rfl)) (va_Nw.use rfl (hT.2.2.2.1 _ (List.mem_of_getElem? (i := 1) rfl))) hcell9 hv9 hcl9 ?_
    have hxf_2 : ¬ kWhat x0 := hpx; clear hpx
    clear hP hD; obtain ⟨hP, hD⟩ := hJ
    clear hS; revert hS1; intro hS
    clear ht; generalize H1 = H at hP hS ⊢
    replace hP : va_P (dC, dI) vwCl [(qo, .inl (ko, 1, .inr (.inl fo)))] H := hP
    replace hD : va_D A [(qo, .inl (ko, 1, .inr (.inl fo)))] := hD
    replace hK : va_K (dC, dI) vwCl [(k1a, .long), (k1b, .long), (ko, .long)] s := hK
    refine W.eq (g2 := F0 m 12 ls [.ref q9]) rfl ?_
    refine lv_astore_n (lv' := [(3, .ref q9), (0, .ref h0), (1, .int x0), (2, .ref qo)]) hx hb dL_told_12 rfl hl (by decide) rfl (fun ls hl => ?_)
    refine lv_iconst (v := 1) hx hb dL_told_13 (by decide) ?_
    have hP9 := hP.sub (ws' := [(qo, .inl (ko, 1, .inr (.inl fo)))]) [0] rfl
    have hD9 := hD.sub (ws' := [(qo, .inl (ko, 1, .inr (.inl fo)))]) [0] (by decide) rfl
    have hK9 := hK.sub (tys' := [(ko, .long)]) [2] rfl
    rw [← hAe] at hD9
    refine W.widen (k := 1) (n := 6) (Nat.le_of_ble_eq_true rfl) (Nat.le_of_ble_eq_true rfl) ?_
    subst hAe
    exact vx_ret (W.iret (v := 1) hx hb hr (fun t ht hW => ⟨⟨1, (fo 0), rfl, Or.inr ⟨rfl, hxf_2⟩, (fo), by rw [ht]; exact hP9, va_K.moved hW.alike hK9, hD9, rfl⟩, hS.F ht⟩) hS.2.2 dL_told_14)
  · skip
    obtain ⟨hP1, hK1, hD1⟩ := hB
    rw [ht] at hP1
    have hK1 := va_K.moved hvm.symm hK1
    have hJ := va_join (wr := [(qo, .inl (ko, 1, .inr (.inl fo)))]) (w1 := []) hP hD [0, 1, 2, 3, 4] [5] rfl rfl (by decide) (by decide) hk1 hFc hP1 hD1
    clear hP hD hPc hDc hKc hFc hz1; try clear hk1
    obtain ⟨hP, hD⟩ := hJ
    replace hK := (hK.sub (tys' := [(k1a, .long), (k1b, .long), (ko, .long)]) [0, 1, 2] rfl).app (hK1.sub (tys' := []) [] rfl)
    clear hP1 hK1 hD1 hvm ht hS; try clear t
    try clear H
    revert hS1
    intro hS
    generalize H1 = H at hP hS ⊢; try clear H1
    replace hP : va_P (dC, dI) vwCl [(qo, .inl (ko, 1, .inr (.inl fo)))] H := hP
    replace hD : va_D A [(qo, .inl (ko, 1, .inr (.inl fo)))] := hD
    replace hK : va_K (dC, dI) vwCl [(k1a, .long), (k1b, .long), (ko, .long)] s := hK
    have hw_3 : r_1 = 0 ∧ kWhat x0 := hw; clear hw
    obtain ⟨er9, hw_3⟩ := hw_3; subst er9
    refine lv_i2l (v := 0) hx hb dL_told_7 (by decide) ?_
    refine va_last hx hb hK hP hD hS 0 2 rfl rfl (by exact fun h => by rcases h with h | h <;> revert h <;> decide) dL_told_8 ?_
    clear hP hD hS; try clear H
    intro H locs hP hD hS
    obtain ⟨g_4, hg_5, hPx, hDx⟩ : ∃ g : Nat → Int64, g 0 = 0 ∧ va_P (dC, dI) vwCl [(qo, .inl (ko, 1, .inr (.inl g)))] H ∧ va_D A [(qo, .inl (ko, 1, .inr (.inl g)))] := ⟨_, by rfl, hP, hD⟩
    replace hP := hPx; replace hD := hDx; clear hPx hDx
    replace hP : va_P (dC, dI) vwCl [(qo, .inl (ko, 1, .inr (.inl g_4)))] H := hP
    replace hD : va_D A [(qo, .inl (ko, 1, .inr (.inl g_4)))] := hD
    refine lv_goto (tgt := 15) hx hb dL_told_9 (by decide) ?_
    refine lv_iconst (v := 0) hx hb dL_told_15 (by decide) ?_
    have hP9 := hP.sub (ws' := [(qo, .inl (ko, 1, .inr (.inl g_4)))]) [0] rfl
    have hD9 := hD.sub (ws' := [(qo, .inl (ko, 1, .inr (.inl g_4)))]) [0] (by decide) rfl
    have hK9 := hK.sub (tys' := [(ko, .long)]) [2] rfl
    rw [← hAe] at hD9
    refine W.widen (k := 1) (n := 6) (Nat.le_of_ble_eq_true rfl) (Nat.le_of_ble_eq_true rfl) ?_
    subst hAe
    exact vx_ret (W.iret (v := 0) hx hb hr (fun t ht hW => ⟨⟨0, 0, rfl, Or.inl ⟨rfl, rfl, hw_3⟩, (g_4), by rw [ht]; exact hP9, va_K.moved hW.alike hK9, hD9, hg_5⟩, hS.F ht⟩) hS.2.2 dL_told_16)
def wv_l_term : List Cond := .codeWith yL_term cL_term 4 (some .int) [(0, 9, 12, 13)] :: ([.methodLink RL 26 yX11_term, .instanceMethod yX11_term, .selects RX11 yX11_term yX11_term, .initialized RX11, .classLink RL 13 "java/lang/IllegalArgumentException"] ++ (wv_f_term ++ ([])))
theorem gw_l_term : wv_l_term.all goodWord = true := by decide +kernel
theorem g_l_term_f_term_26 : GoodIn wv_l_term (wsV RL 26 RX11 yX11_term wv_f_term) := goodIn_app (goodIn_of _ (by decide +kernel)) (goodIn_sub (fun _ h => List.mem_cons_of_mem _ (List.mem_append_right _ (List.mem_append_left _ h))) gw_f_term)
set_option maxHeartbeats 4000000 in
set_option maxRecDepth 100000 in
/-- the law: term on a fresh object -/
theorem c_l_term (l : Launch) (hlt : l.stackTraces = false) (dC : Nat → ClassId) (dI : Nat → Nat → Nat) (h0 : Nat) (qC : Nat) (qr : Nat) (qra : Nat) (qrb : Nat) (k1a : Nat) (k1b : Nat) (qo : Nat) (ko : Nat) (x0 : Int32) (fo : Nat → Int64) (fs_h0 : List Value) (fs_qC : List Value) (fs_qr : List Value) (hF_h0 : mF 19 [(7, .ref qC)] fs_h0) (hF_qC : mF 13 [(2, .ref qr), (8, .int 0)] fs_qC) (hF_qr : mF 3 [(0, .ref qra), (1, .ref qrb), (2, .int 0)] fs_qr) (sz : Nat) : vx_Met l yL_term wv_l_term ({ frames := 8, cells := 1, slots := 6, locals := 136 }) (va_Pc [.ref h0, .int x0, .ref qo] (fun U => U.heap.size = sz ∧ va_P (dC, dI) vwCl [(h0, .inr (11, fs_h0)), (qC, .inr (2, fs_qC)), (qr, .inr (6, fs_qr)), (qra, .inl (k1a, 16, .inr (.inl (fun _ => 0)))), (qrb, .inl (k1b, 16, .inr (.inl (fun _ => 0)))), (qo, .inl (ko, 1, .inr (.inl fo)))] U.heap ∧ va_K (dC, dI) vwCl [(k1a, .long), (k1b, .long), (ko, .long)] U ∧ va_D (fun _ => True) [(h0, .inr (11, fs_h0)), (qC, .inr (2, fs_qC)), (qr, .inr (6, fs_qr)), (qra, .inl (k1a, 16, .inr (.inl (fun _ => 0)))), (qrb, .inl (k1b, 16, .inr (.inl (fun _ => 0)))), (qo, .inl (ko, 1, .inr (.inl fo)))] ∧ w_N U ∧ w_T (va_A [(h0, .inr (11, fs_h0)), (qC, .inr (2, fs_qC)), (qr, .inr (6, fs_qr)), (qra, .inl (k1a, 16, .inr (.inl (fun _ => 0)))), (qrb, .inl (k1b, 16, .inr (.inl (fun _ => 0)))), (qo, .inl (ko, 1, .inr (.inl fo)))] sz) U U.heap ∧ w_C (va_A [(h0, .inr (11, fs_h0)), (qC, .inr (2, fs_qC)), (qr, .inr (6, fs_qr)), (qra, .inl (k1a, 16, .inr (.inl (fun _ => 0)))), (qrb, .inl (k1b, 16, .inr (.inl (fun _ => 0)))), (qo, .inl (ko, 1, .inr (.inl fo)))] sz) U U.heap)) (va_Qi (fun (r : Int32) (u : Int64) => (r = 0 ∧ u = 0 ∧ kDig x0) ∨ (r = 1 ∧ ¬ kDig x0)) (fun u t => ∃ (fo2 : Nat → Int64), va_P (dC, dI) vwCl [(qo, .inl (ko, 1, .inr (.inl fo2)))] t.heap ∧ va_K (dC, dI) vwCl [(ko, .long)] t ∧ va_D (va_A [(h0, .inr (11, fs_h0)), (qC, .inr (2, fs_qC)), (qr, .inr (6, fs_qr)), (qra, .inl (k1a, 16, .inr (.inl (fun _ => 0)))), (qrb, .inl (k1b, 16, .inr (.inl (fun _ => 0)))), (qo, .inl (ko, 1, .inr (.inl fo)))] sz) [(qo, .inl (ko, 1, .inr (.inl fo2)))] ∧ fo2 0 = u) (va_A [(h0, .inr (11, fs_h0)), (qC, .inr (2, fs_qC)), (qr, .inr (6, fs_qr)), (qra, .inl (k1a, 16, .inr (.inl (fun _ => 0)))), (qrb, .inl (k1b, 16, .inr (.inl (fun _ => 0)))), (qo, .inl (ko, 1, .inr (.inl fo)))] sz)) (vx_X (fun _ : Unit => False) (fun E _ _ => E = "java/lang/IllegalArgumentException") (va_A [(h0, .inr (11, fs_h0)), (qC, .inr (2, fs_qC)), (qr, .inr (6, fs_qr)), (qra, .inl (k1a, 16, .inr (.inl (fun _ => 0)))), (qrb, .inl (k1b, 16, .inr (.inl (fun _ => 0)))), (qo, .inl (ko, 1, .inr (.inl fo)))] sz)) 1 6 (va_A [(h0, .inr (11, fs_h0)), (qC, .inr (2, fs_qC)), (qr, .inr (6, fs_qr)), (qra, .inl (k1a, 16, .inr (.inl (fun _ => 0)))), (qrb, .inl (k1b, 16, .inr (.inl (fun _ => 0)))), (qo, .inl (ko, 1, .inr (.inl fo)))] sz) := by
  refine vx_ofWH (cc := cL_term) (maxL := 4) (ret := (some .int)) (by decide) rfl ?_
  intro p e s m args below meth c s₁ B hml hv
  obtain ⟨rfl, hsz, hP, hK, hD0, hN, hT, hC⟩ := hv
  have hx := B.exec
  have hb := B.bytes
  have hr := B.returns
  have hts := atoms_spec (ws := wv_l_term) B.pre
  have hown : s.vm.findClass RL = some m.cls := findClass_of_methodNamed B.named
  have hlocks := B.notSynchronized
  have htab := vx_table (x := yL_term) B (hts _ (List.mem_of_getElem? (i := 0) rfl))
  subst hsz
  have hD := hD0.self (sz := s.heap.size)
  generalize hAe : va_A [(h0, .inr (11, fs_h0)), (qC, .inr (2, fs_qC)), (qr, .inr (6, fs_qr)), (qra, .inl (k1a, 16, .inr (.inl (fun _ => 0)))), (qrb, .inl (k1b, 16, .inr (.inl (fun _ => 0)))), (qo, .inl (ko, 1, .inr (.inl fo)))] s.heap.size = A at hD hT hC ⊢
  have hA : ∀ q : Nat, s.heap.size ≤ q → A q := fun q h => by rw [← hAe]; exact Or.inr h
  obtain ⟨H, hHe, hP, hS⟩ : ∃ H : Heap, H = s.heap ∧ va_P (dC, dI) vwCl [(h0, .inr (11, fs_h0)), (qC, .inr (2, fs_qC)), (qr, .inr (6, fs_qr)), (qra, .inl (k1a, 16, .inr (.inl (fun _ => 0)))), (qrb, .inl (k1b, 16, .inr (.inl (fun _ => 0)))), (qo, .inl (ko, 1, .inr (.inl fo)))] H ∧ va_S A s.heap H [] := ⟨s.heap, rfl, hP, va_S.rf⟩
  have hl := lv_entry ([.ref h0, .int x0, .ref qo]) (n := 4) (Nat.le_of_ble_eq_true rfl)
  rw [lg_entry_eq]
  generalize (lg_sl ([.ref h0, .int x0, .ref qo]) ++ List.replicate (4 - (lg_sl ([.ref h0, .int x0, .ref qo])).length) Slot.unset).toArray = ls at hl ⊢
  have hl : lv_has ls 4 [(0, .ref h0), (1, .int x0), (2, .ref qo)] := hl
  rw [← hHe]; clear hHe
  refine lv_aload_n hx hb dL_term_0 rfl (lv_at hl 2 rfl) ?_
  refine lv_iconst (v := 0) hx hb dL_term_1 (by decide) ?_
  refine lv_aload_n hx hb dL_term_2 rfl (lv_at hl 0 rfl) ?_
  refine lv_iload_n hx hb dL_term_3 rfl (lv_at hl 1 rfl) ?_
  have hPc := hP.sub (ws' := [(h0, .inr (11, fs_h0)), (qC, .inr (2, fs_qC)), (qr, .inr (6, fs_qr)), (qra, .inl (k1a, 16, .inr (.inl (fun _ => 0)))), (qrb, .inl (k1b, 16, .inr (.inl (fun _ => 0))))]) [0, 1, 2, 3, 4] rfl
  have hDc := hD.sub (ws' := [(h0, .inr (11, fs_h0)), (qC, .inr (2, fs_qC)), (qr, .inr (6, fs_qr)), (qra, .inl (k1a, 16, .inr (.inl (fun _ => 0)))), (qrb, .inl (k1b, 16, .inr (.inl (fun _ => 0))))]) [0, 1, 2, 3, 4] (by decide) rfl
  have hKc := hK.sub (tys' := [(k1a, .long), (k1b, .long)]) [0, 1] rfl
  have hFc := va_free (wc := [(h0, .inr (11, fs_h0)), (qC, .inr (2, fs_qC)), (qr, .inr (6, fs_qr)), (qra, .inl (k1a, 16, .inr (.inl (fun _ => 0)))), (qrb, .inl (k1b, 16, .inr (.inl (fun _ => 0))))]) hD hS hA [0, 1, 2, 3, 4] rfl
  refine vx_calli (vx_runV (As := [.int x0]) (rest := [.int 0, .ref qo]) ⟨hx, hb, hml, hown, hts⟩ (c_f_term l hlt dC dI h0 qC qr qra qrb k1a k1b x0 fs_h0 fs_qC fs_qr (mF.sub hF_h0 [0] rfl) (mF.sub hF_qC [0, 1] rfl) (mF.sub hF_qr [0, 1, 2] rfl) H.size) (cwV 1 hts g_l_term_f_term_26 rfl rfl rfl hv_X11_term ⟨Nat.le_of_ble_eq_true rfl, Nat.le_of_ble_eq_true rfl⟩) ⟨fun a U g mk q => by obtain ⟨q0, q1, qP, qK, qD, qE0, qE1⟩ := q; exact ⟨q0, q1, qP, va_K.moved (u := U) (U := U.calling g mk a) (Vm.Alike.refl U.vm) qK, qD, w_N.same rfl qE0, w_T.same rfl rfl qE1⟩, va_recv hKc hPc (ci := 11) (q0 := 0) rfl rfl, fun U hU hW => ⟨rfl, by rw [hU], by rw [hU]; exact hPc, va_K.moved hW.alike hKc, hDc.weaken (fun _ _ _ _ => trivial), w_N.warm hW hN, w_T.go hT hW hS.2.1 hFc hU⟩⟩ rfl rfl hl.1 rfl (lv_room (Nat.le_of_ble_eq_true rfl)) dL_term_4 ⟨(Nat.le_of_ble_eq_true rfl), (Nat.le_of_ble_eq_true rfl)⟩) hS (fun q _ h => hFc q h) hFc (fun q _ h => hFc q h) (fun E9 ce9 q9 u t H1 locs1 ht hvm hpx hBX hz1 hk1 hS1 hcell9 hv9 hcl9 => ?_) (fun r_1 u t H1 locs1 ht hvm hw hB hz1 hk1 hS1 => ?_)
  · skip
    obtain rfl : E9 = "java/lang/IllegalArgumentException" := hBX
    have hJ := va_join (wr := [(qo, .inl (ko, 1, .inr (.inl fo)))]) (w1 := []) hP hD [0, 1, 2, 3, 4] [5] rfl rfl (by decide) (by decide) hk1 hFc w_nilP w_nilD
    refine vx_catch (own := RL) (name := "java/lang/IllegalArgumentException") hown [] ⟨0, 9, 12, 13⟩ [] (htab.trans rfl) (fun z hz => absurd hz List.not_mem_nil) (by decide) (by decide) (hts (.classLink RL 13 "java/lang/IllegalArgumentException") (List.mem_of_getElem? (i := 5) rfl)) (va_Nw.use rfl (hT.2.2.2.1 _ (List.mem_of_getElem? (i := 1) rfl))) hcell9 hv9 hcl9 ?_
    have hxf_2 : ¬ kDig x0 := hpx; clear hpx
    clear hP hD; obtain ⟨hP, hD⟩ := hJ
    clear hS; revert hS1; intro hS
    clear ht; generalize H1 = H at hP hS ⊢
    replace hP : va_P (dC, dI) vwCl [(qo, .inl (ko, 1, .inr (.inl fo)))] H := hP
    replace hD : va_D A [(qo, .inl (ko, 1, .inr (.inl fo)))] := hD
    replace hK : va_K (dC, dI) vwCl [(k1a, .long), (k1b, .long), (ko, .long)] s := hK
    refine W.eq (g2 := F0 m 12 ls [.ref q9]) rfl ?_
    refine lv_astore_n (lv' := [(3, .ref q9), (0, .ref h0), (1, .int x0), (2, .ref qo)]) hx hb dL_term_12 rfl hl (by decide) rfl (fun ls hl => ?_)
    refine lv_iconst (v := 1) hx hb dL_term_13 (by decide) ?_
    have hP9 := hP.sub (ws' := [(qo, .inl (ko, 1, .inr (.inl fo)))]) [0] rfl
    have hD9 := hD.sub (ws' := [(qo, .inl (ko, 1, .inr (.inl fo)))]) [0] (by decide) rfl
    have hK9 := hK.sub (tys' := [(ko, .long)]) [2] rfl
    rw [← hAe] at hD9
    refine W.widen (k := 1) (n := 6) (Nat.le_of_ble_eq_true rfl) (Nat.le_of_ble_eq_true rfl) ?_
    subst hAe
    exact vx_ret (W.iret (v := 1) hx hb hr (fun t ht hW => ⟨⟨1, (fo 0), rfl, Or.inr ⟨rfl, hxf_2⟩, (fo), by rw [ht]; exact hP9, va_K.moved hW.alike hK9, hD9, rfl⟩, hS.F ht⟩) hS.2.2 dL_term_14)
  · skip
    obtain ⟨hP1, hK1, hD1⟩ := hB
    rw [ht] at hP1
    have hK1 := va_K.moved hvm.symm hK1
    have hJ := va_join (wr := [(qo, .inl (ko, 1, .inr (.inl fo)))]) (w1 := []) hP hD [0, 1, 2, 3, 4] [5] rfl rfl (by decide) (by decide) hk1 hFc hP1 hD1
    clear hP hD hPc hDc hKc hFc hz1; try clear hk1
    obtain ⟨hP, hD⟩ := hJ
    replace hK := (hK.sub (tys' := [(k1a, .long), (k1b, .long), (ko, .long)]) [0, 1, 2] rfl).app (hK1.sub (tys' := []) [] rfl)
    clear hP1 hK1 hD1 hvm ht hS; try clear t
    try clear H
    revert hS1
    intro hS
    generalize H1 = H at hP hS ⊢; try clear H1
    replace hP : va_P (dC, dI) vwCl [(qo, .inl (ko, 1, .inr (.inl fo)))] H := hP
    replace hD : va_D A [(qo, .inl (ko, 1, .inr (.inl fo)))] := hD
    replace hK : va_K (dC, dI) vwCl [(k1a, .long), (k1b, .long), (ko, .long)] s := hK
    have hw_3 : r_1 = 0 ∧ kDig x0 := hw; clear hw
    obtain ⟨er9, hw_3⟩ := hw_3; subst er9
    refine lv_i2l (v := 0) hx hb dL_term_7 (by decide) ?_
    refine va_last hx hb hK hP hD hS 0 2 rfl rfl (by exact fun h => by rcases h with h | h <;> revert h <;> decide) dL_term_8 ?_
    clear hP hD hS; try clear H
    intro H locs hP hD hS
    obtain ⟨g_4, hg_5, hPx, hDx⟩ : ∃ g : Nat → Int64, g 0 = 0 ∧ va_P (dC, dI) vwCl [(qo, .inl (ko, 1, .inr (.inl g)))] H ∧ va_D A [(qo, .inl (ko, 1, .inr (.inl g)))] := ⟨_, by rfl, hP, hD⟩
    replace hP := hPx; replace hD := hDx; clear hPx hDx
    replace hP : va_P (dC, dI) vwCl [(qo, .inl (ko, 1, .inr (.inl g_4)))] H := hP
    replace hD : va_D A [(qo, .inl (ko, 1, .inr (.inl g_4)))] := hD
    refine lv_goto (tgt := 15) hx hb dL_term_9 (by decide) ?_
    refine lv_iconst (v := 0) hx hb dL_term_15 (by decide) ?_
    have hP9 := hP.sub (ws' := [(qo, .inl (ko, 1, .inr (.inl g_4)))]) [0] rfl
    have hD9 := hD.sub (ws' := [(qo, .inl (ko, 1, .inr (.inl g_4)))]) [0] (by decide) rfl
    have hK9 := hK.sub (tys' := [(ko, .long)]) [2] rfl
    rw [← hAe] at hD9
    refine W.widen (k := 1) (n := 6) (Nat.le_of_ble_eq_true rfl) (Nat.le_of_ble_eq_true rfl) ?_
    subst hAe
    exact vx_ret (W.iret (v := 0) hx hb hr (fun t ht hW => ⟨⟨0, 0, rfl, Or.inl ⟨rfl, rfl, hw_3⟩, (g_4), by rw [ht]; exact hP9, va_K.moved hW.alike hK9, hD9, hg_5⟩, hS.F ht⟩) hS.2.2 dL_term_16)
def wv_l_rest : List Cond := .codeWith yL_rest cL_rest 4 (some .int) [(0, 9, 12, 13), (0, 9, 15, 18)] :: ([.methodLink RL 29 yX11_rest, .instanceMethod yX11_rest, .selects RX11 yX11_rest yX11_rest, .initialized RX11, .classLink RL 13 "java/lang/IllegalArgumentException", .classLink RL 18 "java/lang/IllegalStateException"] ++ (wv_f_rest ++ ([])))
theorem gw_l_rest : wv_l_rest.all goodWord = true := by decide +kernel
theorem g_l_rest_f_rest_29 : GoodIn wv_l_rest (wsV RL 29 RX11 yX11_rest wv_f_rest) := goodIn_app (goodIn_of _ (by decide +kernel)) (goodIn_sub (fun _ h => List.mem_cons_of_mem _ (List.mem_append_right _ (List.mem_append_left _ h))) gw_f_rest)
set_option maxHeartbeats 4000000 in
set_option maxRecDepth 100000 in
/-- the law: rest on a fresh object -/
theorem c_l_rest (l : Launch) (hlt : l.stackTraces = false) (dC : Nat → ClassId) (dI : Nat → Nat → Nat) (h0 : Nat) (qC : Nat) (qo : Nat) (x0 : Int32) (fs_h0 : List Value) (fs_qC : List Value) (hF_h0 : mF 19 [(7, .ref qC)] fs_h0) (hF_qC : mF 13 [(8, .int 0)] fs_qC) (sz : Nat) : vx_Met l yL_rest wv_l_rest ({ frames := 8, cells := 1, slots := 6, locals := 131 }) (va_Pc [.ref h0, .int x0, .ref qo] (fun U => U.heap.size = sz ∧ va_P (dC, dI) vwCl [(h0, .inr (11, fs_h0)), (qC, .inr (2, fs_qC))] U.heap ∧ va_K (dC, dI) vwCl [] U ∧ va_D (fun _ => True) [(h0, .inr (11, fs_h0)), (qC, .inr (2, fs_qC))] ∧ w_N U ∧ w_T (va_A [(h0, .inr (11, fs_h0)), (qC, .inr (2, fs_qC))] sz) U U.heap ∧ w_C (va_A [(h0, .inr (11, fs_h0)), (qC, .inr (2, fs_qC))] sz) U U.heap)) (va_Qi (fun (r : Int32) (_ : Unit) => r = 2) (fun _ t => va_P (dC, dI) vwCl [] t.heap ∧ va_K (dC, dI) vwCl [] t ∧ va_D (va_A [(h0, .inr (11, fs_h0)), (qC, .inr (2, fs_qC))] sz) []) (va_A [(h0, .inr (11, fs_h0)), (qC, .inr (2, fs_qC))] sz)) (vx_X (fun _ : Unit => False) (fun E _ _ => E = "java/lang/IllegalStateException") (va_A [(h0, .inr (11, fs_h0)), (qC, .inr (2, fs_qC))] sz)) 1 6 (va_A [(h0, .inr (11, fs_h0)), (qC, .inr (2, fs_qC))] sz) := by
  refine vx_ofWH (cc := cL_rest) (maxL := 4) (ret := (some .int)) (by decide) rfl ?_
  intro p e s m args below meth c s₁ B hml hv
  obtain ⟨rfl, hsz, hP, hK, hD0, hN, hT, hC⟩ := hv
  have hx := B.exec
  have hb := B.bytes
  have hr := B.returns
  have hts := atoms_spec (ws := wv_l_rest) B.pre
  have hown : s.vm.findClass RL = some m.cls := findClass_of_methodNamed B.named
  have hlocks := B.notSynchronized
  have htab := vx_table (x := yL_rest) B (hts _ (List.mem_of_getElem? (i := 0) rfl))
  subst hsz
  have hD := hD0.self (sz := s.heap.size)
  generalize hAe : va_A [(h0, .inr (11, fs_h0)), (qC, .inr (2, fs_qC))] s.heap.size = A at hD hT hC ⊢
  have hA : ∀ q : Nat, s.heap.size ≤ q → A q := fun q h => by rw [← hAe]; exact Or.inr h
  obtain ⟨H, hHe, hP, hS⟩ : ∃ H : Heap, H = s.heap ∧ va_P (dC, dI) vwCl [(h0, .inr (11, fs_h0)), (qC, .inr (2, fs_qC))] H ∧ va_S A s.heap H [] := ⟨s.heap, rfl, hP, va_S.rf⟩
  have hl := lv_entry ([.ref h0, .int x0, .ref qo]) (n := 4) (Nat.le_of_ble_eq_true rfl)
  rw [lg_entry_eq]
  generalize (lg_sl ([.ref h0, .int x0, .ref qo]) ++ List.replicate (4 - (lg_sl ([.ref h0, .int x0, .ref qo])).length) Slot.unset).toArray = ls at hl ⊢
  have hl : lv_has ls 4 [(0, .ref h0), (1, .int x0), (2, .ref qo)] := hl
  rw [← hHe]; clear hHe
  refine lv_aload_n hx hb dL_rest_0 rfl (lv_at hl 2 rfl) ?_
  refine lv_iconst (v := 0) hx hb dL_rest_1 (by decide) ?_
  refine lv_aload_n hx hb dL_rest_2 rfl (lv_at hl 0 rfl) ?_
  refine lv_iload_n hx hb dL_rest_3 rfl (lv_at hl 1 rfl) ?_
  have hPc := hP.sub (ws' := [(h0, .inr (11, fs_h0)), (qC, .inr (2, fs_qC))]) [0, 1] rfl
  have hDc := hD.sub (ws' := [(h0, .inr (11, fs_h0)), (qC, .inr (2, fs_qC))]) [0, 1] (by decide) rfl
  have hKc := hK.sub (tys' := []) [] rfl
  have hFc := va_free (wc := [(h0, .inr (11, fs_h0)), (qC, .inr (2, fs_qC))]) hD hS hA [0, 1] rfl
  refine vx_calli (vx_runV (As := [.int x0]) (rest := [.int 0, .ref qo]) ⟨hx, hb, hml, hown, hts⟩ (c_f_rest l hlt dC dI h0 qC x0 fs_h0 fs_qC (mF.sub hF_h0 [0] rfl) (mF.sub hF_qC [0] rfl) H.size) (cwV 1 hts g_l_rest_f_rest_29 rfl rfl rfl hv_X11_rest ⟨Nat.le_of_ble_eq_true rfl, Nat.le_of_ble_eq_true rfl⟩) ⟨fun a U g mk q => by obtain ⟨q0, q1, qP, qK, qD, qE0, qE1⟩ := q; exact ⟨q0, q1, qP, va_K.moved (u := U) (U := U.calling g mk a) (Vm.Alike.refl U.vm) qK, qD, w_N.same rfl qE0, w_T.same rfl rfl qE1⟩, va_recv hKc hPc (ci := 11) (q0 := 0) rfl rfl, fun U hU hW => ⟨rfl, by rw [hU], by rw [hU]; exact hPc, va_K.moved hW.alike hKc, hDc.weaken (fun _ _ _ _ => trivial), w_N.warm hW hN, w_T.go hT hW hS.2.1 hFc hU⟩⟩ rfl rfl hl.1 rfl (lv_room (Nat.le_of_ble_eq_true rfl)) dL_rest_4 ⟨(Nat.le_of_ble_eq_true rfl), (Nat.le_of_ble_eq_true rfl)⟩) hS (fun q _ h => hFc q h) hFc (fun q _ h => hFc q h) (fun E9 ce9 q9 u t H1 locs1 ht hvm hpx hBX hz1 hk1 hS1 hcell9 hv9 hcl9 => ?_) (fun r_1 u t H1 locs1 ht hvm hw hB hz1 hk1 hS1 => ?_)
  · skip
    obtain rfl : E9 = "java/lang/IllegalStateException" := hBX
    have hJ := va_join (wr := []) (w1 := []) hP hD [0, 1] [] rfl rfl (by decide) (by decide) hk1 hFc w_nilP w_nilD
    refine vx_catch (own := RL) (name := "java/lang/IllegalStateException") hown [⟨0, 9, 12, 13⟩] ⟨0, 9, 15, 18⟩ [] (htab.trans rfl) ?hps (by decide) (by decide) (hts (.classLink RL 18 "java/lang/IllegalStateException") (List.mem_of_getElem? (i := 6) rfl)) (va_Nw.use rfl (hT.2.2.2.1 _ (List.mem_of_getElem? (i := 0) rfl))) hcell9 hv9 hcl9 ?_
    case hps =>
      intro z hz
      simp only [List.mem_cons, List.not_mem_nil, or_false] at hz
      rcases hz with rfl
      · exact Or.inr ⟨by decide, "java/lang/IllegalArgumentException", (hts (.classLink RL 13 "java/lang/IllegalArgumentException") (List.mem_of_getElem? (i := 5) rfl)), hC.2⟩
    have hxf_2 : True := hpx; clear hpx
    clear hP hD; obtain ⟨hP, hD⟩ := hJ
    clear hS; revert hS1; intro hS
    clear ht; generalize H1 = H at hP hS ⊢
    replace hP : va_P (dC, dI) vwCl [] H := hP
    replace hD : va_D A [] := hD
    replace hK : va_K (dC, dI) vwCl [] s := hK
    refine W.eq (g2 := F0 m 15 ls [.ref q9]) rfl ?_
    refine lv_astore_n (lv' := [(3, .ref q9), (0, .ref h0), (1, .int x0), (2, .ref qo)]) hx hb dL_rest_15 rfl hl (by decide) rfl (fun ls hl => ?_)
    refine lv_iconst (v := 2) hx hb dL_rest_16 (by decide) ?_
    have hP9 := hP.sub (ws' := []) [] rfl
    have hD9 := hD.sub (ws' := []) [] (by decide) rfl
    have hK9 := hK.sub (tys' := []) [] rfl
    rw [← hAe] at hD9
    refine W.widen (k := 1) (n := 6) (Nat.le_of_ble_eq_true rfl) (Nat.le_of_ble_eq_true rfl) ?_
    subst hAe
    exact vx_ret (W.iret (v := 2) hx hb hr (fun t ht hW => ⟨⟨2, (), rfl, rfl, by rw [ht]; exact hP9, va_K.moved hW.alike hK9, hD9⟩, hS.F ht⟩) hS.2.2 dL_rest_17)
  · skip
    exact (hw : False).elim
def wv_l_leaves : List Cond := .codeWith yL_leaves cL_leaves 3 (some .int) [(0, 15, 18, 18)] :: ([.methodLink RL 32 yX11_leaves, .instanceMethod yX11_leaves, .selects RX11 yX11_leaves yX11_leaves, .initialized RX11, .classLink RL 18 "java/lang/IllegalStateException"] ++ (wv_f_leaves ++ ([])))
theorem gw_l_leaves : wv_l_leaves.all goodWord = true := by decide +kernel
theorem g_l_leaves_f_leaves_32 : GoodIn wv_l_leaves (wsV RL 32 RX11 yX11_leaves wv_f_leaves) := goodIn_app (goodIn_of _ (by decide +kernel)) (goodIn_sub (fun _ h => List.mem_cons_of_mem _ (List.mem_append_right _ (List.mem_append_left _ h))) gw_f_leaves)
set_option maxHeartbeats 4000000 in
set_option maxRecDepth 100000 in
/-- the law: leaves on a fresh object -/
theorem c_l_leaves (l : Launch) (hlt : l.stackTraces = false) (dC : Nat → ClassId) (dI : Nat → Nat → Nat) (h0 : Nat) (qC : Nat) (qo : Nat) (fs_h0 : List Value) (fs_qC : List Value) (hF_h0 : mF 19 [(7, .ref qC)] fs_h0) (hF_qC : mF 13 [(8, .int 0)] fs_qC) (sz : Nat) : vx_Met l yL_leaves wv_l_leaves ({ frames := 8, cells := 1, slots := 6, locals := 130 }) (va_Pc [.ref h0, .ref qo] (fun U => U.heap.size = sz ∧ va_P (dC, dI) vwCl [(h0, .inr (11, fs_h0)), (qC, .inr (2, fs_qC))] U.heap ∧ va_K (dC, dI) vwCl [] U ∧ va_D (fun _ => True) [(h0, .inr (11, fs_h0)), (qC, .inr (2, fs_qC))] ∧ w_N U ∧ w_T (va_A [(h0, .inr (11, fs_h0)), (qC, .inr (2, fs_qC))] sz) U U.heap ∧ w_C (va_A [(h0, .inr (11, fs_h0)), (qC, .inr (2, fs_qC))] sz) U U.heap)) (va_Qi (fun (r : Int32) (_ : Unit) => r = 1) (fun _ t => va_P (dC, dI) vwCl [] t.heap ∧ va_K (dC, dI) vwCl [] t ∧ va_D (va_A [(h0, .inr (11, fs_h0)), (qC, .inr (2, fs_qC))] sz) []) (va_A [(h0, .inr (11, fs_h0)), (qC, .inr (2, fs_qC))] sz)) (vx_X (fun _ : Unit => False) (fun E _ _ => E = "java/lang/IllegalStateException") (va_A [(h0, .inr (11, fs_h0)), (qC, .inr (2, fs_qC))] sz)) 1 6 (va_A [(h0, .inr (11, fs_h0)), (qC, .inr (2, fs_qC))] sz) := by
  refine vx_ofWH (cc := cL_leaves) (maxL := 3) (ret := (some .int)) (by decide) rfl ?_
  intro p e s m args below meth c s₁ B hml hv
  obtain ⟨rfl, hsz, hP, hK, hD0, hN, hT, hC⟩ := hv
  have hx := B.exec
  have hb := B.bytes
  have hr := B.returns
  have hts := atoms_spec (ws := wv_l_leaves) B.pre
  have hown : s.vm.findClass RL = some m.cls := findClass_of_methodNamed B.named
  have hlocks := B.notSynchronized
  have htab := vx_table (x := yL_leaves) B (hts _ (List.mem_of_getElem? (i := 0) rfl))
  subst hsz
  have hD := hD0.self (sz := s.heap.size)
  generalize hAe : va_A [(h0, .inr (11, fs_h0)), (qC, .inr (2, fs_qC))] s.heap.size = A at hD hT hC ⊢
  have hA : ∀ q : Nat, s.heap.size ≤ q → A q := fun q h => by rw [← hAe]; exact Or.inr h
  obtain ⟨H, hHe, hP, hS⟩ : ∃ H : Heap, H = s.heap ∧ va_P (dC, dI) vwCl [(h0, .inr (11, fs_h0)), (qC, .inr (2, fs_qC))] H ∧ va_S A s.heap H [] := ⟨s.heap, rfl, hP, va_S.rf⟩
  have hl := lv_entry ([.ref h0, .ref qo]) (n := 3) (Nat.le_of_ble_eq_true rfl)
  rw [lg_entry_eq]
  generalize (lg_sl ([.ref h0, .ref qo]) ++ List.replicate (3 - (lg_sl ([.ref h0, .ref qo])).length) Slot.unset).toArray = ls at hl ⊢
  have hl : lv_has ls 3 [(0, .ref h0), (1, .ref qo)] := hl
  rw [← hHe]; clear hHe
  refine lv_aload_n hx hb dL_leaves_0 rfl (lv_at hl 1 rfl) ?_
  refine lv_iconst (v := 0) hx hb dL_leaves_1 (by decide) ?_
  refine lv_aload_n hx hb dL_leaves_2 rfl (lv_at hl 0 rfl) ?_
  have hPc := hP.sub (ws' := [(h0, .inr (11, fs_h0)), (qC, .inr (2, fs_qC))]) [0, 1] rfl
  have hDc := hD.sub (ws' := [(h0, .inr (11, fs_h0)), (qC, .inr (2, fs_qC))]) [0, 1] (by decide) rfl
  have hKc := hK.sub (tys' := []) [] rfl
  have hFc := va_free (wc := [(h0, .inr (11, fs_h0)), (qC, .inr (2, fs_qC))]) hD hS hA [0, 1] rfl
  refine vx_calli (vx_runV (As := []) (rest := [.int 0, .ref qo]) ⟨hx, hb, hml, hown, hts⟩ (c_f_leaves l hlt dC dI h0 qC fs_h0 fs_qC (mF.sub hF_h0 [0] rfl) (mF.sub hF_qC [0] rfl) H.size) (cwV 0 hts g_l_leaves_f_leaves_32 rfl rfl rfl hv_X11_leaves ⟨Nat.le_of_ble_eq_true rfl, Nat.le_of_ble_eq_true rfl⟩) ⟨fun a U g mk q => by obtain ⟨q0, q1, qP, qK, qD, qE0, qE1⟩ := q; exact ⟨q0, q1, qP, va_K.moved (u := U) (U := U.calling g mk a) (Vm.Alike.refl U.vm) qK, qD, w_N.same rfl qE0, w_T.same rfl rfl qE1⟩, va_recv hKc hPc (ci := 11) (q0 := 0) rfl rfl, fun U hU hW => ⟨rfl, by rw [hU], by rw [hU]; exact hPc, va_K.moved hW.alike hKc, hDc.weaken (fun _ _ _ _ => trivial), w_N.warm hW hN, w_T.go hT hW hS.2.1 hFc hU⟩⟩ rfl rfl hl.1 rfl (lv_room (Nat.le_of_ble_eq_true rfl)) dL_leaves_3 ⟨(Nat.le_of_ble_eq_true rfl), (Nat.le_of_ble_eq_true rfl)⟩) hS (fun q _ h => hFc q h) hFc (fun q _ h => hFc q h) (fun E9 ce9 q9 u t H1 locs1 ht hvm hpx hBX hz1 hk1 hS1 hcell9 hv9 hcl9 => ?_) (fun r_1 u t H1 locs1 ht hvm hw hB hz1 hk1 hS1 => ?_)
  · skip
    obtain rfl : E9 = "java/lang/IllegalStateException" := hBX
    have hJ := va_join (wr := []) (w1 := []) hP hD [0, 1] [] rfl rfl (by decide) (by decide) hk1 hFc w_nilP w_nilD
    refine vx_catch (own := RL) (name := "java/lang/IllegalStateException") hown [] ⟨0, 15, 18, 18⟩ [] (htab.trans rfl) (fun z hz => absurd hz List.not_mem_nil) (by decide) (by decide) (hts (.classLink RL 18 "java/lang/IllegalStateException") (List.mem_of_getElem? (i := 5) rfl)) (va_Nw.use rfl (hT.2.2.2.1 _ (List.mem_of_getElem? (i := 0) rfl))) hcell9 hv9 hcl9 ?_
    have hxf_2 : True := hpx; clear hpx
    clear hP hD; obtain ⟨hP, hD⟩ := hJ
    clear hS; revert hS1; intro hS
    clear ht; generalize H1 = H at hP hS ⊢
    replace hP : va_P (dC, dI) vwCl [] H := hP
    replace hD : va_D A [] := hD
    replace hK : va_K (dC, dI) vwCl [] s := hK
    refine W.eq (g2 := F0 m 18 ls [.ref q9]) rfl ?_
    refine lv_astore_n (lv' := [(2, .ref q9), (0, .ref h0), (1, .ref qo)]) hx hb dL_leaves_18 rfl hl (by decide) rfl (fun ls hl => ?_)
    refine lv_iconst (v := 1) hx hb dL_leaves_19 (by decide) ?_
    have hP9 := hP.sub (ws' := []) [] rfl
    have hD9 := hD.sub (ws' := []) [] (by decide) rfl
    have hK9 := hK.sub (tys' := []) [] rfl
    rw [← hAe] at hD9
    refine W.widen (k := 1) (n := 6) (Nat.le_of_ble_eq_true rfl) (Nat.le_of_ble_eq_true rfl) ?_
    subst hAe
    exact vx_ret (W.iret (v := 1) hx hb hr (fun t ht hW => ⟨⟨1, (), rfl, rfl, by rw [ht]; exact hP9, va_K.moved hW.alike hK9, hD9⟩, hS.F ht⟩) hS.2.2 dL_leaves_20)
  · skip
    exact (hw : False).elim
def wv_l_fields : List Cond := .codeWith yL_fields cL_fields 4 (some .int) [(0, 9, 12, 13), (0, 9, 15, 18)] :: ([.methodLink RL 36 yX11_fields, .instanceMethod yX11_fields, .selects RX11 yX11_fields yX11_fields, .initialized RX11, .classLink RL 13 "java/lang/IllegalArgumentException", .classLink RL 18 "java/lang/IllegalStateException"] ++ (wv_f_fields ++ ([])))
theorem gw_l_fields : wv_l_fields.all goodWord = true := by decide +kernel
theorem g_l_fields_f_fields_36 : GoodIn wv_l_fields (wsV RL 36 RX11 yX11_fields wv_f_fields) := goodIn_app (goodIn_of _ (by decide +kernel)) (goodIn_sub (fun _ h => List.mem_cons_of_mem _ (List.mem_append_right _ (List.mem_append_left _ h))) gw_f_fields)
set_option maxHeartbeats 4000000 in
set_option maxRecDepth 100000 in
/-- the law: fields on a fresh object -/
theorem c_l_fields (l : Launch) (hlt : l.stackTraces = false) (dC : Nat → ClassId) (dI : Nat → Nat → Nat) (h0 : Nat) (qC : Nat) (qo : Nat) (x0 : Int32) (fs_h0 : List Value) (fs_qC : List Value) (hF_h0 : mF 19 [(7, .ref qC)] fs_h0) (hF_qC : mF 13 [(8, .int 0)] fs_qC) (sz : Nat) : vx_Met l yL_fields wv_l_fields ({ frames := 9, cells := 1, slots := 6, locals := 154 }) (va_Pc [.ref h0, .int x0, .ref qo] (fun U => U.heap.size = sz ∧ va_P (dC, dI) vwCl [(h0, .inr (11, fs_h0)), (qC, .inr (2, fs_qC))] U.heap ∧ va_K (dC, dI) vwCl [] U ∧ va_D (fun _ => True) [(h0, .inr (11, fs_h0)), (qC, .inr (2, fs_qC))] ∧ w_N U ∧ w_T (va_A [(h0, .inr (11, fs_h0)), (qC, .inr (2, fs_qC))] sz) U U.heap ∧ w_C (va_A [(h0, .inr (11, fs_h0)), (qC, .inr (2, fs_qC))] sz) U U.heap)) (va_Qi (fun (r : Int32) (_ : Unit) => r = 2) (fun _ t => va_P (dC, dI) vwCl [] t.heap ∧ va_K (dC, dI) vwCl [] t ∧ va_D (va_A [(h0, .inr (11, fs_h0)), (qC, .inr (2, fs_qC))] sz) []) (va_A [(h0, .inr (11, fs_h0)), (qC, .inr (2, fs_qC))] sz)) (vx_X (fun _ : Unit => False) (fun E _ _ => E = "java/lang/IllegalStateException") (va_A [(h0, .inr (11, fs_h0)), (qC, .inr (2, fs_qC))] sz)) 1 6 (va_A [(h0, .inr (11, fs_h0)), (qC, .inr (2, fs_qC))] sz) := by
  refine vx_ofWH (cc := cL_fields) (maxL := 4) (ret := (some .int)) (by decide) rfl ?_
  intro p e s m args below meth c s₁ B hml hv
  obtain ⟨rfl, hsz, hP, hK, hD0, hN, hT, hC⟩ := hv
  have hx := B.exec
  have hb := B.bytes
  have hr := B.returns
  have hts := atoms_spec (ws := wv_l_fields) B.pre
  have hown : s.vm.findClass RL = some m.cls := findClass_of_methodNamed B.named
  have hlocks := B.notSynchronized
  have htab := vx_table (x := yL_fields) B (hts _ (List.mem_of_getElem? (i := 0) rfl))
  subst hsz
  have hD := hD0.self (sz := s.heap.size)
  generalize hAe : va_A [(h0, .inr (11, fs_h0)), (qC, .inr (2, fs_qC))] s.heap.size = A at hD hT hC ⊢
  have hA : ∀ q : Nat, s.heap.size ≤ q → A q := fun q h => by rw [← hAe]; exact Or.inr h
  obtain ⟨H, hHe, hP, hS⟩ : ∃ H : Heap, H = s.heap ∧ va_P (dC, dI) vwCl [(h0, .inr (11, fs_h0)), (qC, .inr (2, fs_qC))] H ∧ va_S A s.heap H [] := ⟨s.heap, rfl, hP, va_S.rf⟩
  have hl := lv_entry ([.ref h0, .int x0, .ref qo]) (n := 4) (Nat.le_of_ble_eq_true rfl)
  rw [lg_entry_eq]
  generalize (lg_sl ([.ref h0, .int x0, .ref qo]) ++ List.replicate (4 - (lg_sl ([.ref h0, .int x0, .ref qo])).length) Slot.unset).toArray = ls at hl ⊢
  have hl : lv_has ls 4 [(0, .ref h0), (1, .int x0), (2, .ref qo)] := hl
  rw [← hHe]; clear hHe
  refine lv_aload_n hx hb dL_fields_0 rfl (lv_at hl 2 rfl) ?_
  refine lv_iconst (v := 0) hx hb dL_fields_1 (by decide) ?_
  refine lv_aload_n hx hb dL_fields_2 rfl (lv_at hl 0 rfl) ?_
  refine lv_iload_n hx hb dL_fields_3 rfl (lv_at hl 1 rfl) ?_
  have hPc := hP.sub (ws' := [(h0, .inr (11, fs_h0)), (qC, .inr (2, fs_qC))]) [0, 1] rfl
  have hDc := hD.sub (ws' := [(h0, .inr (11, fs_h0)), (qC, .inr (2, fs_qC))]) [0, 1] (by decide) rfl
  have hKc := hK.sub (tys' := []) [] rfl
  have hFc := va_free (wc := [(h0, .inr (11, fs_h0)), (qC, .inr (2, fs_qC))]) hD hS hA [0, 1] rfl
  refine vx_calli (vx_runV (As := [.int x0]) (rest := [.int 0, .ref qo]) ⟨hx, hb, hml, hown, hts⟩ (c_f_fields l hlt dC dI h0 qC x0 fs_h0 fs_qC (mF.sub hF_h0 [0] rfl) (mF.sub hF_qC [0] rfl) H.size) (cwV 1 hts g_l_fields_f_fields_36 rfl rfl rfl hv_X11_fields ⟨Nat.le_of_ble_eq_true rfl, Nat.le_of_ble_eq_true rfl⟩) ⟨fun a U g mk q => by obtain ⟨q0, q1, qP, qK, qD, qE0, qE1⟩ := q; exact ⟨q0, q1, qP, va_K.moved (u := U) (U := U.calling g mk a) (Vm.Alike.refl U.vm) qK, qD, w_N.same rfl qE0, w_T.same rfl rfl qE1⟩, va_recv hKc hPc (ci := 11) (q0 := 0) rfl rfl, fun U hU hW => ⟨rfl, by rw [hU], by rw [hU]; exact hPc, va_K.moved hW.alike hKc, hDc.weaken (fun _ _ _ _ => trivial), w_N.warm hW hN, w_T.go hT hW hS.2.1 hFc hU⟩⟩ rfl rfl hl.1 rfl (lv_room (Nat.le_of_ble_eq_true rfl)) dL_fields_4 ⟨(Nat.le_of_ble_eq_true rfl), (Nat.le_of_ble_eq_true rfl)⟩) hS (fun q _ h => hFc q h) hFc (fun q _ h => hFc q h) (fun E9 ce9 q9 u t H1 locs1 ht hvm hpx hBX hz1 hk1 hS1 hcell9 hv9 hcl9 => ?_) (fun r_1 u t H1 locs1 ht hvm hw hB hz1 hk1 hS1 => ?_)
  · skip
    obtain rfl : E9 = "java/lang/IllegalStateException" := hBX
    have hJ := va_join (wr := []) (w1 := []) hP hD [0, 1] [] rfl rfl (by decide) (by decide) hk1 hFc w_nilP w_nilD
    refine vx_catch (own := RL) (name := "java/lang/IllegalStateException") hown [⟨0, 9, 12, 13⟩] ⟨0, 9, 15, 18⟩ [] (htab.trans rfl) ?hps (by decide) (by decide) (hts (.classLink RL 18 "java/lang/IllegalStateException") (List.mem_of_getElem? (i := 6) rfl)) (va_Nw.use rfl (hT.2.2.2.1 _ (List.mem_of_getElem? (i := 0) rfl))) hcell9 hv9 hcl9 ?_
    case hps =>
      intro z hz
      simp only [List.mem_cons, List.not_mem_nil, or_false] at hz
      rcases hz with rfl
      · exact Or.inr ⟨by decide, "java/lang/IllegalArgumentException", (hts (.classLink RL 13 "java/lang/IllegalArgumentException") (List.mem_of_getElem? (i := 5) rfl)), hC.2⟩
    have hxf_2 : True := hpx; clear hpx
    clear hP hD; obtain ⟨hP, hD⟩ := hJ
    clear hS; revert hS1; intro hS
    clear ht; generalize H1 = H at hP hS ⊢
    replace hP : va_P (dC, dI) vwCl [] H := hP
    replace hD : va_D A [] := hD
    replace hK : va_K (dC, dI) vwCl [] s := hK
    refine W.eq (g2 := F0 m 15 ls [.ref q9]) rfl ?_
    refine lv_astore_n (lv' := [(3, .ref q9), (0, .ref h0), (1, .int x0), (2, .ref qo)]) hx hb dL_fields_15 rfl hl (by decide) rfl (fun ls hl => ?_)
    refine lv_iconst (v := 2) hx hb dL_fields_16 (by decide) ?_
    have hP9 := hP.sub (ws' := []) [] rfl
    have hD9 := hD.sub (ws' := []) [] (by decide) rfl
    have hK9 := hK.sub (tys' := []) [] rfl
    rw [← hAe] at hD9
    refine W.widen (k := 1) (n := 6) (Nat.le_of_ble_eq_true rfl) (Nat.le_of_ble_eq_true rfl) ?_
    subst hAe
    exact vx_ret (W.iret (v := 2) hx hb hr (fun t ht hW => ⟨⟨2, (), rfl, rfl, by rw [ht]; exact hP9, va_K.moved hW.alike hK9, hD9⟩, hS.F ht⟩) hS.2.2 dL_fields_17)
  · skip
    exact (hw : False).elim
def wv_l_number : List Cond := .codeWith yL_number cL_number 7 (some .int) [(0, 13, 16, 43), (0, 13, 20, 13), (0, 13, 24, 18)] :: ([.methodLink RL 39 yX11_number, .instanceMethod yX11_number, .selects RX11 yX11_number yX11_number, .initialized RX11, .classLink RL 43 "java/util/NoSuchElementException", .classLink RL 13 "java/lang/IllegalArgumentException", .classLink RL 18 "java/lang/IllegalStateException"] ++ (wv_f_number ++ ([])))
theorem gw_l_number : wv_l_number.all goodWord = true := by decide +kernel
theorem g_l_number_f_number_39 : GoodIn wv_l_number (wsV RL 39 RX11 yX11_number wv_f_number) := goodIn_app (goodIn_of _ (by decide +kernel)) (goodIn_sub (fun _ h => List.mem_cons_of_mem _ (List.mem_append_right _ (List.mem_append_left _ h))) gw_f_number)
set_option maxHeartbeats 4000000 in
set_option maxRecDepth 100000 in
/-- the law: number on a fresh object -/
theorem c_l_number (l : Launch) (hlt : l.stackTraces = false) (dC : Nat → ClassId) (dI : Nat → Nat → Nat) (h0 : Nat) (qC : Nat) (qo : Nat) (x0 : Int32) (x1 : Int32) (x2 : Int32) (x3 : Int32) (fs_h0 : List Value) (fs_qC : List Value) (hF_h0 : mF 19 [(7, .ref qC)] fs_h0) (hF_qC : mF 13 [(8, .int 0)] fs_qC) (sz : Nat) : vx_Met l yL_number wv_l_number ({ frames := 9, cells := 1, slots := 6, locals := 159 }) (va_Pc [.ref h0, .int x0, .int x1, .int x2, .int x3, .ref qo] (fun U => U.heap.size = sz ∧ va_P (dC, dI) vwCl [(h0, .inr (11, fs_h0)), (qC, .inr (2, fs_qC))] U.heap ∧ va_K (dC, dI) vwCl [] U ∧ va_D (fun _ => True) [(h0, .inr (11, fs_h0)), (qC, .inr (2, fs_qC))] ∧ w_N U ∧ w_T (va_A [(h0, .inr (11, fs_h0)), (qC, .inr (2, fs_qC))] sz) U U.heap ∧ w_C (va_A [(h0, .inr (11, fs_h0)), (qC, .inr (2, fs_qC))] sz) U U.heap)) (va_Qi (fun (r : Int32) (_ : Unit) => r = 3) (fun _ t => va_P (dC, dI) vwCl [] t.heap ∧ va_K (dC, dI) vwCl [] t ∧ va_D (va_A [(h0, .inr (11, fs_h0)), (qC, .inr (2, fs_qC))] sz) []) (va_A [(h0, .inr (11, fs_h0)), (qC, .inr (2, fs_qC))] sz)) (vx_X (fun _ : Unit => False) (fun E _ _ => E = "java/lang/IllegalStateException") (va_A [(h0, .inr (11, fs_h0)), (qC, .inr (2, fs_qC))] sz)) 1 6 (va_A [(h0, .inr (11, fs_h0)), (qC, .inr (2, fs_qC))] sz) := by
  refine vx_ofWH (cc := cL_number) (maxL := 7) (ret := (some .int)) (by decide) rfl ?_
  intro p e s m args below meth c s₁ B hml hv
  obtain ⟨rfl, hsz, hP, hK, hD0, hN, hT, hC⟩ := hv
  have hx := B.exec
  have hb := B.bytes
  have hr := B.returns
  have hts := atoms_spec (ws := wv_l_number) B.pre
  have hown : s.vm.findClass RL = some m.cls := findClass_of_methodNamed B.named
  have hlocks := B.notSynchronized
  have htab := vx_table (x := yL_number) B (hts _ (List.mem_of_getElem? (i := 0) rfl))
  subst hsz
  have hD := hD0.self (sz := s.heap.size)
  generalize hAe : va_A [(h0, .inr (11, fs_h0)), (qC, .inr (2, fs_qC))] s.heap.size = A at hD hT hC ⊢
  have hA : ∀ q : Nat, s.heap.size ≤ q → A q := fun q h => by rw [← hAe]; exact Or.inr h
  obtain ⟨H, hHe, hP, hS⟩ : ∃ H : Heap, H = s.heap ∧ va_P (dC, dI) vwCl [(h0, .inr (11, fs_h0)), (qC, .inr (2, fs_qC))] H ∧ va_S A s.heap H [] := ⟨s.heap, rfl, hP, va_S.rf⟩
  have hl := lv_entry ([.ref h0, .int x0, .int x1, .int x2, .int x3, .ref qo]) (n := 7) (Nat.le_of_ble_eq_true rfl)
  rw [lg_entry_eq]
  generalize (lg_sl ([.ref h0, .int x0, .int x1, .int x2, .int x3, .ref qo]) ++ List.replicate (7 - (lg_sl ([.ref h0, .int x0, .int x1, .int x2, .int x3, .ref qo])).length) Slot.unset).toArray = ls at hl ⊢
  have hl : lv_has ls 7 [(0, .ref h0), (1, .int x0), (2, .int x1), (3, .int x2), (4, .int x3), (5, .ref qo)] := hl
  rw [← hHe]; clear hHe
  refine lv_aload hx hb dL_number_0 (lv_at hl 5 rfl) ?_
  refine lv_iconst (v := 0) hx hb dL_number_2 (by decide) ?_
  refine lv_aload_n hx hb dL_number_3 rfl (lv_at hl 0 rfl) ?_
  refine lv_iload_n hx hb dL_number_4 rfl (lv_at hl 1 rfl) ?_
  refine lv_iload_n hx hb dL_number_5 rfl (lv_at hl 2 rfl) ?_
  refine lv_iload_n hx hb dL_number_6 rfl (lv_at hl 3 rfl) ?_
  refine lv_iload hx hb dL_number_7 (lv_at hl 4 rfl) ?_
  have hPc := hP.sub (ws' := [(h0, .inr (11, fs_h0)), (qC, .inr (2, fs_qC))]) [0, 1] rfl
  have hDc := hD.sub (ws' := [(h0, .inr (11, fs_h0)), (qC, .inr (2, fs_qC))]) [0, 1] (by decide) rfl
  have hKc := hK.sub (tys' := []) [] rfl
  have hFc := va_free (wc := [(h0, .inr (11, fs_h0)), (qC, .inr (2, fs_qC))]) hD hS hA [0, 1] rfl
  refine vx_calll (vx_runV (As := [.int x0, .int x1, .int x2, .int x3]) (rest := [.int 0, .ref qo]) ⟨hx, hb, hml, hown, hts⟩ (c_f_number l hlt dC dI h0 qC x0 x1 x2 x3 fs_h0 fs_qC (mF.sub hF_h0 [0] rfl) (mF.sub hF_qC [0] rfl) H.size) (cwV 4 hts g_l_number_f_number_39 rfl rfl rfl hv_X11_number ⟨Nat.le_of_ble_eq_true rfl, Nat.le_of_ble_eq_true rfl⟩) ⟨fun a U g mk q => by obtain ⟨q0, q1, qP, qK, qD, qE0, qE1⟩ := q; exact ⟨q0, q1, qP, va_K.moved (u := U) (U := U.calling g mk a) (Vm.Alike.refl U.vm) qK, qD, w_N.same rfl qE0, w_T.same rfl rfl qE1⟩, va_recv hKc hPc (ci := 11) (q0 := 0) rfl rfl, fun U hU hW => ⟨rfl, by rw [hU], by rw [hU]; exact hPc, va_K.moved hW.alike hKc, hDc.weaken (fun _ _ _ _ => trivial), w_N.warm hW hN, w_T.go hT hW hS.2.1 hFc hU⟩⟩ rfl rfl hl.1 rfl (lv_room (Nat.le_of_ble_eq_true rfl)) dL_number_9 ⟨(Nat.le_of_ble_eq_true rfl), (Nat.le_of_ble_eq_true rfl)⟩) hS (fun q _ h => hFc q h) hFc (fun q _ h => hFc q h) (fun E9 ce9 q9 u t H1 locs1 ht hvm hpx hBX hz1 hk1 hS1 hcell9 hv9 hcl9 => ?_) (fun r_1 u t H1 locs1 ht hvm hw hB hz1 hk1 hS1 => ?_)
  · skip
    obtain rfl : E9 = "java/lang/IllegalStateException" := hBX
    have hJ := va_join (wr := []) (w1 := []) hP hD [0, 1] [] rfl rfl (by decide) (by decide) hk1 hFc w_nilP w_nilD
    refine vx_catch (own := RL) (name := "java/lang/IllegalStateException") hown [⟨0, 13, 16, 43⟩, ⟨0, 13, 20, 13⟩] ⟨0, 13, 24, 18⟩ [] (htab.trans rfl) ?hps (by decide) (by decide) (hts (.classLink RL 18 "java/lang/IllegalStateException") (List.mem_of_getElem? (i := 7) rfl)) (va_Nw.use rfl (hT.2.2.2.1 _ (List.mem_of_getElem? (i := 0) rfl))) hcell9 hv9 hcl9 ?_
    case hps =>
      intro z hz
      simp only [List.mem_cons, List.not_mem_nil, or_false] at hz
      rcases hz with rfl | rfl
      · exact Or.inr ⟨by decide, "java/util/NoSuchElementException", (hts (.classLink RL 43 "java/util/NoSuchElementException") (List.mem_of_getElem? (i := 5) rfl)), hC.1⟩
      · exact Or.inr ⟨by decide, "java/lang/IllegalArgumentException", (hts (.classLink RL 13 "java/lang/IllegalArgumentException") (List.mem_of_getElem? (i := 6) rfl)), hC.2⟩
    have hxf_2 : True := hpx; clear hpx
    clear hP hD; obtain ⟨hP, hD⟩ := hJ
    clear hS; revert hS1; intro hS
    clear ht; generalize H1 = H at hP hS ⊢
    replace hP : va_P (dC, dI) vwCl [] H := hP
    replace hD : va_D A [] := hD
    replace hK : va_K (dC, dI) vwCl [] s := hK
    refine W.eq (g2 := F0 m 24 ls [.ref q9]) rfl ?_
    refine lv_astore (lv' := [(6, .ref q9), (0, .ref h0), (1, .int x0), (2, .int x1), (3, .int x2), (4, .int x3), (5, .ref qo)]) hx hb dL_number_24 hl (by decide) rfl (fun ls hl => ?_)
    refine lv_iconst (v := 3) hx hb dL_number_26 (by decide) ?_
    have hP9 := hP.sub (ws' := []) [] rfl
    have hD9 := hD.sub (ws' := []) [] (by decide) rfl
    have hK9 := hK.sub (tys' := []) [] rfl
    rw [← hAe] at hD9
    refine W.widen (k := 1) (n := 6) (Nat.le_of_ble_eq_true rfl) (Nat.le_of_ble_eq_true rfl) ?_
    subst hAe
    exact vx_ret (W.iret (v := 3) hx hb hr (fun t ht hW => ⟨⟨3, (), rfl, rfl, by rw [ht]; exact hP9, va_K.moved hW.alike hK9, hD9⟩, hS.F ht⟩) hS.2.2 dL_number_27)
  · skip
    exact (hw : False).elim
def wv_l_within : List Cond := .codeWith yL_within cL_within 4 (some .int) [(0, 16, 19, 13), (0, 16, 22, 18)] :: ([.methodLink RL 45 yX11_within, .instanceMethod yX11_within, .selects RX11 yX11_within yX11_within, .initialized RX11, .classLink RL 13 "java/lang/IllegalArgumentException", .classLink RL 18 "java/lang/IllegalStateException"] ++ (wv_f_within ++ ([])))
theorem gw_l_within : wv_l_within.all goodWord = true := by decide +kernel
theorem g_l_within_f_within_45 : GoodIn wv_l_within (wsV RL 45 RX11 yX11_within wv_f_within) := goodIn_app (goodIn_of _ (by decide +kernel)) (goodIn_sub (fun _ h => List.mem_cons_of_mem _ (List.mem_append_right _ (List.mem_append_left _ h))) gw_f_within)
set_option maxHeartbeats 4000000 in
set_option maxRecDepth 100000 in
/-- the law: within on a fresh object -/
theorem c_l_within (l : Launch) (hlt : l.stackTraces = false) (dC : Nat → ClassId) (dI : Nat → Nat → Nat) (h0 : Nat) (qC : Nat) (r_h0_algebra : Nat) (qo : Nat) (x0 : Int32) (fs_h0 : List Value) (fs_qC : List Value) (hF_h0 : mF 19 [(7, .ref qC), (8, .ref r_h0_algebra)] fs_h0) (hF_qC : mF 13 [(8, .int 0)] fs_qC) (sz : Nat) : vx_Met l yL_within wv_l_within ({ frames := 9, cells := 1, slots := 6, locals := 154 }) (va_Pc [.ref h0, .int x0, .ref qo] (fun U => U.heap.size = sz ∧ va_P (dC, dI) vwCl [(h0, .inr (11, fs_h0)), (qC, .inr (2, fs_qC))] U.heap ∧ va_K (dC, dI) vwCl [] U ∧ va_D (fun _ => True) [(h0, .inr (11, fs_h0)), (qC, .inr (2, fs_qC))] ∧ w_N U ∧ w_T (va_A [(h0, .inr (11, fs_h0)), (qC, .inr (2, fs_qC))] sz) U U.heap ∧ w_C (va_A [(h0, .inr (11, fs_h0)), (qC, .inr (2, fs_qC))] sz) U U.heap)) (va_Qi (fun (r : Int32) (_ : Unit) => r = 2) (fun _ t => va_P (dC, dI) vwCl [] t.heap ∧ va_K (dC, dI) vwCl [] t ∧ va_D (va_A [(h0, .inr (11, fs_h0)), (qC, .inr (2, fs_qC))] sz) []) (va_A [(h0, .inr (11, fs_h0)), (qC, .inr (2, fs_qC))] sz)) (vx_X (fun _ : Unit => False) (fun E _ _ => E = "java/lang/IllegalStateException") (va_A [(h0, .inr (11, fs_h0)), (qC, .inr (2, fs_qC))] sz)) 1 6 (va_A [(h0, .inr (11, fs_h0)), (qC, .inr (2, fs_qC))] sz) := by
  refine vx_ofWH (cc := cL_within) (maxL := 4) (ret := (some .int)) (by decide) rfl ?_
  intro p e s m args below meth c s₁ B hml hv
  obtain ⟨rfl, hsz, hP, hK, hD0, hN, hT, hC⟩ := hv
  have hx := B.exec
  have hb := B.bytes
  have hr := B.returns
  have hts := atoms_spec (ws := wv_l_within) B.pre
  have hown : s.vm.findClass RL = some m.cls := findClass_of_methodNamed B.named
  have hlocks := B.notSynchronized
  have htab := vx_table (x := yL_within) B (hts _ (List.mem_of_getElem? (i := 0) rfl))
  subst hsz
  have hD := hD0.self (sz := s.heap.size)
  generalize hAe : va_A [(h0, .inr (11, fs_h0)), (qC, .inr (2, fs_qC))] s.heap.size = A at hD hT hC ⊢
  have hA : ∀ q : Nat, s.heap.size ≤ q → A q := fun q h => by rw [← hAe]; exact Or.inr h
  obtain ⟨H, hHe, hP, hS⟩ : ∃ H : Heap, H = s.heap ∧ va_P (dC, dI) vwCl [(h0, .inr (11, fs_h0)), (qC, .inr (2, fs_qC))] H ∧ va_S A s.heap H [] := ⟨s.heap, rfl, hP, va_S.rf⟩
  have hl := lv_entry ([.ref h0, .int x0, .ref qo]) (n := 4) (Nat.le_of_ble_eq_true rfl)
  rw [lg_entry_eq]
  generalize (lg_sl ([.ref h0, .int x0, .ref qo]) ++ List.replicate (4 - (lg_sl ([.ref h0, .int x0, .ref qo])).length) Slot.unset).toArray = ls at hl ⊢
  have hl : lv_has ls 4 [(0, .ref h0), (1, .int x0), (2, .ref qo)] := hl
  rw [← hHe]; clear hHe
  refine lv_aload_n hx hb dL_within_0 rfl (lv_at hl 2 rfl) ?_
  refine lv_iconst (v := 0) hx hb dL_within_1 (by decide) ?_
  refine lv_aload_n hx hb dL_within_2 rfl (lv_at hl 0 rfl) ?_
  refine lv_iload_n hx hb dL_within_3 rfl (lv_at hl 1 rfl) ?_
  have hPc := hP.sub (ws' := [(h0, .inr (11, fs_h0)), (qC, .inr (2, fs_qC))]) [0, 1] rfl
  have hDc := hD.sub (ws' := [(h0, .inr (11, fs_h0)), (qC, .inr (2, fs_qC))]) [0, 1] (by decide) rfl
  have hKc := hK.sub (tys' := []) [] rfl
  have hFc := va_free (wc := [(h0, .inr (11, fs_h0)), (qC, .inr (2, fs_qC))]) hD hS hA [0, 1] rfl
  refine vx_calli (vx_runV (As := [.int x0]) (rest := [.int 0, .ref qo]) ⟨hx, hb, hml, hown, hts⟩ (c_f_within l hlt dC dI h0 qC r_h0_algebra x0 fs_h0 fs_qC (mF.sub hF_h0 [0, 1] rfl) (mF.sub hF_qC [0] rfl) H.size) (cwV 1 hts g_l_within_f_within_45 rfl rfl rfl hv_X11_within ⟨Nat.le_of_ble_eq_true rfl, Nat.le_of_ble_eq_true rfl⟩) ⟨fun a U g mk q => by obtain ⟨q0, q1, qP, qK, qD, qE0, qE1⟩ := q; exact ⟨q0, q1, qP, va_K.moved (u := U) (U := U.calling g mk a) (Vm.Alike.refl U.vm) qK, qD, w_N.same rfl qE0, w_T.same rfl rfl qE1⟩, va_recv hKc hPc (ci := 11) (q0 := 0) rfl rfl, fun U hU hW => ⟨rfl, by rw [hU], by rw [hU]; exact hPc, va_K.moved hW.alike hKc, hDc.weaken (fun _ _ _ _ => trivial), w_N.warm hW hN, w_T.go hT hW hS.2.1 hFc hU⟩⟩ rfl rfl hl.1 rfl (lv_room (Nat.le_of_ble_eq_true rfl)) dL_within_4 ⟨(Nat.le_of_ble_eq_true rfl), (Nat.le_of_ble_eq_true rfl)⟩) hS (fun q _ h => hFc q h) hFc (fun q _ h => hFc q h) (fun E9 ce9 q9 u t H1 locs1 ht hvm hpx hBX hz1 hk1 hS1 hcell9 hv9 hcl9 => ?_) (fun r_1 u t H1 locs1 ht hvm hw hB hz1 hk1 hS1 => ?_)
  · skip
    obtain rfl : E9 = "java/lang/IllegalStateException" := hBX
    have hJ := va_join (wr := []) (w1 := []) hP hD [0, 1] [] rfl rfl (by decide) (by decide) hk1 hFc w_nilP w_nilD
    refine vx_catch (own := RL) (name := "java/lang/IllegalStateException") hown [⟨0, 16, 19, 13⟩] ⟨0, 16, 22, 18⟩ [] (htab.trans rfl) ?hps (by decide) (by decide) (hts (.classLink RL 18 "java/lang/IllegalStateException") (List.mem_of_getElem? (i := 6) rfl)) (va_Nw.use rfl (hT.2.2.2.1 _ (List.mem_of_getElem? (i := 0) rfl))) hcell9 hv9 hcl9 ?_
    case hps =>
      intro z hz
      simp only [List.mem_cons, List.not_mem_nil, or_false] at hz
      rcases hz with rfl
      · exact Or.inr ⟨by decide, "java/lang/IllegalArgumentException", (hts (.classLink RL 13 "java/lang/IllegalArgumentException") (List.mem_of_getElem? (i := 5) rfl)), hC.2⟩
    have hxf_2 : True := hpx; clear hpx
    clear hP hD; obtain ⟨hP, hD⟩ := hJ
    clear hS; revert hS1; intro hS
    clear ht; generalize H1 = H at hP hS ⊢
    replace hP : va_P (dC, dI) vwCl [] H := hP
    replace hD : va_D A [] := hD
    replace hK : va_K (dC, dI) vwCl [] s := hK
    refine W.eq (g2 := F0 m 22 ls [.ref q9]) rfl ?_
    refine lv_astore_n (lv' := [(3, .ref q9), (0, .ref h0), (1, .int x0), (2, .ref qo)]) hx hb dL_within_22 rfl hl (by decide) rfl (fun ls hl => ?_)
    refine lv_iconst (v := 2) hx hb dL_within_23 (by decide) ?_
    have hP9 := hP.sub (ws' := []) [] rfl
    have hD9 := hD.sub (ws' := []) [] (by decide) rfl
    have hK9 := hK.sub (tys' := []) [] rfl
    rw [← hAe] at hD9
    refine W.widen (k := 1) (n := 6) (Nat.le_of_ble_eq_true rfl) (Nat.le_of_ble_eq_true rfl) ?_
    subst hAe
    exact vx_ret (W.iret (v := 2) hx hb hr (fun t ht hW => ⟨⟨2, (), rfl, rfl, by rw [ht]; exact hP9, va_K.moved hW.alike hK9, hD9⟩, hS.F ht⟩) hS.2.2 dL_within_24)
  · skip
    exact (hw : False).elim
def wv_l_closed : List Cond := .codeWith yL_closed cL_closed 4 (some .int) [(0, 16, 19, 13), (0, 16, 22, 18)] :: ([.methodLink RL 49 yX11_closed, .instanceMethod yX11_closed, .selects RX11 yX11_closed yX11_closed, .initialized RX11, .classLink RL 13 "java/lang/IllegalArgumentException", .classLink RL 18 "java/lang/IllegalStateException"] ++ (wv_f_closed ++ ([])))
theorem gw_l_closed : wv_l_closed.all goodWord = true := by decide +kernel
theorem g_l_closed_f_closed_49 : GoodIn wv_l_closed (wsV RL 49 RX11 yX11_closed wv_f_closed) := goodIn_app (goodIn_of _ (by decide +kernel)) (goodIn_sub (fun _ h => List.mem_cons_of_mem _ (List.mem_append_right _ (List.mem_append_left _ h))) gw_f_closed)
set_option maxHeartbeats 4000000 in
set_option maxRecDepth 100000 in
/-- the law: closed on a fresh object -/
theorem c_l_closed (l : Launch) (hlt : l.stackTraces = false) (dC : Nat → ClassId) (dI : Nat → Nat → Nat) (h0 : Nat) (qC : Nat) (r_h0_algebra : Nat) (qo : Nat) (x0 : Int32) (fs_h0 : List Value) (fs_qC : List Value) (hF_h0 : mF 19 [(7, .ref qC), (8, .ref r_h0_algebra)] fs_h0) (hF_qC : mF 13 [(8, .int 0)] fs_qC) (sz : Nat) : vx_Met l yL_closed wv_l_closed ({ frames := 9, cells := 1, slots := 6, locals := 154 }) (va_Pc [.ref h0, .int x0, .ref qo] (fun U => U.heap.size = sz ∧ va_P (dC, dI) vwCl [(h0, .inr (11, fs_h0)), (qC, .inr (2, fs_qC))] U.heap ∧ va_K (dC, dI) vwCl [] U ∧ va_D (fun _ => True) [(h0, .inr (11, fs_h0)), (qC, .inr (2, fs_qC))] ∧ w_N U ∧ w_T (va_A [(h0, .inr (11, fs_h0)), (qC, .inr (2, fs_qC))] sz) U U.heap ∧ w_C (va_A [(h0, .inr (11, fs_h0)), (qC, .inr (2, fs_qC))] sz) U U.heap)) (va_Qi (fun (r : Int32) (_ : Unit) => r = 2) (fun _ t => va_P (dC, dI) vwCl [] t.heap ∧ va_K (dC, dI) vwCl [] t ∧ va_D (va_A [(h0, .inr (11, fs_h0)), (qC, .inr (2, fs_qC))] sz) []) (va_A [(h0, .inr (11, fs_h0)), (qC, .inr (2, fs_qC))] sz)) (vx_X (fun _ : Unit => False) (fun E _ _ => E = "java/lang/IllegalStateException") (va_A [(h0, .inr (11, fs_h0)), (qC, .inr (2, fs_qC))] sz)) 1 6 (va_A [(h0, .inr (11, fs_h0)), (qC, .inr (2, fs_qC))] sz) := by
  refine vx_ofWH (cc := cL_closed) (maxL := 4) (ret := (some .int)) (by decide) rfl ?_
  intro p e s m args below meth c s₁ B hml hv
  obtain ⟨rfl, hsz, hP, hK, hD0, hN, hT, hC⟩ := hv
  have hx := B.exec
  have hb := B.bytes
  have hr := B.returns
  have hts := atoms_spec (ws := wv_l_closed) B.pre
  have hown : s.vm.findClass RL = some m.cls := findClass_of_methodNamed B.named
  have hlocks := B.notSynchronized
  have htab := vx_table (x := yL_closed) B (hts _ (List.mem_of_getElem? (i := 0) rfl))
  subst hsz
  have hD := hD0.self (sz := s.heap.size)
  generalize hAe : va_A [(h0, .inr (11, fs_h0)), (qC, .inr (2, fs_qC))] s.heap.size = A at hD hT hC ⊢
  have hA : ∀ q : Nat, s.heap.size ≤ q → A q := fun q h => by rw [← hAe]; exact Or.inr h
  obtain ⟨H, hHe, hP, hS⟩ : ∃ H : Heap, H = s.heap ∧ va_P (dC, dI) vwCl [(h0, .inr (11, fs_h0)), (qC, .inr (2, fs_qC))] H ∧ va_S A s.heap H [] := ⟨s.heap, rfl, hP, va_S.rf⟩
  have hl := lv_entry ([.ref h0, .int x0, .ref qo]) (n := 4) (Nat.le_of_ble_eq_true rfl)
  rw [lg_entry_eq]
  generalize (lg_sl ([.ref h0, .int x0, .ref qo]) ++ List.replicate (4 - (lg_sl ([.ref h0, .int x0, .ref qo])).length) Slot.unset).toArray = ls at hl ⊢
  have hl : lv_has ls 4 [(0, .ref h0), (1, .int x0), (2, .ref qo)] := hl
  rw [← hHe]; clear hHe
  refine lv_aload_n hx hb dL_closed_0 rfl (lv_at hl 2 rfl) ?_
  refine lv_iconst (v := 0) hx hb dL_closed_1 (by decide) ?_
  refine lv_aload_n hx hb dL_closed_2 rfl (lv_at hl 0 rfl) ?_
  refine lv_iload_n hx hb dL_closed_3 rfl (lv_at hl 1 rfl) ?_
  have hPc := hP.sub (ws' := [(h0, .inr (11, fs_h0)), (qC, .inr (2, fs_qC))]) [0, 1] rfl
  have hDc := hD.sub (ws' := [(h0, .inr (11, fs_h0)), (qC, .inr (2, fs_qC))]) [0, 1] (by decide) rfl
  have hKc := hK.sub (tys' := []) [] rfl
  have hFc := va_free (wc := [(h0, .inr (11, fs_h0)), (qC, .inr (2, fs_qC))]) hD hS hA [0, 1] rfl
  refine vx_calli (vx_runV (As := [.int x0]) (rest := [.int 0, .ref qo]) ⟨hx, hb, hml, hown, hts⟩ (c_f_closed l hlt dC dI h0 qC r_h0_algebra x0 fs_h0 fs_qC (mF.sub hF_h0 [0, 1] rfl) (mF.sub hF_qC [0] rfl) H.size) (cwV 1 hts g_l_closed_f_closed_49 rfl rfl rfl hv_X11_closed ⟨Nat.le_of_ble_eq_true rfl, Nat.le_of_ble_eq_true rfl⟩) ⟨fun a U g mk q => by obtain ⟨q0, q1, qP, qK, qD, qE0, qE1⟩ := q; exact ⟨q0, q1, qP, va_K.moved (u := U) (U := U.calling g mk a) (Vm.Alike.refl U.vm) qK, qD, w_N.same rfl qE0, w_T.same rfl rfl qE1⟩, va_recv hKc hPc (ci := 11) (q0 := 0) rfl rfl, fun U hU hW => ⟨rfl, by rw [hU], by rw [hU]; exact hPc, va_K.moved hW.alike hKc, hDc.weaken (fun _ _ _ _ => trivial), w_N.warm hW hN, w_T.go hT hW hS.2.1 hFc hU⟩⟩ rfl rfl hl.1 rfl (lv_room (Nat.le_of_ble_eq_true rfl)) dL_closed_4 ⟨(Nat.le_of_ble_eq_true rfl), (Nat.le_of_ble_eq_true rfl)⟩) hS (fun q _ h => hFc q h) hFc (fun q _ h => hFc q h) (fun E9 ce9 q9 u t H1 locs1 ht hvm hpx hBX hz1 hk1 hS1 hcell9 hv9 hcl9 => ?_) (fun r_1 u t H1 locs1 ht hvm hw hB hz1 hk1 hS1 => ?_)
  · skip
    obtain rfl : E9 = "java/lang/IllegalStateException" := hBX
    have hJ := va_join (wr := []) (w1 := []) hP hD [0, 1] [] rfl rfl (by decide) (by decide) hk1 hFc w_nilP w_nilD
    refine vx_catch (own := RL) (name := "java/lang/IllegalStateException") hown [⟨0, 16, 19, 13⟩] ⟨0, 16, 22, 18⟩ [] (htab.trans rfl) ?hps (by decide) (by decide) (hts (.classLink RL 18 "java/lang/IllegalStateException") (List.mem_of_getElem? (i := 6) rfl)) (va_Nw.use rfl (hT.2.2.2.1 _ (List.mem_of_getElem? (i := 0) rfl))) hcell9 hv9 hcl9 ?_
    case hps =>
      intro z hz
      simp only [List.mem_cons, List.not_mem_nil, or_false] at hz
      rcases hz with rfl
      · exact Or.inr ⟨by decide, "java/lang/IllegalArgumentException", (hts (.classLink RL 13 "java/lang/IllegalArgumentException") (List.mem_of_getElem? (i := 5) rfl)), hC.2⟩
    have hxf_2 : True := hpx; clear hpx
    clear hP hD; obtain ⟨hP, hD⟩ := hJ
    clear hS; revert hS1; intro hS
    clear ht; generalize H1 = H at hP hS ⊢
    replace hP : va_P (dC, dI) vwCl [] H := hP
    replace hD : va_D A [] := hD
    replace hK : va_K (dC, dI) vwCl [] s := hK
    refine W.eq (g2 := F0 m 22 ls [.ref q9]) rfl ?_
    refine lv_astore_n (lv' := [(3, .ref q9), (0, .ref h0), (1, .int x0), (2, .ref qo)]) hx hb dL_closed_22 rfl hl (by decide) rfl (fun ls hl => ?_)
    refine lv_iconst (v := 2) hx hb dL_closed_23 (by decide) ?_
    have hP9 := hP.sub (ws' := []) [] rfl
    have hD9 := hD.sub (ws' := []) [] (by decide) rfl
    have hK9 := hK.sub (tys' := []) [] rfl
    rw [← hAe] at hD9
    refine W.widen (k := 1) (n := 6) (Nat.le_of_ble_eq_true rfl) (Nat.le_of_ble_eq_true rfl) ?_
    subst hAe
    exact vx_ret (W.iret (v := 2) hx hb hr (fun t ht hW => ⟨⟨2, (), rfl, rfl, by rw [ht]; exact hP9, va_K.moved hW.alike hK9, hD9⟩, hS.F ht⟩) hS.2.2 dL_closed_24)
  · skip
    exact (hw : False).elim
def wv_l_constant : List Cond := .codeWith yL_constant cL_constant 8 (some .int) [(0, 15, 18, 43), (0, 15, 22, 13), (0, 15, 26, 18)] :: ([.methodLink RL 52 yX11_constant, .instanceMethod yX11_constant, .selects RX11 yX11_constant yX11_constant, .initialized RX11, .classLink RL 43 "java/util/NoSuchElementException", .classLink RL 13 "java/lang/IllegalArgumentException", .classLink RL 18 "java/lang/IllegalStateException"] ++ (wv_f_constant ++ ([])))
theorem gw_l_constant : wv_l_constant.all goodWord = true := by decide +kernel
theorem g_l_constant_f_constant_52 : GoodIn wv_l_constant (wsV RL 52 RX11 yX11_constant wv_f_constant) := goodIn_app (goodIn_of _ (by decide +kernel)) (goodIn_sub (fun _ h => List.mem_cons_of_mem _ (List.mem_append_right _ (List.mem_append_left _ h))) gw_f_constant)
set_option maxHeartbeats 4000000 in
set_option maxRecDepth 100000 in
/-- the law: constant on a fresh object -/
theorem c_l_constant (l : Launch) (hlt : l.stackTraces = false) (dC : Nat → ClassId) (dI : Nat → Nat → Nat) (h0 : Nat) (qC : Nat) (qo : Nat) (x0 : Int32) (x1 : Int32) (x2 : Int32) (x3 : Int32) (x4 : Int32) (fs_h0 : List Value) (fs_qC : List Value) (hF_h0 : mF 19 [(7, .ref qC)] fs_h0) (hF_qC : mF 13 [(8, .int 0)] fs_qC) (sz : Nat) : vx_Met l yL_constant wv_l_constant ({ frames := 9, cells := 1, slots := 6, locals := 159 }) (va_Pc [.ref h0, .int x0, .int x1, .int x2, .int x3, .int x4, .ref qo] (fun U => U.heap.size = sz ∧ va_P (dC, dI) vwCl [(h0, .inr (11, fs_h0)), (qC, .inr (2, fs_qC))] U.heap ∧ va_K (dC, dI) vwCl [] U ∧ va_D (fun _ => True) [(h0, .inr (11, fs_h0)), (qC, .inr (2, fs_qC))] ∧ w_N U ∧ w_T (va_A [(h0, .inr (11, fs_h0)), (qC, .inr (2, fs_qC))] sz) U U.heap ∧ w_C (va_A [(h0, .inr (11, fs_h0)), (qC, .inr (2, fs_qC))] sz) U U.heap)) (va_Qi (fun (r : Int32) (_ : Unit) => r = 3) (fun _ t => va_P (dC, dI) vwCl [] t.heap ∧ va_K (dC, dI) vwCl [] t ∧ va_D (va_A [(h0, .inr (11, fs_h0)), (qC, .inr (2, fs_qC))] sz) []) (va_A [(h0, .inr (11, fs_h0)), (qC, .inr (2, fs_qC))] sz)) (vx_X (fun _ : Unit => False) (fun E _ _ => E = "java/lang/IllegalStateException") (va_A [(h0, .inr (11, fs_h0)), (qC, .inr (2, fs_qC))] sz)) 1 6 (va_A [(h0, .inr (11, fs_h0)), (qC, .inr (2, fs_qC))] sz) := by
  refine vx_ofWH (cc := cL_constant) (maxL := 8) (ret := (some .int)) (by decide) rfl ?_
  intro p e s m args below meth c s₁ B hml hv
  obtain ⟨rfl, hsz, hP, hK, hD0, hN, hT, hC⟩ := hv
  have hx := B.exec
  have hb := B.bytes
  have hr := B.returns
  have hts := atoms_spec (ws := wv_l_constant) B.pre
  have hown : s.vm.findClass RL = some m.cls := findClass_of_methodNamed B.named
  have hlocks := B.notSynchronized
  have htab := vx_table (x := yL_constant) B (hts _ (List.mem_of_getElem? (i := 0) rfl))
  subst hsz
  have hD := hD0.self (sz := s.heap.size)
  generalize hAe : va_A [(h0, .inr (11, fs_h0)), (qC, .inr (2, fs_qC))] s.heap.size = A at hD hT hC ⊢
  have hA : ∀ q : Nat, s.heap.size ≤ q → A q := fun q h => by rw [← hAe]; exact Or.inr h
  obtain ⟨H, hHe, hP, hS⟩ : ∃ H : Heap, H = s.heap ∧ va_P (dC, dI) vwCl [(h0, .inr (11, fs_h0)), (qC, .inr (2, fs_qC))] H ∧ va_S A s.heap H [] := ⟨s.heap, rfl, hP, va_S.rf⟩
  have hl := lv_entry ([.ref h0, .int x0, .int x1, .int x2, .int x3, .int x4, .ref qo]) (n := 8) (Nat.le_of_ble_eq_true rfl)
  rw [lg_entry_eq]
  generalize (lg_sl ([.ref h0, .int x0, .int x1, .int x2, .int x3, .int x4, .ref qo]) ++ List.replicate (8 - (lg_sl ([.ref h0, .int x0, .int x1, .int x2, .int x3, .int x4, .ref qo])).length) Slot.unset).toArray = ls at hl ⊢
  have hl : lv_has ls 8 [(0, .ref h0), (1, .int x0), (2, .int x1), (3, .int x2), (4, .int x3), (5, .int x4), (6, .ref qo)] := hl
  rw [← hHe]; clear hHe
  refine lv_aload hx hb dL_constant_0 (lv_at hl 6 rfl) ?_
  refine lv_iconst (v := 0) hx hb dL_constant_2 (by decide) ?_
  refine lv_aload_n hx hb dL_constant_3 rfl (lv_at hl 0 rfl) ?_
  refine lv_iload_n hx hb dL_constant_4 rfl (lv_at hl 1 rfl) ?_
  refine lv_iload_n hx hb dL_constant_5 rfl (lv_at hl 2 rfl) ?_
  refine lv_iload_n hx hb dL_constant_6 rfl (lv_at hl 3 rfl) ?_
  refine lv_iload hx hb dL_constant_7 (lv_at hl 4 rfl) ?_
  refine lv_iload hx hb dL_constant_9 (lv_at hl 5 rfl) ?_
  have hPc := hP.sub (ws' := [(h0, .inr (11, fs_h0)), (qC, .inr (2, fs_qC))]) [0, 1] rfl
  have hDc := hD.sub (ws' := [(h0, .inr (11, fs_h0)), (qC, .inr (2, fs_qC))]) [0, 1] (by decide) rfl
  have hKc := hK.sub (tys' := []) [] rfl
  have hFc := va_free (wc := [(h0, .inr (11, fs_h0)), (qC, .inr (2, fs_qC))]) hD hS hA [0, 1] rfl
  refine vx_calll (vx_runV (As := [.int x0, .int x1, .int x2, .int x3, .int x4]) (rest := [.int 0, .ref qo]) ⟨hx, hb, hml, hown, hts⟩ (c_f_constant l hlt dC dI h0 qC x0 x1 x2 x3 x4 fs_h0 fs_qC (mF.sub hF_h0 [0] rfl) (mF.sub hF_qC [0] rfl) H.size) (cwV 5 hts g_l_constant_f_constant_52 rfl rfl rfl hv_X11_constant ⟨Nat.le_of_ble_eq_true rfl, Nat.le_of_ble_eq_true rfl⟩) ⟨fun a U g mk q => by obtain ⟨q0, q1, qP, qK, qD, qE0, qE1⟩ := q; exact ⟨q0, q1, qP, va_K.moved (u := U) (U := U.calling g mk a) (Vm.Alike.refl U.vm) qK, qD, w_N.same rfl qE0, w_T.same rfl rfl qE1⟩, va_recv hKc hPc (ci := 11) (q0 := 0) rfl rfl, fun U hU hW => ⟨rfl, by rw [hU], by rw [hU]; exact hPc, va_K.moved hW.alike hKc, hDc.weaken (fun _ _ _ _ => trivial), w_N.warm hW hN, w_T.go hT hW hS.2.1 hFc hU⟩⟩ rfl rfl hl.1 rfl (lv_room (Nat.le_of_ble_eq_true rfl)) dL_constant_11 ⟨(Nat.le_of_ble_eq_true rfl), (Nat.le_of_ble_eq_true rfl)⟩) hS (fun q _ h => hFc q h) hFc (fun q _ h => hFc q h) (fun E9 ce9 q9 u t H1 locs1 ht hvm hpx hBX hz1 hk1 hS1 hcell9 hv9 hcl9 => ?_) (fun r_1 u t H1 locs1 ht hvm hw hB hz1 hk1 hS1 => ?_)
  · skip
    obtain rfl : E9 = "java/lang/IllegalStateException" := hBX
    have hJ := va_join (wr := []) (w1 := []) hP hD [0, 1] [] rfl rfl (by decide) (by decide) hk1 hFc w_nilP w_nilD
    refine vx_catch (own := RL) (name := "java/lang/IllegalStateException") hown [⟨0, 15, 18, 43⟩, ⟨0, 15, 22, 13⟩] ⟨0, 15, 26, 18⟩ [] (htab.trans rfl) ?hps (by decide) (by decide) (hts (.classLink RL 18 "java/lang/IllegalStateException") (List.mem_of_getElem? (i := 7) rfl)) (va_Nw.use rfl (hT.2.2.2.1 _ (List.mem_of_getElem? (i := 0) rfl))) hcell9 hv9 hcl9 ?_
    case hps =>
      intro z hz
      simp only [List.mem_cons, List.not_mem_nil, or_false] at hz
      rcases hz with rfl | rfl
      · exact Or.inr ⟨by decide, "java/util/NoSuchElementException", (hts (.classLink RL 43 "java/util/NoSuchElementException") (List.mem_of_getElem? (i := 5) rfl)), hC.1⟩
      · exact Or.inr ⟨by decide, "java/lang/IllegalArgumentException", (hts (.classLink RL 13 "java/lang/IllegalArgumentException") (List.mem_of_getElem? (i := 6) rfl)), hC.2⟩
    have hxf_2 : True := hpx; clear hpx
    clear hP hD; obtain ⟨hP, hD⟩ := hJ
    clear hS; revert hS1; intro hS
    clear ht; generalize H1 = H at hP hS ⊢
    replace hP : va_P (dC, dI) vwCl [] H := hP
    replace hD : va_D A [] := hD
    replace hK : va_K (dC, dI) vwCl [] s := hK
    refine W.eq (g2 := F0 m 26 ls [.ref q9]) rfl ?_
    refine lv_astore (lv' := [(7, .ref q9), (0, .ref h0), (1, .int x0), (2, .int x1), (3, .int x2), (4, .int x3), (5, .int x4), (6, .ref qo)]) hx hb dL_constant_26 hl (by decide) rfl (fun ls hl => ?_)
    refine lv_iconst (v := 3) hx hb dL_constant_28 (by decide) ?_
    have hP9 := hP.sub (ws' := []) [] rfl
    have hD9 := hD.sub (ws' := []) [] (by decide) rfl
    have hK9 := hK.sub (tys' := []) [] rfl
    rw [← hAe] at hD9
    refine W.widen (k := 1) (n := 6) (Nat.le_of_ble_eq_true rfl) (Nat.le_of_ble_eq_true rfl) ?_
    subst hAe
    exact vx_ret (W.iret (v := 3) hx hb hr (fun t ht hW => ⟨⟨3, (), rfl, rfl, by rw [ht]; exact hP9, va_K.moved hW.alike hK9, hD9⟩, hS.F ht⟩) hS.2.2 dL_constant_29)
  · skip
    exact (hw : False).elim
def wv_l_kind : List Cond := .codeWith yL_kind cL_kind 5 (some .int) [(0, 10, 13, 13), (0, 10, 17, 18)] :: ([.methodLink RL 56 yX11_kind, .instanceMethod yX11_kind, .selects RX11 yX11_kind yX11_kind, .initialized RX11, .classLink RL 13 "java/lang/IllegalArgumentException", .classLink RL 18 "java/lang/IllegalStateException"] ++ (wv_f_kind ++ ([])))
theorem gw_l_kind : wv_l_kind.all goodWord = true := by decide +kernel
theorem g_l_kind_f_kind_56 : GoodIn wv_l_kind (wsV RL 56 RX11 yX11_kind wv_f_kind) := goodIn_app (goodIn_of _ (by decide +kernel)) (goodIn_sub (fun _ h => List.mem_cons_of_mem _ (List.mem_append_right _ (List.mem_append_left _ h))) gw_f_kind)
set_option maxHeartbeats 4000000 in
set_option maxRecDepth 100000 in
/-- the law: kind on a fresh object -/
theorem c_l_kind (l : Launch) (hlt : l.stackTraces = false) (dC : Nat → ClassId) (dI : Nat → Nat → Nat) (h0 : Nat) (qC : Nat) (qo : Nat) (x0 : Int32) (x1 : Int32) (fs_h0 : List Value) (fs_qC : List Value) (hF_h0 : mF 19 [(7, .ref qC)] fs_h0) (hF_qC : mF 13 [(8, .int 0)] fs_qC) (sz : Nat) : vx_Met l yL_kind wv_l_kind ({ frames := 9, cells := 1, slots := 6, locals := 156 }) (va_Pc [.ref h0, .int x0, .int x1, .ref qo] (fun U => U.heap.size = sz ∧ va_P (dC, dI) vwCl [(h0, .inr (11, fs_h0)), (qC, .inr (2, fs_qC))] U.heap ∧ va_K (dC, dI) vwCl [] U ∧ va_D (fun _ => True) [(h0, .inr (11, fs_h0)), (qC, .inr (2, fs_qC))] ∧ w_N U ∧ w_T (va_A [(h0, .inr (11, fs_h0)), (qC, .inr (2, fs_qC))] sz) U U.heap ∧ w_C (va_A [(h0, .inr (11, fs_h0)), (qC, .inr (2, fs_qC))] sz) U U.heap)) (va_Qi (fun (r : Int32) (_ : Unit) => r = 2) (fun _ t => va_P (dC, dI) vwCl [] t.heap ∧ va_K (dC, dI) vwCl [] t ∧ va_D (va_A [(h0, .inr (11, fs_h0)), (qC, .inr (2, fs_qC))] sz) []) (va_A [(h0, .inr (11, fs_h0)), (qC, .inr (2, fs_qC))] sz)) (vx_X (fun _ : Unit => False) (fun E _ _ => E = "java/lang/IllegalStateException") (va_A [(h0, .inr (11, fs_h0)), (qC, .inr (2, fs_qC))] sz)) 1 6 (va_A [(h0, .inr (11, fs_h0)), (qC, .inr (2, fs_qC))] sz) := by
  refine vx_ofWH (cc := cL_kind) (maxL := 5) (ret := (some .int)) (by decide) rfl ?_
  intro p e s m args below meth c s₁ B hml hv
  obtain ⟨rfl, hsz, hP, hK, hD0, hN, hT, hC⟩ := hv
  have hx := B.exec
  have hb := B.bytes
  have hr := B.returns
  have hts := atoms_spec (ws := wv_l_kind) B.pre
  have hown : s.vm.findClass RL = some m.cls := findClass_of_methodNamed B.named
  have hlocks := B.notSynchronized
  have htab := vx_table (x := yL_kind) B (hts _ (List.mem_of_getElem? (i := 0) rfl))
  subst hsz
  have hD := hD0.self (sz := s.heap.size)
  generalize hAe : va_A [(h0, .inr (11, fs_h0)), (qC, .inr (2, fs_qC))] s.heap.size = A at hD hT hC ⊢
  have hA : ∀ q : Nat, s.heap.size ≤ q → A q := fun q h => by rw [← hAe]; exact Or.inr h
  obtain ⟨H, hHe, hP, hS⟩ : ∃ H : Heap, H = s.heap ∧ va_P (dC, dI) vwCl [(h0, .inr (11, fs_h0)), (qC, .inr (2, fs_qC))] H ∧ va_S A s.heap H [] := ⟨s.heap, rfl, hP, va_S.rf⟩
  have hl := lv_entry ([.ref h0, .int x0, .int x1, .ref qo]) (n := 5) (Nat.le_of_ble_eq_true rfl)
  rw [lg_entry_eq]
  generalize (lg_sl ([.ref h0, .int x0, .int x1, .ref qo]) ++ List.replicate (5 - (lg_sl ([.ref h0, .int x0, .int x1, .ref qo])).length) Slot.unset).toArray = ls at hl ⊢
  have hl : lv_has ls 5 [(0, .ref h0), (1, .int x0), (2, .int x1), (3, .ref qo)] := hl
  rw [← hHe]; clear hHe
  refine lv_aload_n hx hb dL_kind_0 rfl (lv_at hl 3 rfl) ?_
  refine lv_iconst (v := 0) hx hb dL_kind_1 (by decide) ?_
  refine lv_aload_n hx hb dL_kind_2 rfl (lv_at hl 0 rfl) ?_
  refine lv_iload_n hx hb dL_kind_3 rfl (lv_at hl 1 rfl) ?_
  refine lv_iload_n hx hb dL_kind_4 rfl (lv_at hl 2 rfl) ?_
  have hPc := hP.sub (ws' := [(h0, .inr (11, fs_h0)), (qC, .inr (2, fs_qC))]) [0, 1] rfl
  have hDc := hD.sub (ws' := [(h0, .inr (11, fs_h0)), (qC, .inr (2, fs_qC))]) [0, 1] (by decide) rfl
  have hKc := hK.sub (tys' := []) [] rfl
  have hFc := va_free (wc := [(h0, .inr (11, fs_h0)), (qC, .inr (2, fs_qC))]) hD hS hA [0, 1] rfl
  refine vx_calli (vx_runV (As := [.int x0, .int x1]) (rest := [.int 0, .ref qo]) ⟨hx, hb, hml, hown, hts⟩ (c_f_kind l hlt dC dI h0 qC x0 x1 fs_h0 fs_qC (mF.sub hF_h0 [0] rfl) (mF.sub hF_qC [0] rfl) H.size) (cwV 2 hts g_l_kind_f_kind_56 rfl rfl rfl hv_X11_kind ⟨Nat.le_of_ble_eq_true rfl, Nat.le_of_ble_eq_true rfl⟩) ⟨fun a U g mk q => by obtain ⟨q0, q1, qP, qK, qD, qE0, qE1⟩ := q; exact ⟨q0, q1, qP, va_K.moved (u := U) (U := U.calling g mk a) (Vm.Alike.refl U.vm) qK, qD, w_N.same rfl qE0, w_T.same rfl rfl qE1⟩, va_recv hKc hPc (ci := 11) (q0 := 0) rfl rfl, fun U hU hW => ⟨rfl, by rw [hU], by rw [hU]; exact hPc, va_K.moved hW.alike hKc, hDc.weaken (fun _ _ _ _ => trivial), w_N.warm hW hN, w_T.go hT hW hS.2.1 hFc hU⟩⟩ rfl rfl hl.1 rfl (lv_room (Nat.le_of_ble_eq_true rfl)) dL_kind_5 ⟨(Nat.le_of_ble_eq_true rfl), (Nat.le_of_ble_eq_true rfl)⟩) hS (fun q _ h => hFc q h) hFc (fun q _ h => hFc q h) (fun E9 ce9 q9 u t H1 locs1 ht hvm hpx hBX hz1 hk1 hS1 hcell9 hv9 hcl9 => ?_) (fun r_1 u t H1 locs1 ht hvm hw hB hz1 hk1 hS1 => ?_)
  · skip
    obtain rfl : E9 = "java/lang/IllegalStateException" := hBX
    have hJ := va_join (wr := []) (w1 := []) hP hD [0, 1] [] rfl rfl (by decide) (by decide) hk1 hFc w_nilP w_nilD
    refine vx_catch (own := RL) (name := "java/lang/IllegalStateException") hown [⟨0, 10, 13, 13⟩] ⟨0, 10, 17, 18⟩ [] (htab.trans rfl) ?hps (by decide) (by decide) (hts (.classLink RL 18 "java/lang/IllegalStateException") (List.mem_of_getElem? (i := 6) rfl)) (va_Nw.use rfl (hT.2.2.2.1 _ (List.mem_of_getElem? (i := 0) rfl))) hcell9 hv9 hcl9 ?_
    case hps =>
      intro z hz
      simp only [List.mem_cons, List.not_mem_nil, or_false] at hz
      rcases hz with rfl
      · exact Or.inr ⟨by decide, "java/lang/IllegalArgumentException", (hts (.classLink RL 13 "java/lang/IllegalArgumentException") (List.mem_of_getElem? (i := 5) rfl)), hC.2⟩
    have hxf_2 : True := hpx; clear hpx
    clear hP hD; obtain ⟨hP, hD⟩ := hJ
    clear hS; revert hS1; intro hS
    clear ht; generalize H1 = H at hP hS ⊢
    replace hP : va_P (dC, dI) vwCl [] H := hP
    replace hD : va_D A [] := hD
    replace hK : va_K (dC, dI) vwCl [] s := hK
    refine W.eq (g2 := F0 m 17 ls [.ref q9]) rfl ?_
    refine lv_astore (lv' := [(4, .ref q9), (0, .ref h0), (1, .int x0), (2, .int x1), (3, .ref qo)]) hx hb dL_kind_17 hl (by decide) rfl (fun ls hl => ?_)
    refine lv_iconst (v := 2) hx hb dL_kind_19 (by decide) ?_
    have hP9 := hP.sub (ws' := []) [] rfl
    have hD9 := hD.sub (ws' := []) [] (by decide) rfl
    have hK9 := hK.sub (tys' := []) [] rfl
    rw [← hAe] at hD9
    refine W.widen (k := 1) (n := 6) (Nat.le_of_ble_eq_true rfl) (Nat.le_of_ble_eq_true rfl) ?_
    subst hAe
    exact vx_ret (W.iret (v := 2) hx hb hr (fun t ht hW => ⟨⟨2, (), rfl, rfl, by rw [ht]; exact hP9, va_K.moved hW.alike hK9, hD9⟩, hS.F ht⟩) hS.2.2 dL_kind_20)
  · skip
    exact (hw : False).elim
def wv_l_steps : List Cond := .codeWith yL_steps cL_steps 6 (some .int) [(0, 12, 15, 43), (0, 12, 19, 13), (0, 12, 23, 18)] :: ([.methodLink RL 60 yX11_steps, .instanceMethod yX11_steps, .selects RX11 yX11_steps yX11_steps, .initialized RX11, .classLink RL 43 "java/util/NoSuchElementException", .classLink RL 13 "java/lang/IllegalArgumentException", .classLink RL 18 "java/lang/IllegalStateException"] ++ (wv_f_steps ++ ([])))
theorem gw_l_steps : wv_l_steps.all goodWord = true := by decide +kernel
theorem g_l_steps_f_steps_60 : GoodIn wv_l_steps (wsV RL 60 RX11 yX11_steps wv_f_steps) := goodIn_app (goodIn_of _ (by decide +kernel)) (goodIn_sub (fun _ h => List.mem_cons_of_mem _ (List.mem_append_right _ (List.mem_append_left _ h))) gw_f_steps)
set_option maxHeartbeats 4000000 in
set_option maxRecDepth 100000 in
/-- the law: steps on a fresh object -/
theorem c_l_steps (l : Launch) (hlt : l.stackTraces = false) (dC : Nat → ClassId) (dI : Nat → Nat → Nat) (h0 : Nat) (qC : Nat) (qo : Nat) (x0 : Int32) (x1 : Int32) (x2 : Int32) (fs_h0 : List Value) (fs_qC : List Value) (hF_h0 : mF 19 [(7, .ref qC)] fs_h0) (hF_qC : mF 13 [(8, .int 0)] fs_qC) (sz : Nat) : vx_Met l yL_steps wv_l_steps ({ frames := 9, cells := 1, slots := 6, locals := 157 }) (va_Pc [.ref h0, .int x0, .int x1, .int x2, .ref qo] (fun U => U.heap.size = sz ∧ va_P (dC, dI) vwCl [(h0, .inr (11, fs_h0)), (qC, .inr (2, fs_qC))] U.heap ∧ va_K (dC, dI) vwCl [] U ∧ va_D (fun _ => True) [(h0, .inr (11, fs_h0)), (qC, .inr (2, fs_qC))] ∧ w_N U ∧ w_T (va_A [(h0, .inr (11, fs_h0)), (qC, .inr (2, fs_qC))] sz) U U.heap ∧ w_C (va_A [(h0, .inr (11, fs_h0)), (qC, .inr (2, fs_qC))] sz) U U.heap)) (va_Qi (fun (r : Int32) (_ : Unit) => r = 3) (fun _ t => va_P (dC, dI) vwCl [] t.heap ∧ va_K (dC, dI) vwCl [] t ∧ va_D (va_A [(h0, .inr (11, fs_h0)), (qC, .inr (2, fs_qC))] sz) []) (va_A [(h0, .inr (11, fs_h0)), (qC, .inr (2, fs_qC))] sz)) (vx_X (fun _ : Unit => False) (fun E _ _ => E = "java/lang/IllegalStateException") (va_A [(h0, .inr (11, fs_h0)), (qC, .inr (2, fs_qC))] sz)) 1 6 (va_A [(h0, .inr (11, fs_h0)), (qC, .inr (2, fs_qC))] sz) := by
  refine vx_ofWH (cc := cL_steps) (maxL := 6) (ret := (some .int)) (by decide) rfl ?_
  intro p e s m args below meth c s₁ B hml hv
  obtain ⟨rfl, hsz, hP, hK, hD0, hN, hT, hC⟩ := hv
  have hx := B.exec
  have hb := B.bytes
  have hr := B.returns
  have hts := atoms_spec (ws := wv_l_steps) B.pre
  have hown : s.vm.findClass RL = some m.cls := findClass_of_methodNamed B.named
  have hlocks := B.notSynchronized
  have htab := vx_table (x := yL_steps) B (hts _ (List.mem_of_getElem? (i := 0) rfl))
  subst hsz
  have hD := hD0.self (sz := s.heap.size)
  generalize hAe : va_A [(h0, .inr (11, fs_h0)), (qC, .inr (2, fs_qC))] s.heap.size = A at hD hT hC ⊢
  have hA : ∀ q : Nat, s.heap.size ≤ q → A q := fun q h => by rw [← hAe]; exact Or.inr h
  obtain ⟨H, hHe, hP, hS⟩ : ∃ H : Heap, H = s.heap ∧ va_P (dC, dI) vwCl [(h0, .inr (11, fs_h0)), (qC, .inr (2, fs_qC))] H ∧ va_S A s.heap H [] := ⟨s.heap, rfl, hP, va_S.rf⟩
  have hl := lv_entry ([.ref h0, .int x0, .int x1, .int x2, .ref qo]) (n := 6) (Nat.le_of_ble_eq_true rfl)
  rw [lg_entry_eq]
  generalize (lg_sl ([.ref h0, .int x0, .int x1, .int x2, .ref qo]) ++ List.replicate (6 - (lg_sl ([.ref h0, .int x0, .int x1, .int x2, .ref qo])).length) Slot.unset).toArray = ls at hl ⊢
  have hl : lv_has ls 6 [(0, .ref h0), (1, .int x0), (2, .int x1), (3, .int x2), (4, .ref qo)] := hl
  rw [← hHe]; clear hHe
  refine lv_aload hx hb dL_steps_0 (lv_at hl 4 rfl) ?_
  refine lv_iconst (v := 0) hx hb dL_steps_2 (by decide) ?_
  refine lv_aload_n hx hb dL_steps_3 rfl (lv_at hl 0 rfl) ?_
  refine lv_iload_n hx hb dL_steps_4 rfl (lv_at hl 1 rfl) ?_
  refine lv_iload_n hx hb dL_steps_5 rfl (lv_at hl 2 rfl) ?_
  refine lv_iload_n hx hb dL_steps_6 rfl (lv_at hl 3 rfl) ?_
  have hPc := hP.sub (ws' := [(h0, .inr (11, fs_h0)), (qC, .inr (2, fs_qC))]) [0, 1] rfl
  have hDc := hD.sub (ws' := [(h0, .inr (11, fs_h0)), (qC, .inr (2, fs_qC))]) [0, 1] (by decide) rfl
  have hKc := hK.sub (tys' := []) [] rfl
  have hFc := va_free (wc := [(h0, .inr (11, fs_h0)), (qC, .inr (2, fs_qC))]) hD hS hA [0, 1] rfl
  refine vx_calli (vx_runV (As := [.int x0, .int x1, .int x2]) (rest := [.int 0, .ref qo]) ⟨hx, hb, hml, hown, hts⟩ (c_f_steps l hlt dC dI h0 qC x0 x1 x2 fs_h0 fs_qC (mF.sub hF_h0 [0] rfl) (mF.sub hF_qC [0] rfl) H.size) (cwV 3 hts g_l_steps_f_steps_60 rfl rfl rfl hv_X11_steps ⟨Nat.le_of_ble_eq_true rfl, Nat.le_of_ble_eq_true rfl⟩) ⟨fun a U g mk q => by obtain ⟨q0, q1, qP, qK, qD, qE0, qE1⟩ := q; exact ⟨q0, q1, qP, va_K.moved (u := U) (U := U.calling g mk a) (Vm.Alike.refl U.vm) qK, qD, w_N.same rfl qE0, w_T.same rfl rfl qE1⟩, va_recv hKc hPc (ci := 11) (q0 := 0) rfl rfl, fun U hU hW => ⟨rfl, by rw [hU], by rw [hU]; exact hPc, va_K.moved hW.alike hKc, hDc.weaken (fun _ _ _ _ => trivial), w_N.warm hW hN, w_T.go hT hW hS.2.1 hFc hU⟩⟩ rfl rfl hl.1 rfl (lv_room (Nat.le_of_ble_eq_true rfl)) dL_steps_7 ⟨(Nat.le_of_ble_eq_true rfl), (Nat.le_of_ble_eq_true rfl)⟩) hS (fun q _ h => hFc q h) hFc (fun q _ h => hFc q h) (fun E9 ce9 q9 u t H1 locs1 ht hvm hpx hBX hz1 hk1 hS1 hcell9 hv9 hcl9 => ?_) (fun r_1 u t H1 locs1 ht hvm hw hB hz1 hk1 hS1 => ?_)
  · skip
    obtain rfl : E9 = "java/lang/IllegalStateException" := hBX
    have hJ := va_join (wr := []) (w1 := []) hP hD [0, 1] [] rfl rfl (by decide) (by decide) hk1 hFc w_nilP w_nilD
    refine vx_catch (own := RL) (name := "java/lang/IllegalStateException") hown [⟨0, 12, 15, 43⟩, ⟨0, 12, 19, 13⟩] ⟨0, 12, 23, 18⟩ [] (htab.trans rfl) ?hps (by decide) (by decide) (hts (.classLink RL 18 "java/lang/IllegalStateException") (List.mem_of_getElem? (i := 7) rfl)) (va_Nw.use rfl (hT.2.2.2.1 _ (List.mem_of_getElem? (i := 0) rfl))) hcell9 hv9 hcl9 ?_
    case hps =>
      intro z hz
      simp only [List.mem_cons, List.not_mem_nil, or_false] at hz
      rcases hz with rfl | rfl
      · exact Or.inr ⟨by decide, "java/util/NoSuchElementException", (hts (.classLink RL 43 "java/util/NoSuchElementException") (List.mem_of_getElem? (i := 5) rfl)), hC.1⟩
      · exact Or.inr ⟨by decide, "java/lang/IllegalArgumentException", (hts (.classLink RL 13 "java/lang/IllegalArgumentException") (List.mem_of_getElem? (i := 6) rfl)), hC.2⟩
    have hxf_2 : True := hpx; clear hpx
    clear hP hD; obtain ⟨hP, hD⟩ := hJ
    clear hS; revert hS1; intro hS
    clear ht; generalize H1 = H at hP hS ⊢
    replace hP : va_P (dC, dI) vwCl [] H := hP
    replace hD : va_D A [] := hD
    replace hK : va_K (dC, dI) vwCl [] s := hK
    refine W.eq (g2 := F0 m 23 ls [.ref q9]) rfl ?_
    refine lv_astore (lv' := [(5, .ref q9), (0, .ref h0), (1, .int x0), (2, .int x1), (3, .int x2), (4, .ref qo)]) hx hb dL_steps_23 hl (by decide) rfl (fun ls hl => ?_)
    refine lv_iconst (v := 3) hx hb dL_steps_25 (by decide) ?_
    have hP9 := hP.sub (ws' := []) [] rfl
    have hD9 := hD.sub (ws' := []) [] (by decide) rfl
    have hK9 := hK.sub (tys' := []) [] rfl
    rw [← hAe] at hD9
    refine W.widen (k := 1) (n := 6) (Nat.le_of_ble_eq_true rfl) (Nat.le_of_ble_eq_true rfl) ?_
    subst hAe
    exact vx_ret (W.iret (v := 3) hx hb hr (fun t ht hW => ⟨⟨3, (), rfl, rfl, by rw [ht]; exact hP9, va_K.moved hW.alike hK9, hD9⟩, hS.F ht⟩) hS.2.2 dL_steps_26)
  · skip
    exact (hw : False).elim
def wv_l_bracket : List Cond := .codeWith yL_bracket cL_bracket 6 (some .int) [(0, 12, 15, 43), (0, 12, 19, 13), (0, 12, 23, 18)] :: ([.methodLink RL 64 yX11_bracket, .instanceMethod yX11_bracket, .selects RX11 yX11_bracket yX11_bracket, .initialized RX11, .classLink RL 43 "java/util/NoSuchElementException", .classLink RL 13 "java/lang/IllegalArgumentException", .classLink RL 18 "java/lang/IllegalStateException"] ++ (wv_f_bracket ++ ([])))
theorem gw_l_bracket : wv_l_bracket.all goodWord = true := by decide +kernel
theorem g_l_bracket_f_bracket_64 : GoodIn wv_l_bracket (wsV RL 64 RX11 yX11_bracket wv_f_bracket) := goodIn_app (goodIn_of _ (by decide +kernel)) (goodIn_sub (fun _ h => List.mem_cons_of_mem _ (List.mem_append_right _ (List.mem_append_left _ h))) gw_f_bracket)
set_option maxHeartbeats 4000000 in
set_option maxRecDepth 100000 in
/-- the law: bracket on a fresh object -/
theorem c_l_bracket (l : Launch) (hlt : l.stackTraces = false) (dC : Nat → ClassId) (dI : Nat → Nat → Nat) (h0 : Nat) (qC : Nat) (qo : Nat) (x0 : Int32) (x1 : Int32) (x2 : Int32) (fs_h0 : List Value) (fs_qC : List Value) (hF_h0 : mF 19 [(7, .ref qC)] fs_h0) (hF_qC : mF 13 [(8, .int 0)] fs_qC) (sz : Nat) : vx_Met l yL_bracket wv_l_bracket ({ frames := 9, cells := 1, slots := 6, locals := 157 }) (va_Pc [.ref h0, .int x0, .int x1, .int x2, .ref qo] (fun U => U.heap.size = sz ∧ va_P (dC, dI) vwCl [(h0, .inr (11, fs_h0)), (qC, .inr (2, fs_qC))] U.heap ∧ va_K (dC, dI) vwCl [] U ∧ va_D (fun _ => True) [(h0, .inr (11, fs_h0)), (qC, .inr (2, fs_qC))] ∧ w_N U ∧ w_T (va_A [(h0, .inr (11, fs_h0)), (qC, .inr (2, fs_qC))] sz) U U.heap ∧ w_C (va_A [(h0, .inr (11, fs_h0)), (qC, .inr (2, fs_qC))] sz) U U.heap)) (va_Qi (fun (r : Int32) (_ : Unit) => r = 3) (fun _ t => va_P (dC, dI) vwCl [] t.heap ∧ va_K (dC, dI) vwCl [] t ∧ va_D (va_A [(h0, .inr (11, fs_h0)), (qC, .inr (2, fs_qC))] sz) []) (va_A [(h0, .inr (11, fs_h0)), (qC, .inr (2, fs_qC))] sz)) (vx_X (fun _ : Unit => False) (fun E _ _ => E = "java/lang/IllegalStateException") (va_A [(h0, .inr (11, fs_h0)), (qC, .inr (2, fs_qC))] sz)) 1 6 (va_A [(h0, .inr (11, fs_h0)), (qC, .inr (2, fs_qC))] sz) := by
  refine vx_ofWH (cc := cL_bracket) (maxL := 6) (ret := (some .int)) (by decide) rfl ?_
  intro p e s m args below meth c s₁ B hml hv
  obtain ⟨rfl, hsz, hP, hK, hD0, hN, hT, hC⟩ := hv
  have hx := B.exec
  have hb := B.bytes
  have hr := B.returns
  have hts := atoms_spec (ws := wv_l_bracket) B.pre
  have hown : s.vm.findClass RL = some m.cls := findClass_of_methodNamed B.named
  have hlocks := B.notSynchronized
  have htab := vx_table (x := yL_bracket) B (hts _ (List.mem_of_getElem? (i := 0) rfl))
  subst hsz
  have hD := hD0.self (sz := s.heap.size)
  generalize hAe : va_A [(h0, .inr (11, fs_h0)), (qC, .inr (2, fs_qC))] s.heap.size = A at hD hT hC ⊢
  have hA : ∀ q : Nat, s.heap.size ≤ q → A q := fun q h => by rw [← hAe]; exact Or.inr h
  obtain ⟨H, hHe, hP, hS⟩ : ∃ H : Heap, H = s.heap ∧ va_P (dC, dI) vwCl [(h0, .inr (11, fs_h0)), (qC, .inr (2, fs_qC))] H ∧ va_S A s.heap H [] := ⟨s.heap, rfl, hP, va_S.rf⟩
  have hl := lv_entry ([.ref h0, .int x0, .int x1, .int x2, .ref qo]) (n := 6) (Nat.le_of_ble_eq_true rfl)
  rw [lg_entry_eq]
  generalize (lg_sl ([.ref h0, .int x0, .int x1, .int x2, .ref qo]) ++ List.replicate (6 - (lg_sl ([.ref h0, .int x0, .int x1, .int x2, .ref qo])).length) Slot.unset).toArray = ls at hl ⊢
  have hl : lv_has ls 6 [(0, .ref h0), (1, .int x0), (2, .int x1), (3, .int x2), (4, .ref qo)] := hl
  rw [← hHe]; clear hHe
  refine lv_aload hx hb dL_bracket_0 (lv_at hl 4 rfl) ?_
  refine lv_iconst (v := 0) hx hb dL_bracket_2 (by decide) ?_
  refine lv_aload_n hx hb dL_bracket_3 rfl (lv_at hl 0 rfl) ?_
  refine lv_iload_n hx hb dL_bracket_4 rfl (lv_at hl 1 rfl) ?_
  refine lv_iload_n hx hb dL_bracket_5 rfl (lv_at hl 2 rfl) ?_
  refine lv_iload_n hx hb dL_bracket_6 rfl (lv_at hl 3 rfl) ?_
  have hPc := hP.sub (ws' := [(h0, .inr (11, fs_h0)), (qC, .inr (2, fs_qC))]) [0, 1] rfl
  have hDc := hD.sub (ws' := [(h0, .inr (11, fs_h0)), (qC, .inr (2, fs_qC))]) [0, 1] (by decide) rfl
  have hKc := hK.sub (tys' := []) [] rfl
  have hFc := va_free (wc := [(h0, .inr (11, fs_h0)), (qC, .inr (2, fs_qC))]) hD hS hA [0, 1] rfl
  refine vx_calli (vx_runV (As := [.int x0, .int x1, .int x2]) (rest := [.int 0, .ref qo]) ⟨hx, hb, hml, hown, hts⟩ (c_f_bracket l hlt dC dI h0 qC x0 x1 x2 fs_h0 fs_qC (mF.sub hF_h0 [0] rfl) (mF.sub hF_qC [0] rfl) H.size) (cwV 3 hts g_l_bracket_f_bracket_64 rfl rfl rfl hv_X11_bracket ⟨Nat.le_of_ble_eq_true rfl, Nat.le_of_ble_eq_true rfl⟩) ⟨fun a U g mk q => by obtain ⟨q0, q1, qP, qK, qD, qE0, qE1⟩ := q; exact ⟨q0, q1, qP, va_K.moved (u := U) (U := U.calling g mk a) (Vm.Alike.refl U.vm) qK, qD, w_N.same rfl qE0, w_T.same rfl rfl qE1⟩, va_recv hKc hPc (ci := 11) (q0 := 0) rfl rfl, fun U hU hW => ⟨rfl, by rw [hU], by rw [hU]; exact hPc, va_K.moved hW.alike hKc, hDc.weaken (fun _ _ _ _ => trivial), w_N.warm hW hN, w_T.go hT hW hS.2.1 hFc hU⟩⟩ rfl rfl hl.1 rfl (lv_room (Nat.le_of_ble_eq_true rfl)) dL_bracket_7 ⟨(Nat.le_of_ble_eq_true rfl), (Nat.le_of_ble_eq_true rfl)⟩) hS (fun q _ h => hFc q h) hFc (fun q _ h => hFc q h) (fun E9 ce9 q9 u t H1 locs1 ht hvm hpx hBX hz1 hk1 hS1 hcell9 hv9 hcl9 => ?_) (fun r_1 u t H1 locs1 ht hvm hw hB hz1 hk1 hS1 => ?_)
  · skip
    obtain rfl : E9 = "java/lang/IllegalStateException" := hBX
    have hJ := va_join (wr := []) (w1 := []) hP hD [0, 1] [] rfl rfl (by decide) (by decide) hk1 hFc w_nilP w_nilD
    refine vx_catch (own := RL) (name := "java/lang/IllegalStateException") hown [⟨0, 12, 15, 43⟩, ⟨0, 12, 19, 13⟩] ⟨0, 12, 23, 18⟩ [] (htab.trans rfl) ?hps (by decide) (by decide) (hts (.classLink RL 18 "java/lang/IllegalStateException") (List.mem_of_getElem? (i := 7) rfl)) (va_Nw.use rfl (hT.2.2.2.1 _ (List.mem_of_getElem? (i := 0) rfl))) hcell9 hv9 hcl9 ?_
    case hps =>
      intro z hz
      simp only [List.mem_cons, List.not_mem_nil, or_false] at hz
      rcases hz with rfl | rfl
      · exact Or.inr ⟨by decide, "java/util/NoSuchElementException", (hts (.classLink RL 43 "java/util/NoSuchElementException") (List.mem_of_getElem? (i := 5) rfl)), hC.1⟩
      · exact Or.inr ⟨by decide, "java/lang/IllegalArgumentException", (hts (.classLink RL 13 "java/lang/IllegalArgumentException") (List.mem_of_getElem? (i := 6) rfl)), hC.2⟩
    have hxf_2 : True := hpx; clear hpx
    clear hP hD; obtain ⟨hP, hD⟩ := hJ
    clear hS; revert hS1; intro hS
    clear ht; generalize H1 = H at hP hS ⊢
    replace hP : va_P (dC, dI) vwCl [] H := hP
    replace hD : va_D A [] := hD
    replace hK : va_K (dC, dI) vwCl [] s := hK
    refine W.eq (g2 := F0 m 23 ls [.ref q9]) rfl ?_
    refine lv_astore (lv' := [(5, .ref q9), (0, .ref h0), (1, .int x0), (2, .int x1), (3, .int x2), (4, .ref qo)]) hx hb dL_bracket_23 hl (by decide) rfl (fun ls hl => ?_)
    refine lv_iconst (v := 3) hx hb dL_bracket_25 (by decide) ?_
    have hP9 := hP.sub (ws' := []) [] rfl
    have hD9 := hD.sub (ws' := []) [] (by decide) rfl
    have hK9 := hK.sub (tys' := []) [] rfl
    rw [← hAe] at hD9
    refine W.widen (k := 1) (n := 6) (Nat.le_of_ble_eq_true rfl) (Nat.le_of_ble_eq_true rfl) ?_
    subst hAe
    exact vx_ret (W.iret (v := 3) hx hb hr (fun t ht hW => ⟨⟨3, (), rfl, rfl, by rw [ht]; exact hP9, va_K.moved hW.alike hK9, hD9⟩, hS.F ht⟩) hS.2.2 dL_bracket_26)
  · skip
    exact (hw : False).elim
def wv_l_stretches : List Cond := .codeWith yL_stretches cL_stretches 3 (some .int) [(0, 8, 11, 18)] :: ([.methodLink RL 67 yX11_stretches, .instanceMethod yX11_stretches, .selects RX11 yX11_stretches yX11_stretches, .initialized RX11, .classLink RL 18 "java/lang/IllegalStateException"] ++ (wv_f_stretches ++ ([])))
theorem gw_l_stretches : wv_l_stretches.all goodWord = true := by decide +kernel
theorem g_l_stretches_f_stretches_67 : GoodIn wv_l_stretches (wsV RL 67 RX11 yX11_stretches wv_f_stretches) := goodIn_app (goodIn_of _ (by decide +kernel)) (goodIn_sub (fun _ h => List.mem_cons_of_mem _ (List.mem_append_right _ (List.mem_append_left _ h))) gw_f_stretches)
set_option maxHeartbeats 4000000 in
set_option maxRecDepth 100000 in
/-- the law: stretches on a fresh object -/
theorem c_l_stretches (l : Launch) (hlt : l.stackTraces = false) (dC : Nat → ClassId) (dI : Nat → Nat → Nat) (h0 : Nat) (qC : Nat) (qo : Nat) (fs_h0 : List Value) (fs_qC : List Value) (hF_h0 : mF 19 [(7, .ref qC)] fs_h0) (hF_qC : mF 13 [(8, .int 0)] fs_qC) (sz : Nat) : vx_Met l yL_stretches wv_l_stretches ({ frames := 8, cells := 1, slots := 6, locals := 130 }) (va_Pc [.ref h0, .ref qo] (fun U => U.heap.size = sz ∧ va_P (dC, dI) vwCl [(h0, .inr (11, fs_h0)), (qC, .inr (2, fs_qC))] U.heap ∧ va_K (dC, dI) vwCl [] U ∧ va_D (fun _ => True) [(h0, .inr (11, fs_h0)), (qC, .inr (2, fs_qC))] ∧ w_N U ∧ w_T (va_A [(h0, .inr (11, fs_h0)), (qC, .inr (2, fs_qC))] sz) U U.heap ∧ w_C (va_A [(h0, .inr (11, fs_h0)), (qC, .inr (2, fs_qC))] sz) U U.heap)) (va_Qi (fun (r : Int32) (_ : Unit) => r = 1) (fun _ t => va_P (dC, dI) vwCl [] t.heap ∧ va_K (dC, dI) vwCl [] t ∧ va_D (va_A [(h0, .inr (11, fs_h0)), (qC, .inr (2, fs_qC))] sz) []) (va_A [(h0, .inr (11, fs_h0)), (qC, .inr (2, fs_qC))] sz)) (vx_X (fun _ : Unit => False) (fun E _ _ => E = "java/lang/IllegalStateException") (va_A [(h0, .inr (11, fs_h0)), (qC, .inr (2, fs_qC))] sz)) 1 6 (va_A [(h0, .inr (11, fs_h0)), (qC, .inr (2, fs_qC))] sz) := by
  refine vx_ofWH (cc := cL_stretches) (maxL := 3) (ret := (some .int)) (by decide) rfl ?_
  intro p e s m args below meth c s₁ B hml hv
  obtain ⟨rfl, hsz, hP, hK, hD0, hN, hT, hC⟩ := hv
  have hx := B.exec
  have hb := B.bytes
  have hr := B.returns
  have hts := atoms_spec (ws := wv_l_stretches) B.pre
  have hown : s.vm.findClass RL = some m.cls := findClass_of_methodNamed B.named
  have hlocks := B.notSynchronized
  have htab := vx_table (x := yL_stretches) B (hts _ (List.mem_of_getElem? (i := 0) rfl))
  subst hsz
  have hD := hD0.self (sz := s.heap.size)
  generalize hAe : va_A [(h0, .inr (11, fs_h0)), (qC, .inr (2, fs_qC))] s.heap.size = A at hD hT hC ⊢
  have hA : ∀ q : Nat, s.heap.size ≤ q → A q := fun q h => by rw [← hAe]; exact Or.inr h
  obtain ⟨H, hHe, hP, hS⟩ : ∃ H : Heap, H = s.heap ∧ va_P (dC, dI) vwCl [(h0, .inr (11, fs_h0)), (qC, .inr (2, fs_qC))] H ∧ va_S A s.heap H [] := ⟨s.heap, rfl, hP, va_S.rf⟩
  have hl := lv_entry ([.ref h0, .ref qo]) (n := 3) (Nat.le_of_ble_eq_true rfl)
  rw [lg_entry_eq]
  generalize (lg_sl ([.ref h0, .ref qo]) ++ List.replicate (3 - (lg_sl ([.ref h0, .ref qo])).length) Slot.unset).toArray = ls at hl ⊢
  have hl : lv_has ls 3 [(0, .ref h0), (1, .ref qo)] := hl
  rw [← hHe]; clear hHe
  refine lv_aload_n hx hb dL_stretches_0 rfl (lv_at hl 1 rfl) ?_
  refine lv_iconst (v := 0) hx hb dL_stretches_1 (by decide) ?_
  refine lv_aload_n hx hb dL_stretches_2 rfl (lv_at hl 0 rfl) ?_
  have hPc := hP.sub (ws' := [(h0, .inr (11, fs_h0)), (qC, .inr (2, fs_qC))]) [0, 1] rfl
  have hDc := hD.sub (ws' := [(h0, .inr (11, fs_h0)), (qC, .inr (2, fs_qC))]) [0, 1] (by decide) rfl
  have hKc := hK.sub (tys' := []) [] rfl
  have hFc := va_free (wc := [(h0, .inr (11, fs_h0)), (qC, .inr (2, fs_qC))]) hD hS hA [0, 1] rfl
  refine vx_calli (vx_runV (As := []) (rest := [.int 0, .ref qo]) ⟨hx, hb, hml, hown, hts⟩ (c_f_stretches l hlt dC dI h0 qC fs_h0 fs_qC (mF.sub hF_h0 [0] rfl) (mF.sub hF_qC [0] rfl) H.size) (cwV 0 hts g_l_stretches_f_stretches_67 rfl rfl rfl hv_X11_stretches ⟨Nat.le_of_ble_eq_true rfl, Nat.le_of_ble_eq_true rfl⟩) ⟨fun a U g mk q => by obtain ⟨q0, q1, qP, qK, qD, qE0, qE1⟩ := q; exact ⟨q0, q1, qP, va_K.moved (u := U) (U := U.calling g mk a) (Vm.Alike.refl U.vm) qK, qD, w_N.same rfl qE0, w_T.same rfl rfl qE1⟩, va_recv hKc hPc (ci := 11) (q0 := 0) rfl rfl, fun U hU hW => ⟨rfl, by rw [hU], by rw [hU]; exact hPc, va_K.moved hW.alike hKc, hDc.weaken (fun _ _ _ _ => trivial), w_N.warm hW hN, w_T.go hT hW hS.2.1 hFc hU⟩⟩ rfl rfl hl.1 rfl (lv_room (Nat.le_of_ble_eq_true rfl)) dL_stretches_3 ⟨(Nat.le_of_ble_eq_true rfl), (Nat.le_of_ble_eq_true rfl)⟩) hS (fun q _ h => hFc q h) hFc (fun q _ h => hFc q h) (fun E9 ce9 q9 u t H1 locs1 ht hvm hpx hBX hz1 hk1 hS1 hcell9 hv9 hcl9 => ?_) (fun r_1 u t H1 locs1 ht hvm hw hB hz1 hk1 hS1 => ?_)
  · skip
    obtain rfl : E9 = "java/lang/IllegalStateException" := hBX
    have hJ := va_join (wr := []) (w1 := []) hP hD [0, 1] [] rfl rfl (by decide) (by decide) hk1 hFc w_nilP w_nilD
    refine vx_catch (own := RL) (name := "java/lang/IllegalStateException") hown [] ⟨0, 8, 11, 18⟩ [] (htab.trans rfl) (fun z hz => absurd hz List.not_mem_nil) (by decide) (by decide) (hts (.classLink RL 18 "java/lang/IllegalStateException") (List.mem_of_getElem? (i := 5) rfl)) (va_Nw.use rfl (hT.2.2.2.1 _ (List.mem_of_getElem? (i := 0) rfl))) hcell9 hv9 hcl9 ?_
    have hxf_2 : True := hpx; clear hpx
    clear hP hD; obtain ⟨hP, hD⟩ := hJ
    clear hS; revert hS1; intro hS
    clear ht; generalize H1 = H at hP hS ⊢
    replace hP : va_P (dC, dI) vwCl [] H := hP
    replace hD : va_D A [] := hD
    replace hK : va_K (dC, dI) vwCl [] s := hK
    refine W.eq (g2 := F0 m 11 ls [.ref q9]) rfl ?_
    refine lv_astore_n (lv' := [(2, .ref q9), (0, .ref h0), (1, .ref qo)]) hx hb dL_stretches_11 rfl hl (by decide) rfl (fun ls hl => ?_)
    refine lv_iconst (v := 1) hx hb dL_stretches_12 (by decide) ?_
    have hP9 := hP.sub (ws' := []) [] rfl
    have hD9 := hD.sub (ws' := []) [] (by decide) rfl
    have hK9 := hK.sub (tys' := []) [] rfl
    rw [← hAe] at hD9
    refine W.widen (k := 1) (n := 6) (Nat.le_of_ble_eq_true rfl) (Nat.le_of_ble_eq_true rfl) ?_
    subst hAe
    exact vx_ret (W.iret (v := 1) hx hb hr (fun t ht hW => ⟨⟨1, (), rfl, rfl, by rw [ht]; exact hP9, va_K.moved hW.alike hK9, hD9⟩, hS.F ht⟩) hS.2.2 dL_stretches_13)
  · skip
    exact (hw : False).elim
def wv_l_stretch : List Cond := .codeWith yL_stretch cL_stretch 5 (some .int) [(0, 10, 13, 43), (0, 10, 17, 13), (0, 10, 21, 18)] :: ([.methodLink RL 71 yX11_stretch, .instanceMethod yX11_stretch, .selects RX11 yX11_stretch yX11_stretch, .initialized RX11, .classLink RL 43 "java/util/NoSuchElementException", .classLink RL 13 "java/lang/IllegalArgumentException", .classLink RL 18 "java/lang/IllegalStateException"] ++ (wv_f_stretch ++ ([])))
theorem gw_l_stretch : wv_l_stretch.all goodWord = true := by decide +kernel
theorem g_l_stretch_f_stretch_71 : GoodIn wv_l_stretch (wsV RL 71 RX11 yX11_stretch wv_f_stretch) := goodIn_app (goodIn_of _ (by decide +kernel)) (goodIn_sub (fun _ h => List.mem_cons_of_mem _ (List.mem_append_right _ (List.mem_append_left _ h))) gw_f_stretch)
set_option maxHeartbeats 4000000 in
set_option maxRecDepth 100000 in
/-- the law: stretch on a fresh object -/
theorem c_l_stretch (l : Launch) (hlt : l.stackTraces = false) (dC : Nat → ClassId) (dI : Nat → Nat → Nat) (h0 : Nat) (qC : Nat) (qo : Nat) (x0 : Int32) (x1 : Int32) (fs_h0 : List Value) (fs_qC : List Value) (hF_h0 : mF 19 [(7, .ref qC)] fs_h0) (hF_qC : mF 13 [(8, .int 0)] fs_qC) (sz : Nat) : vx_Met l yL_stretch wv_l_stretch ({ frames := 8, cells := 1, slots := 6, locals := 133 }) (va_Pc [.ref h0, .int x0, .int x1, .ref qo] (fun U => U.heap.size = sz ∧ va_P (dC, dI) vwCl [(h0, .inr (11, fs_h0)), (qC, .inr (2, fs_qC))] U.heap ∧ va_K (dC, dI) vwCl [] U ∧ va_D (fun _ => True) [(h0, .inr (11, fs_h0)), (qC, .inr (2, fs_qC))] ∧ w_N U ∧ w_T (va_A [(h0, .inr (11, fs_h0)), (qC, .inr (2, fs_qC))] sz) U U.heap ∧ w_C (va_A [(h0, .inr (11, fs_h0)), (qC, .inr (2, fs_qC))] sz) U U.heap)) (va_Qi (fun (r : Int32) (_ : Unit) => r = 3) (fun _ t => va_P (dC, dI) vwCl [] t.heap ∧ va_K (dC, dI) vwCl [] t ∧ va_D (va_A [(h0, .inr (11, fs_h0)), (qC, .inr (2, fs_qC))] sz) []) (va_A [(h0, .inr (11, fs_h0)), (qC, .inr (2, fs_qC))] sz)) (vx_X (fun _ : Unit => False) (fun E _ _ => E = "java/lang/IllegalStateException") (va_A [(h0, .inr (11, fs_h0)), (qC, .inr (2, fs_qC))] sz)) 1 6 (va_A [(h0, .inr (11, fs_h0)), (qC, .inr (2, fs_qC))] sz) := by
  refine vx_ofWH (cc := cL_stretch) (maxL := 5) (ret := (some .int)) (by decide) rfl ?_
  intro p e s m args below meth c s₁ B hml hv
  obtain ⟨rfl, hsz, hP, hK, hD0, hN, hT, hC⟩ := hv
  have hx := B.exec
  have hb := B.bytes
  have hr := B.returns
  have hts := atoms_spec (ws := wv_l_stretch) B.pre
  have hown : s.vm.findClass RL = some m.cls := findClass_of_methodNamed B.named
  have hlocks := B.notSynchronized
  have htab := vx_table (x := yL_stretch) B (hts _ (List.mem_of_getElem? (i := 0) rfl))
  subst hsz
  have hD := hD0.self (sz := s.heap.size)
  generalize hAe : va_A [(h0, .inr (11, fs_h0)), (qC, .inr (2, fs_qC))] s.heap.size = A at hD hT hC ⊢
  have hA : ∀ q : Nat, s.heap.size ≤ q → A q := fun q h => by rw [← hAe]; exact Or.inr h
  obtain ⟨H, hHe, hP, hS⟩ : ∃ H : Heap, H = s.heap ∧ va_P (dC, dI) vwCl [(h0, .inr (11, fs_h0)), (qC, .inr (2, fs_qC))] H ∧ va_S A s.heap H [] := ⟨s.heap, rfl, hP, va_S.rf⟩
  have hl := lv_entry ([.ref h0, .int x0, .int x1, .ref qo]) (n := 5) (Nat.le_of_ble_eq_true rfl)
  rw [lg_entry_eq]
  generalize (lg_sl ([.ref h0, .int x0, .int x1, .ref qo]) ++ List.replicate (5 - (lg_sl ([.ref h0, .int x0, .int x1, .ref qo])).length) Slot.unset).toArray = ls at hl ⊢
  have hl : lv_has ls 5 [(0, .ref h0), (1, .int x0), (2, .int x1), (3, .ref qo)] := hl
  rw [← hHe]; clear hHe
  refine lv_aload_n hx hb dL_stretch_0 rfl (lv_at hl 3 rfl) ?_
  refine lv_iconst (v := 0) hx hb dL_stretch_1 (by decide) ?_
  refine lv_aload_n hx hb dL_stretch_2 rfl (lv_at hl 0 rfl) ?_
  refine lv_iload_n hx hb dL_stretch_3 rfl (lv_at hl 1 rfl) ?_
  refine lv_iload_n hx hb dL_stretch_4 rfl (lv_at hl 2 rfl) ?_
  have hPc := hP.sub (ws' := [(h0, .inr (11, fs_h0)), (qC, .inr (2, fs_qC))]) [0, 1] rfl
  have hDc := hD.sub (ws' := [(h0, .inr (11, fs_h0)), (qC, .inr (2, fs_qC))]) [0, 1] (by decide) rfl
  have hKc := hK.sub (tys' := []) [] rfl
  have hFc := va_free (wc := [(h0, .inr (11, fs_h0)), (qC, .inr (2, fs_qC))]) hD hS hA [0, 1] rfl
  refine vx_calli (vx_runV (As := [.int x0, .int x1]) (rest := [.int 0, .ref qo]) ⟨hx, hb, hml, hown, hts⟩ (c_f_stretch l hlt dC dI h0 qC x0 x1 fs_h0 fs_qC (mF.sub hF_h0 [0] rfl) (mF.sub hF_qC [0] rfl) H.size) (cwV 2 hts g_l_stretch_f_stretch_71 rfl rfl rfl hv_X11_stretch ⟨Nat.le_of_ble_eq_true rfl, Nat.le_of_ble_eq_true rfl⟩) ⟨fun a U g mk q => by obtain ⟨q0, q1, qP, qK, qD, qE0, qE1⟩ := q; exact ⟨q0, q1, qP, va_K.moved (u := U) (U := U.calling g mk a) (Vm.Alike.refl U.vm) qK, qD, w_N.same rfl qE0, w_T.same rfl rfl qE1⟩, va_recv hKc hPc (ci := 11) (q0 := 0) rfl rfl, fun U hU hW => ⟨rfl, by rw [hU], by rw [hU]; exact hPc, va_K.moved hW.alike hKc, hDc.weaken (fun _ _ _ _ => trivial), w_N.warm hW hN, w_T.go hT hW hS.2.1 hFc hU⟩⟩ rfl rfl hl.1 rfl (lv_room (Nat.le_of_ble_eq_true rfl)) dL_stretch_5 ⟨(Nat.le_of_ble_eq_true rfl), (Nat.le_of_ble_eq_true rfl)⟩) hS (fun q _ h => hFc q h) hFc (fun q _ h => hFc q h) (fun E9 ce9 q9 u t H1 locs1 ht hvm hpx hBX hz1 hk1 hS1 hcell9 hv9 hcl9 => ?_) (fun r_1 u t H1 locs1 ht hvm hw hB hz1 hk1 hS1 => ?_)
  · skip
    obtain rfl : E9 = "java/lang/IllegalStateException" := hBX
    have hJ := va_join (wr := []) (w1 := []) hP hD [0, 1] [] rfl rfl (by decide) (by decide) hk1 hFc w_nilP w_nilD
    refine vx_catch (own := RL) (name := "java/lang/IllegalStateException") hown [⟨0, 10, 13, 43⟩, ⟨0, 10, 17, 13⟩] ⟨0, 10, 21, 18⟩ [] (htab.trans rfl) ?hps (by decide) (by decide) (hts (.classLink RL 18 "java/lang/IllegalStateException") (List.mem_of_getElem? (i := 7) rfl)) (va_Nw.use rfl (hT.2.2.2.1 _ (List.mem_of_getElem? (i := 0) rfl))) hcell9 hv9 hcl9 ?_
    case hps =>
      intro z hz
      simp only [List.mem_cons, List.not_mem_nil, or_false] at hz
      rcases hz with rfl | rfl
      · exact Or.inr ⟨by decide, "java/util/NoSuchElementException", (hts (.classLink RL 43 "java/util/NoSuchElementException") (List.mem_of_getElem? (i := 5) rfl)), hC.1⟩
      · exact Or.inr ⟨by decide, "java/lang/IllegalArgumentException", (hts (.classLink RL 13 "java/lang/IllegalArgumentException") (List.mem_of_getElem? (i := 6) rfl)), hC.2⟩
    have hxf_2 : True := hpx; clear hpx
    clear hP hD; obtain ⟨hP, hD⟩ := hJ
    clear hS; revert hS1; intro hS
    clear ht; generalize H1 = H at hP hS ⊢
    replace hP : va_P (dC, dI) vwCl [] H := hP
    replace hD : va_D A [] := hD
    replace hK : va_K (dC, dI) vwCl [] s := hK
    refine W.eq (g2 := F0 m 21 ls [.ref q9]) rfl ?_
    refine lv_astore (lv' := [(4, .ref q9), (0, .ref h0), (1, .int x0), (2, .int x1), (3, .ref qo)]) hx hb dL_stretch_21 hl (by decide) rfl (fun ls hl => ?_)
    refine lv_iconst (v := 3) hx hb dL_stretch_23 (by decide) ?_
    have hP9 := hP.sub (ws' := []) [] rfl
    have hD9 := hD.sub (ws' := []) [] (by decide) rfl
    have hK9 := hK.sub (tys' := []) [] rfl
    rw [← hAe] at hD9
    refine W.widen (k := 1) (n := 6) (Nat.le_of_ble_eq_true rfl) (Nat.le_of_ble_eq_true rfl) ?_
    subst hAe
    exact vx_ret (W.iret (v := 3) hx hb hr (fun t ht hW => ⟨⟨3, (), rfl, rfl, by rw [ht]; exact hP9, va_K.moved hW.alike hK9, hD9⟩, hS.F ht⟩) hS.2.2 dL_stretch_24)
  · skip
    exact (hw : False).elim
def wv_l_keeps : List Cond := .codeWith yL_keeps cL_keeps 6 (some .int) [(0, 12, 15, 43), (0, 12, 19, 13), (0, 12, 23, 18)] :: ([.methodLink RL 74 yX11_keeps, .instanceMethod yX11_keeps, .selects RX11 yX11_keeps yX11_keeps, .initialized RX11, .classLink RL 43 "java/util/NoSuchElementException", .classLink RL 13 "java/lang/IllegalArgumentException", .classLink RL 18 "java/lang/IllegalStateException"] ++ (wv_f_keeps ++ ([])))
theorem gw_l_keeps : wv_l_keeps.all goodWord = true := by decide +kernel
theorem g_l_keeps_f_keeps_74 : GoodIn wv_l_keeps (wsV RL 74 RX11 yX11_keeps wv_f_keeps) := goodIn_app (goodIn_of _ (by decide +kernel)) (goodIn_sub (fun _ h => List.mem_cons_of_mem _ (List.mem_append_right _ (List.mem_append_left _ h))) gw_f_keeps)
set_option maxHeartbeats 4000000 in
set_option maxRecDepth 100000 in
/-- the law: keeps on a fresh object -/
theorem c_l_keeps (l : Launch) (hlt : l.stackTraces = false) (dC : Nat → ClassId) (dI : Nat → Nat → Nat) (h0 : Nat) (qC : Nat) (qo : Nat) (x0 : Int32) (x1 : Int32) (x2 : Int32) (fs_h0 : List Value) (fs_qC : List Value) (hF_h0 : mF 19 [(7, .ref qC)] fs_h0) (hF_qC : mF 13 [(8, .int 0)] fs_qC) (sz : Nat) : vx_Met l yL_keeps wv_l_keeps ({ frames := 8, cells := 1, slots := 6, locals := 134 }) (va_Pc [.ref h0, .int x0, .int x1, .int x2, .ref qo] (fun U => U.heap.size = sz ∧ va_P (dC, dI) vwCl [(h0, .inr (11, fs_h0)), (qC, .inr (2, fs_qC))] U.heap ∧ va_K (dC, dI) vwCl [] U ∧ va_D (fun _ => True) [(h0, .inr (11, fs_h0)), (qC, .inr (2, fs_qC))] ∧ w_N U ∧ w_T (va_A [(h0, .inr (11, fs_h0)), (qC, .inr (2, fs_qC))] sz) U U.heap ∧ w_C (va_A [(h0, .inr (11, fs_h0)), (qC, .inr (2, fs_qC))] sz) U U.heap)) (va_Qi (fun (r : Int32) (_ : Unit) => r = 3) (fun _ t => va_P (dC, dI) vwCl [] t.heap ∧ va_K (dC, dI) vwCl [] t ∧ va_D (va_A [(h0, .inr (11, fs_h0)), (qC, .inr (2, fs_qC))] sz) []) (va_A [(h0, .inr (11, fs_h0)), (qC, .inr (2, fs_qC))] sz)) (vx_X (fun _ : Unit => False) (fun E _ _ => E = "java/lang/IllegalStateException") (va_A [(h0, .inr (11, fs_h0)), (qC, .inr (2, fs_qC))] sz)) 1 6 (va_A [(h0, .inr (11, fs_h0)), (qC, .inr (2, fs_qC))] sz) := by
  refine vx_ofWH (cc := cL_keeps) (maxL := 6) (ret := (some .int)) (by decide) rfl ?_
  intro p e s m args below meth c s₁ B hml hv
  obtain ⟨rfl, hsz, hP, hK, hD0, hN, hT, hC⟩ := hv
  have hx := B.exec
  have hb := B.bytes
  have hr := B.returns
  have hts := atoms_spec (ws := wv_l_keeps) B.pre
  have hown : s.vm.findClass RL = some m.cls := findClass_of_methodNamed B.named
  have hlocks := B.notSynchronized
  have htab := vx_table (x := yL_keeps) B (hts _ (List.mem_of_getElem? (i := 0) rfl))
  subst hsz
  have hD := hD0.self (sz := s.heap.size)
  generalize hAe : va_A [(h0, .inr (11, fs_h0)), (qC, .inr (2, fs_qC))] s.heap.size = A at hD hT hC ⊢
  have hA : ∀ q : Nat, s.heap.size ≤ q → A q := fun q h => by rw [← hAe]; exact Or.inr h
  obtain ⟨H, hHe, hP, hS⟩ : ∃ H : Heap, H = s.heap ∧ va_P (dC, dI) vwCl [(h0, .inr (11, fs_h0)), (qC, .inr (2, fs_qC))] H ∧ va_S A s.heap H [] := ⟨s.heap, rfl, hP, va_S.rf⟩
  have hl := lv_entry ([.ref h0, .int x0, .int x1, .int x2, .ref qo]) (n := 6) (Nat.le_of_ble_eq_true rfl)
  rw [lg_entry_eq]
  generalize (lg_sl ([.ref h0, .int x0, .int x1, .int x2, .ref qo]) ++ List.replicate (6 - (lg_sl ([.ref h0, .int x0, .int x1, .int x2, .ref qo])).length) Slot.unset).toArray = ls at hl ⊢
  have hl : lv_has ls 6 [(0, .ref h0), (1, .int x0), (2, .int x1), (3, .int x2), (4, .ref qo)] := hl
  rw [← hHe]; clear hHe
  refine lv_aload hx hb dL_keeps_0 (lv_at hl 4 rfl) ?_
  refine lv_iconst (v := 0) hx hb dL_keeps_2 (by decide) ?_
  refine lv_aload_n hx hb dL_keeps_3 rfl (lv_at hl 0 rfl) ?_
  refine lv_iload_n hx hb dL_keeps_4 rfl (lv_at hl 1 rfl) ?_
  refine lv_iload_n hx hb dL_keeps_5 rfl (lv_at hl 2 rfl) ?_
  refine lv_iload_n hx hb dL_keeps_6 rfl (lv_at hl 3 rfl) ?_
  have hPc := hP.sub (ws' := [(h0, .inr (11, fs_h0)), (qC, .inr (2, fs_qC))]) [0, 1] rfl
  have hDc := hD.sub (ws' := [(h0, .inr (11, fs_h0)), (qC, .inr (2, fs_qC))]) [0, 1] (by decide) rfl
  have hKc := hK.sub (tys' := []) [] rfl
  have hFc := va_free (wc := [(h0, .inr (11, fs_h0)), (qC, .inr (2, fs_qC))]) hD hS hA [0, 1] rfl
  refine vx_calli (vx_runV (As := [.int x0, .int x1, .int x2]) (rest := [.int 0, .ref qo]) ⟨hx, hb, hml, hown, hts⟩ (c_f_keeps l hlt dC dI h0 qC x0 x1 x2 fs_h0 fs_qC (mF.sub hF_h0 [0] rfl) (mF.sub hF_qC [0] rfl) H.size) (cwV 3 hts g_l_keeps_f_keeps_74 rfl rfl rfl hv_X11_keeps ⟨Nat.le_of_ble_eq_true rfl, Nat.le_of_ble_eq_true rfl⟩) ⟨fun a U g mk q => by obtain ⟨q0, q1, qP, qK, qD, qE0, qE1⟩ := q; exact ⟨q0, q1, qP, va_K.moved (u := U) (U := U.calling g mk a) (Vm.Alike.refl U.vm) qK, qD, w_N.same rfl qE0, w_T.same rfl rfl qE1⟩, va_recv hKc hPc (ci := 11) (q0 := 0) rfl rfl, fun U hU hW => ⟨rfl, by rw [hU], by rw [hU]; exact hPc, va_K.moved hW.alike hKc, hDc.weaken (fun _ _ _ _ => trivial), w_N.warm hW hN, w_T.go hT hW hS.2.1 hFc hU⟩⟩ rfl rfl hl.1 rfl (lv_room (Nat.le_of_ble_eq_true rfl)) dL_keeps_7 ⟨(Nat.le_of_ble_eq_true rfl), (Nat.le_of_ble_eq_true rfl)⟩) hS (fun q _ h => hFc q h) hFc (fun q _ h => hFc q h) (fun E9 ce9 q9 u t H1 locs1 ht hvm hpx hBX hz1 hk1 hS1 hcell9 hv9 hcl9 => ?_) (fun r_1 u t H1 locs1 ht hvm hw hB hz1 hk1 hS1 => ?_)
  · skip
    obtain rfl : E9 = "java/lang/IllegalStateException" := hBX
    have hJ := va_join (wr := []) (w1 := []) hP hD [0, 1] [] rfl rfl (by decide) (by decide) hk1 hFc w_nilP w_nilD
    refine vx_catch (own := RL) (name := "java/lang/IllegalStateException") hown [⟨0, 12, 15, 43⟩, ⟨0, 12, 19, 13⟩] ⟨0, 12, 23, 18⟩ [] (htab.trans rfl) ?hps (by decide) (by decide) (hts (.classLink RL 18 "java/lang/IllegalStateException") (List.mem_of_getElem? (i := 7) rfl)) (va_Nw.use rfl (hT.2.2.2.1 _ (List.mem_of_getElem? (i := 0) rfl))) hcell9 hv9 hcl9 ?_
    case hps =>
      intro z hz
      simp only [List.mem_cons, List.not_mem_nil, or_false] at hz
      rcases hz with rfl | rfl
      · exact Or.inr ⟨by decide, "java/util/NoSuchElementException", (hts (.classLink RL 43 "java/util/NoSuchElementException") (List.mem_of_getElem? (i := 5) rfl)), hC.1⟩
      · exact Or.inr ⟨by decide, "java/lang/IllegalArgumentException", (hts (.classLink RL 13 "java/lang/IllegalArgumentException") (List.mem_of_getElem? (i := 6) rfl)), hC.2⟩
    have hxf_2 : True := hpx; clear hpx
    clear hP hD; obtain ⟨hP, hD⟩ := hJ
    clear hS; revert hS1; intro hS
    clear ht; generalize H1 = H at hP hS ⊢
    replace hP : va_P (dC, dI) vwCl [] H := hP
    replace hD : va_D A [] := hD
    replace hK : va_K (dC, dI) vwCl [] s := hK
    refine W.eq (g2 := F0 m 23 ls [.ref q9]) rfl ?_
    refine lv_astore (lv' := [(5, .ref q9), (0, .ref h0), (1, .int x0), (2, .int x1), (3, .int x2), (4, .ref qo)]) hx hb dL_keeps_23 hl (by decide) rfl (fun ls hl => ?_)
    refine lv_iconst (v := 3) hx hb dL_keeps_25 (by decide) ?_
    have hP9 := hP.sub (ws' := []) [] rfl
    have hD9 := hD.sub (ws' := []) [] (by decide) rfl
    have hK9 := hK.sub (tys' := []) [] rfl
    rw [← hAe] at hD9
    refine W.widen (k := 1) (n := 6) (Nat.le_of_ble_eq_true rfl) (Nat.le_of_ble_eq_true rfl) ?_
    subst hAe
    exact vx_ret (W.iret (v := 3) hx hb hr (fun t ht hW => ⟨⟨3, (), rfl, rfl, by rw [ht]; exact hP9, va_K.moved hW.alike hK9, hD9⟩, hS.F ht⟩) hS.2.2 dL_keeps_26)
  · skip
    exact (hw : False).elim
def wv_l_sums : List Cond := .codeWith yL_sums cL_sums 4 (some .int) [(0, 9, 12, 13), (0, 9, 15, 18)] :: ([.methodLink RL 77 yX11_sums, .instanceMethod yX11_sums, .selects RX11 yX11_sums yX11_sums, .initialized RX11, .classLink RL 13 "java/lang/IllegalArgumentException", .classLink RL 18 "java/lang/IllegalStateException"] ++ (wv_f_sums ++ ([])))
theorem gw_l_sums : wv_l_sums.all goodWord = true := by decide +kernel
theorem g_l_sums_f_sums_77 : GoodIn wv_l_sums (wsV RL 77 RX11 yX11_sums wv_f_sums) := goodIn_app (goodIn_of _ (by decide +kernel)) (goodIn_sub (fun _ h => List.mem_cons_of_mem _ (List.mem_append_right _ (List.mem_append_left _ h))) gw_f_sums)
set_option maxHeartbeats 4000000 in
set_option maxRecDepth 100000 in
/-- the law: sums on a fresh object -/
theorem c_l_sums (l : Launch) (hlt : l.stackTraces = false) (dC : Nat → ClassId) (dI : Nat → Nat → Nat) (h0 : Nat) (qC : Nat) (qo : Nat) (x0 : Int32) (fs_h0 : List Value) (fs_qC : List Value) (hF_h0 : mF 19 [(7, .ref qC)] fs_h0) (hF_qC : mF 13 [(8, .int 0)] fs_qC) (sz : Nat) : vx_Met l yL_sums wv_l_sums ({ frames := 9, cells := 1, slots := 6, locals := 152 }) (va_Pc [.ref h0, .int x0, .ref qo] (fun U => U.heap.size = sz ∧ va_P (dC, dI) vwCl [(h0, .inr (11, fs_h0)), (qC, .inr (2, fs_qC))] U.heap ∧ va_K (dC, dI) vwCl [] U ∧ va_D (fun _ => True) [(h0, .inr (11, fs_h0)), (qC, .inr (2, fs_qC))] ∧ w_N U ∧ w_T (va_A [(h0, .inr (11, fs_h0)), (qC, .inr (2, fs_qC))] sz) U U.heap ∧ w_C (va_A [(h0, .inr (11, fs_h0)), (qC, .inr (2, fs_qC))] sz) U U.heap)) (va_Qi (fun (r : Int32) (_ : Unit) => r = 2) (fun _ t => va_P (dC, dI) vwCl [] t.heap ∧ va_K (dC, dI) vwCl [] t ∧ va_D (va_A [(h0, .inr (11, fs_h0)), (qC, .inr (2, fs_qC))] sz) []) (va_A [(h0, .inr (11, fs_h0)), (qC, .inr (2, fs_qC))] sz)) (vx_X (fun _ : Unit => False) (fun E _ _ => E = "java/lang/IllegalStateException") (va_A [(h0, .inr (11, fs_h0)), (qC, .inr (2, fs_qC))] sz)) 1 6 (va_A [(h0, .inr (11, fs_h0)), (qC, .inr (2, fs_qC))] sz) := by
  refine vx_ofWH (cc := cL_sums) (maxL := 4) (ret := (some .int)) (by decide) rfl ?_
  intro p e s m args below meth c s₁ B hml hv
  obtain ⟨rfl, hsz, hP, hK, hD0, hN, hT, hC⟩ := hv
  have hx := B.exec
  have hb := B.bytes
  have hr := B.returns
  have hts := atoms_spec (ws := wv_l_sums) B.pre
  have hown : s.vm.findClass RL = some m.cls := findClass_of_methodNamed B.named
  have hlocks := B.notSynchronized
  have htab := vx_table (x := yL_sums) B (hts _ (List.mem_of_getElem? (i := 0) rfl))
  subst hsz
  have hD := hD0.self (sz := s.heap.size)
  generalize hAe : va_A [(h0, .inr (11, fs_h0)), (qC, .inr (2, fs_qC))] s.heap.size = A at hD hT hC ⊢
  have hA : ∀ q : Nat, s.heap.size ≤ q → A q := fun q h => by rw [← hAe]; exact Or.inr h
  obtain ⟨H, hHe, hP, hS⟩ : ∃ H : Heap, H = s.heap ∧ va_P (dC, dI) vwCl [(h0, .inr (11, fs_h0)), (qC, .inr (2, fs_qC))] H ∧ va_S A s.heap H [] := ⟨s.heap, rfl, hP, va_S.rf⟩
  have hl := lv_entry ([.ref h0, .int x0, .ref qo]) (n := 4) (Nat.le_of_ble_eq_true rfl)
  rw [lg_entry_eq]
  generalize (lg_sl ([.ref h0, .int x0, .ref qo]) ++ List.replicate (4 - (lg_sl ([.ref h0, .int x0, .ref qo])).length) Slot.unset).toArray = ls at hl ⊢
  have hl : lv_has ls 4 [(0, .ref h0), (1, .int x0), (2, .ref qo)] := hl
  rw [← hHe]; clear hHe
  refine lv_aload_n hx hb dL_sums_0 rfl (lv_at hl 2 rfl) ?_
  refine lv_iconst (v := 0) hx hb dL_sums_1 (by decide) ?_
  refine lv_aload_n hx hb dL_sums_2 rfl (lv_at hl 0 rfl) ?_
  refine lv_iload_n hx hb dL_sums_3 rfl (lv_at hl 1 rfl) ?_
  have hPc := hP.sub (ws' := [(h0, .inr (11, fs_h0)), (qC, .inr (2, fs_qC))]) [0, 1] rfl
  have hDc := hD.sub (ws' := [(h0, .inr (11, fs_h0)), (qC, .inr (2, fs_qC))]) [0, 1] (by decide) rfl
  have hKc := hK.sub (tys' := []) [] rfl
  have hFc := va_free (wc := [(h0, .inr (11, fs_h0)), (qC, .inr (2, fs_qC))]) hD hS hA [0, 1] rfl
  refine vx_calli (vx_runV (As := [.int x0]) (rest := [.int 0, .ref qo]) ⟨hx, hb, hml, hown, hts⟩ (c_f_sums l hlt dC dI h0 qC x0 fs_h0 fs_qC (mF.sub hF_h0 [0] rfl) (mF.sub hF_qC [0] rfl) H.size) (cwV 1 hts g_l_sums_f_sums_77 rfl rfl rfl hv_X11_sums ⟨Nat.le_of_ble_eq_true rfl, Nat.le_of_ble_eq_true rfl⟩) ⟨fun a U g mk q => by obtain ⟨q0, q1, qP, qK, qD, qE0, qE1⟩ := q; exact ⟨q0, q1, qP, va_K.moved (u := U) (U := U.calling g mk a) (Vm.Alike.refl U.vm) qK, qD, w_N.same rfl qE0, w_T.same rfl rfl qE1⟩, va_recv hKc hPc (ci := 11) (q0 := 0) rfl rfl, fun U hU hW => ⟨rfl, by rw [hU], by rw [hU]; exact hPc, va_K.moved hW.alike hKc, hDc.weaken (fun _ _ _ _ => trivial), w_N.warm hW hN, w_T.go hT hW hS.2.1 hFc hU⟩⟩ rfl rfl hl.1 rfl (lv_room (Nat.le_of_ble_eq_true rfl)) dL_sums_4 ⟨(Nat.le_of_ble_eq_true rfl), (Nat.le_of_ble_eq_true rfl)⟩) hS (fun q _ h => hFc q h) hFc (fun q _ h => hFc q h) (fun E9 ce9 q9 u t H1 locs1 ht hvm hpx hBX hz1 hk1 hS1 hcell9 hv9 hcl9 => ?_) (fun r_1 u t H1 locs1 ht hvm hw hB hz1 hk1 hS1 => ?_)
  · skip
    obtain rfl : E9 = "java/lang/IllegalStateException" := hBX
    have hJ := va_join (wr := []) (w1 := []) hP hD [0, 1] [] rfl rfl (by decide) (by decide) hk1 hFc w_nilP w_nilD
    refine vx_catch (own := RL) (name := "java/lang/IllegalStateException") hown [⟨0, 9, 12, 13⟩] ⟨0, 9, 15, 18⟩ [] (htab.trans rfl) ?hps (by decide) (by decide) (hts (.classLink RL 18 "java/lang/IllegalStateException") (List.mem_of_getElem? (i := 6) rfl)) (va_Nw.use rfl (hT.2.2.2.1 _ (List.mem_of_getElem? (i := 0) rfl))) hcell9 hv9 hcl9 ?_
    case hps =>
      intro z hz
      simp only [List.mem_cons, List.not_mem_nil, or_false] at hz
      rcases hz with rfl
      · exact Or.inr ⟨by decide, "java/lang/IllegalArgumentException", (hts (.classLink RL 13 "java/lang/IllegalArgumentException") (List.mem_of_getElem? (i := 5) rfl)), hC.2⟩
    have hxf_2 : True := hpx; clear hpx
    clear hP hD; obtain ⟨hP, hD⟩ := hJ
    clear hS; revert hS1; intro hS
    clear ht; generalize H1 = H at hP hS ⊢
    replace hP : va_P (dC, dI) vwCl [] H := hP
    replace hD : va_D A [] := hD
    replace hK : va_K (dC, dI) vwCl [] s := hK
    refine W.eq (g2 := F0 m 15 ls [.ref q9]) rfl ?_
    refine lv_astore_n (lv' := [(3, .ref q9), (0, .ref h0), (1, .int x0), (2, .ref qo)]) hx hb dL_sums_15 rfl hl (by decide) rfl (fun ls hl => ?_)
    refine lv_iconst (v := 2) hx hb dL_sums_16 (by decide) ?_
    have hP9 := hP.sub (ws' := []) [] rfl
    have hD9 := hD.sub (ws' := []) [] (by decide) rfl
    have hK9 := hK.sub (tys' := []) [] rfl
    rw [← hAe] at hD9
    refine W.widen (k := 1) (n := 6) (Nat.le_of_ble_eq_true rfl) (Nat.le_of_ble_eq_true rfl) ?_
    subst hAe
    exact vx_ret (W.iret (v := 2) hx hb hr (fun t ht hW => ⟨⟨2, (), rfl, rfl, by rw [ht]; exact hP9, va_K.moved hW.alike hK9, hD9⟩, hS.F ht⟩) hS.2.2 dL_sums_17)
  · skip
    exact (hw : False).elim
def wv_l_sum : List Cond := .codeWith yL_sum cL_sum 7 (some .int) [(0, 13, 16, 43), (0, 13, 20, 13), (0, 13, 24, 18)] :: ([.methodLink RL 80 yX11_sum, .instanceMethod yX11_sum, .selects RX11 yX11_sum yX11_sum, .initialized RX11, .classLink RL 43 "java/util/NoSuchElementException", .classLink RL 13 "java/lang/IllegalArgumentException", .classLink RL 18 "java/lang/IllegalStateException"] ++ (wv_f_sum ++ ([])))
theorem gw_l_sum : wv_l_sum.all goodWord = true := by decide +kernel
theorem g_l_sum_f_sum_80 : GoodIn wv_l_sum (wsV RL 80 RX11 yX11_sum wv_f_sum) := goodIn_app (goodIn_of _ (by decide +kernel)) (goodIn_sub (fun _ h => List.mem_cons_of_mem _ (List.mem_append_right _ (List.mem_append_left _ h))) gw_f_sum)
set_option maxHeartbeats 4000000 in
set_option maxRecDepth 100000 in
/-- the law: sum on a fresh object -/
theorem c_l_sum (l : Launch) (hlt : l.stackTraces = false) (dC : Nat → ClassId) (dI : Nat → Nat → Nat) (h0 : Nat) (qC : Nat) (qo : Nat) (x0 : Int32) (x1 : Int32) (x2 : Int32) (x3 : Int32) (fs_h0 : List Value) (fs_qC : List Value) (hF_h0 : mF 19 [(7, .ref qC)] fs_h0) (hF_qC : mF 13 [(8, .int 0)] fs_qC) (sz : Nat) : vx_Met l yL_sum wv_l_sum ({ frames := 9, cells := 1, slots := 6, locals := 157 }) (va_Pc [.ref h0, .int x0, .int x1, .int x2, .int x3, .ref qo] (fun U => U.heap.size = sz ∧ va_P (dC, dI) vwCl [(h0, .inr (11, fs_h0)), (qC, .inr (2, fs_qC))] U.heap ∧ va_K (dC, dI) vwCl [] U ∧ va_D (fun _ => True) [(h0, .inr (11, fs_h0)), (qC, .inr (2, fs_qC))] ∧ w_N U ∧ w_T (va_A [(h0, .inr (11, fs_h0)), (qC, .inr (2, fs_qC))] sz) U U.heap ∧ w_C (va_A [(h0, .inr (11, fs_h0)), (qC, .inr (2, fs_qC))] sz) U U.heap)) (va_Qi (fun (r : Int32) (_ : Unit) => r = 3) (fun _ t => va_P (dC, dI) vwCl [] t.heap ∧ va_K (dC, dI) vwCl [] t ∧ va_D (va_A [(h0, .inr (11, fs_h0)), (qC, .inr (2, fs_qC))] sz) []) (va_A [(h0, .inr (11, fs_h0)), (qC, .inr (2, fs_qC))] sz)) (vx_X (fun _ : Unit => False) (fun E _ _ => E = "java/lang/IllegalStateException") (va_A [(h0, .inr (11, fs_h0)), (qC, .inr (2, fs_qC))] sz)) 1 6 (va_A [(h0, .inr (11, fs_h0)), (qC, .inr (2, fs_qC))] sz) := by
  refine vx_ofWH (cc := cL_sum) (maxL := 7) (ret := (some .int)) (by decide) rfl ?_
  intro p e s m args below meth c s₁ B hml hv
  obtain ⟨rfl, hsz, hP, hK, hD0, hN, hT, hC⟩ := hv
  have hx := B.exec
  have hb := B.bytes
  have hr := B.returns
  have hts := atoms_spec (ws := wv_l_sum) B.pre
  have hown : s.vm.findClass RL = some m.cls := findClass_of_methodNamed B.named
  have hlocks := B.notSynchronized
  have htab := vx_table (x := yL_sum) B (hts _ (List.mem_of_getElem? (i := 0) rfl))
  subst hsz
  have hD := hD0.self (sz := s.heap.size)
  generalize hAe : va_A [(h0, .inr (11, fs_h0)), (qC, .inr (2, fs_qC))] s.heap.size = A at hD hT hC ⊢
  have hA : ∀ q : Nat, s.heap.size ≤ q → A q := fun q h => by rw [← hAe]; exact Or.inr h
  obtain ⟨H, hHe, hP, hS⟩ : ∃ H : Heap, H = s.heap ∧ va_P (dC, dI) vwCl [(h0, .inr (11, fs_h0)), (qC, .inr (2, fs_qC))] H ∧ va_S A s.heap H [] := ⟨s.heap, rfl, hP, va_S.rf⟩
  have hl := lv_entry ([.ref h0, .int x0, .int x1, .int x2, .int x3, .ref qo]) (n := 7) (Nat.le_of_ble_eq_true rfl)
  rw [lg_entry_eq]
  generalize (lg_sl ([.ref h0, .int x0, .int x1, .int x2, .int x3, .ref qo]) ++ List.replicate (7 - (lg_sl ([.ref h0, .int x0, .int x1, .int x2, .int x3, .ref qo])).length) Slot.unset).toArray = ls at hl ⊢
  have hl : lv_has ls 7 [(0, .ref h0), (1, .int x0), (2, .int x1), (3, .int x2), (4, .int x3), (5, .ref qo)] := hl
  rw [← hHe]; clear hHe
  refine lv_aload hx hb dL_sum_0 (lv_at hl 5 rfl) ?_
  refine lv_iconst (v := 0) hx hb dL_sum_2 (by decide) ?_
  refine lv_aload_n hx hb dL_sum_3 rfl (lv_at hl 0 rfl) ?_
  refine lv_iload_n hx hb dL_sum_4 rfl (lv_at hl 1 rfl) ?_
  refine lv_iload_n hx hb dL_sum_5 rfl (lv_at hl 2 rfl) ?_
  refine lv_iload_n hx hb dL_sum_6 rfl (lv_at hl 3 rfl) ?_
  refine lv_iload hx hb dL_sum_7 (lv_at hl 4 rfl) ?_
  have hPc := hP.sub (ws' := [(h0, .inr (11, fs_h0)), (qC, .inr (2, fs_qC))]) [0, 1] rfl
  have hDc := hD.sub (ws' := [(h0, .inr (11, fs_h0)), (qC, .inr (2, fs_qC))]) [0, 1] (by decide) rfl
  have hKc := hK.sub (tys' := []) [] rfl
  have hFc := va_free (wc := [(h0, .inr (11, fs_h0)), (qC, .inr (2, fs_qC))]) hD hS hA [0, 1] rfl
  refine vx_calll (vx_runV (As := [.int x0, .int x1, .int x2, .int x3]) (rest := [.int 0, .ref qo]) ⟨hx, hb, hml, hown, hts⟩ (c_f_sum l hlt dC dI h0 qC x0 x1 x2 x3 fs_h0 fs_qC (mF.sub hF_h0 [0] rfl) (mF.sub hF_qC [0] rfl) H.size) (cwV 4 hts g_l_sum_f_sum_80 rfl rfl rfl hv_X11_sum ⟨Nat.le_of_ble_eq_true rfl, Nat.le_of_ble_eq_true rfl⟩) ⟨fun a U g mk q => by obtain ⟨q0, q1, qP, qK, qD, qE0, qE1⟩ := q; exact ⟨q0, q1, qP, va_K.moved (u := U) (U := U.calling g mk a) (Vm.Alike.refl U.vm) qK, qD, w_N.same rfl qE0, w_T.same rfl rfl qE1⟩, va_recv hKc hPc (ci := 11) (q0 := 0) rfl rfl, fun U hU hW => ⟨rfl, by rw [hU], by rw [hU]; exact hPc, va_K.moved hW.alike hKc, hDc.weaken (fun _ _ _ _ => trivial), w_N.warm hW hN, w_T.go hT hW hS.2.1 hFc hU⟩⟩ rfl rfl hl.1 rfl (lv_room (Nat.le_of_ble_eq_true rfl)) dL_sum_9 ⟨(Nat.le_of_ble_eq_true rfl), (Nat.le_of_ble_eq_true rfl)⟩) hS (fun q _ h => hFc q h) hFc (fun q _ h => hFc q h) (fun E9 ce9 q9 u t H1 locs1 ht hvm hpx hBX hz1 hk1 hS1 hcell9 hv9 hcl9 => ?_) (fun r_1 u t H1 locs1 ht hvm hw hB hz1 hk1 hS1 => ?_)
  · skip
    obtain rfl : E9 = "java/lang/IllegalStateException" := hBX
    have hJ := va_join (wr := []) (w1 := []) hP hD [0, 1] [] rfl rfl (by decide) (by decide) hk1 hFc w_nilP w_nilD
    refine vx_catch (own := RL) (name := "java/lang/IllegalStateException") hown [⟨0, 13, 16, 43⟩, ⟨0, 13, 20, 13⟩] ⟨0, 13, 24, 18⟩ [] (htab.trans rfl) ?hps (by decide) (by decide) (hts (.classLink RL 18 "java/lang/IllegalStateException") (List.mem_of_getElem? (i := 7) rfl)) (va_Nw.use rfl (hT.2.2.2.1 _ (List.mem_of_getElem? (i := 0) rfl))) hcell9 hv9 hcl9 ?_
    case hps =>
      intro z hz
      simp only [List.mem_cons, List.not_mem_nil, or_false] at hz
      rcases hz with rfl | rfl
      · exact Or.inr ⟨by decide, "java/util/NoSuchElementException", (hts (.classLink RL 43 "java/util/NoSuchElementException") (List.mem_of_getElem? (i := 5) rfl)), hC.1⟩
      · exact Or.inr ⟨by decide, "java/lang/IllegalArgumentException", (hts (.classLink RL 13 "java/lang/IllegalArgumentException") (List.mem_of_getElem? (i := 6) rfl)), hC.2⟩
    have hxf_2 : True := hpx; clear hpx
    clear hP hD; obtain ⟨hP, hD⟩ := hJ
    clear hS; revert hS1; intro hS
    clear ht; generalize H1 = H at hP hS ⊢
    replace hP : va_P (dC, dI) vwCl [] H := hP
    replace hD : va_D A [] := hD
    replace hK : va_K (dC, dI) vwCl [] s := hK
    refine W.eq (g2 := F0 m 24 ls [.ref q9]) rfl ?_
    refine lv_astore (lv' := [(6, .ref q9), (0, .ref h0), (1, .int x0), (2, .int x1), (3, .int x2), (4, .int x3), (5, .ref qo)]) hx hb dL_sum_24 hl (by decide) rfl (fun ls hl => ?_)
    refine lv_iconst (v := 3) hx hb dL_sum_26 (by decide) ?_
    have hP9 := hP.sub (ws' := []) [] rfl
    have hD9 := hD.sub (ws' := []) [] (by decide) rfl
    have hK9 := hK.sub (tys' := []) [] rfl
    rw [← hAe] at hD9
    refine W.widen (k := 1) (n := 6) (Nat.le_of_ble_eq_true rfl) (Nat.le_of_ble_eq_true rfl) ?_
    subst hAe
    exact vx_ret (W.iret (v := 3) hx hb hr (fun t ht hW => ⟨⟨3, (), rfl, rfl, by rw [ht]; exact hP9, va_K.moved hW.alike hK9, hD9⟩, hS.F ht⟩) hS.2.2 dL_sum_27)
  · skip
    exact (hw : False).elim
def wv_l_solves : List Cond := .codeWith yL_solves cL_solves 3 (some .int) [(0, 8, 11, 18)] :: ([.methodLink RL 83 yX11_solves, .instanceMethod yX11_solves, .selects RX11 yX11_solves yX11_solves, .initialized RX11, .classLink RL 18 "java/lang/IllegalStateException"] ++ (wv_f_solves ++ ([])))
theorem gw_l_solves : wv_l_solves.all goodWord = true := by decide +kernel
theorem g_l_solves_f_solves_83 : GoodIn wv_l_solves (wsV RL 83 RX11 yX11_solves wv_f_solves) := goodIn_app (goodIn_of _ (by decide +kernel)) (goodIn_sub (fun _ h => List.mem_cons_of_mem _ (List.mem_append_right _ (List.mem_append_left _ h))) gw_f_solves)
set_option maxHeartbeats 4000000 in
set_option maxRecDepth 100000 in
/-- the law: solves on a fresh object -/
theorem c_l_solves (l : Launch) (hlt : l.stackTraces = false) (dC : Nat → ClassId) (dI : Nat → Nat → Nat) (h0 : Nat) (qC : Nat) (qo : Nat) (fs_h0 : List Value) (fs_qC : List Value) (hF_h0 : mF 19 [(7, .ref qC)] fs_h0) (hF_qC : mF 13 [(8, .int 0)] fs_qC) (sz : Nat) : vx_Met l yL_solves wv_l_solves ({ frames := 8, cells := 1, slots := 6, locals := 130 }) (va_Pc [.ref h0, .ref qo] (fun U => U.heap.size = sz ∧ va_P (dC, dI) vwCl [(h0, .inr (11, fs_h0)), (qC, .inr (2, fs_qC))] U.heap ∧ va_K (dC, dI) vwCl [] U ∧ va_D (fun _ => True) [(h0, .inr (11, fs_h0)), (qC, .inr (2, fs_qC))] ∧ w_N U ∧ w_T (va_A [(h0, .inr (11, fs_h0)), (qC, .inr (2, fs_qC))] sz) U U.heap ∧ w_C (va_A [(h0, .inr (11, fs_h0)), (qC, .inr (2, fs_qC))] sz) U U.heap)) (va_Qi (fun (r : Int32) (_ : Unit) => r = 1) (fun _ t => va_P (dC, dI) vwCl [] t.heap ∧ va_K (dC, dI) vwCl [] t ∧ va_D (va_A [(h0, .inr (11, fs_h0)), (qC, .inr (2, fs_qC))] sz) []) (va_A [(h0, .inr (11, fs_h0)), (qC, .inr (2, fs_qC))] sz)) (vx_X (fun _ : Unit => False) (fun E _ _ => E = "java/lang/IllegalStateException") (va_A [(h0, .inr (11, fs_h0)), (qC, .inr (2, fs_qC))] sz)) 1 6 (va_A [(h0, .inr (11, fs_h0)), (qC, .inr (2, fs_qC))] sz) := by
  refine vx_ofWH (cc := cL_solves) (maxL := 3) (ret := (some .int)) (by decide) rfl ?_
  intro p e s m args below meth c s₁ B hml hv
  obtain ⟨rfl, hsz, hP, hK, hD0, hN, hT, hC⟩ := hv
  have hx := B.exec
  have hb := B.bytes
  have hr := B.returns
  have hts := atoms_spec (ws := wv_l_solves) B.pre
  have hown : s.vm.findClass RL = some m.cls := findClass_of_methodNamed B.named
  have hlocks := B.notSynchronized
  have htab := vx_table (x := yL_solves) B (hts _ (List.mem_of_getElem? (i := 0) rfl))
  subst hsz
  have hD := hD0.self (sz := s.heap.size)
  generalize hAe : va_A [(h0, .inr (11, fs_h0)), (qC, .inr (2, fs_qC))] s.heap.size = A at hD hT hC ⊢
  have hA : ∀ q : Nat, s.heap.size ≤ q → A q := fun q h => by rw [← hAe]; exact Or.inr h
  obtain ⟨H, hHe, hP, hS⟩ : ∃ H : Heap, H = s.heap ∧ va_P (dC, dI) vwCl [(h0, .inr (11, fs_h0)), (qC, .inr (2, fs_qC))] H ∧ va_S A s.heap H [] := ⟨s.heap, rfl, hP, va_S.rf⟩
  have hl := lv_entry ([.ref h0, .ref qo]) (n := 3) (Nat.le_of_ble_eq_true rfl)
  rw [lg_entry_eq]
  generalize (lg_sl ([.ref h0, .ref qo]) ++ List.replicate (3 - (lg_sl ([.ref h0, .ref qo])).length) Slot.unset).toArray = ls at hl ⊢
  have hl : lv_has ls 3 [(0, .ref h0), (1, .ref qo)] := hl
  rw [← hHe]; clear hHe
  refine lv_aload_n hx hb dL_solves_0 rfl (lv_at hl 1 rfl) ?_
  refine lv_iconst (v := 0) hx hb dL_solves_1 (by decide) ?_
  refine lv_aload_n hx hb dL_solves_2 rfl (lv_at hl 0 rfl) ?_
  have hPc := hP.sub (ws' := [(h0, .inr (11, fs_h0)), (qC, .inr (2, fs_qC))]) [0, 1] rfl
  have hDc := hD.sub (ws' := [(h0, .inr (11, fs_h0)), (qC, .inr (2, fs_qC))]) [0, 1] (by decide) rfl
  have hKc := hK.sub (tys' := []) [] rfl
  have hFc := va_free (wc := [(h0, .inr (11, fs_h0)), (qC, .inr (2, fs_qC))]) hD hS hA [0, 1] rfl
  refine vx_calli (vx_runV (As := []) (rest := [.int 0, .ref qo]) ⟨hx, hb, hml, hown, hts⟩ (c_f_solves l hlt dC dI h0 qC fs_h0 fs_qC (mF.sub hF_h0 [0] rfl) (mF.sub hF_qC [0] rfl) H.size) (cwV 0 hts g_l_solves_f_solves_83 rfl rfl rfl hv_X11_solves ⟨Nat.le_of_ble_eq_true rfl, Nat.le_of_ble_eq_true rfl⟩) ⟨fun a U g mk q => by obtain ⟨q0, q1, qP, qK, qD, qE0, qE1⟩ := q; exact ⟨q0, q1, qP, va_K.moved (u := U) (U := U.calling g mk a) (Vm.Alike.refl U.vm) qK, qD, w_N.same rfl qE0, w_T.same rfl rfl qE1⟩, va_recv hKc hPc (ci := 11) (q0 := 0) rfl rfl, fun U hU hW => ⟨rfl, by rw [hU], by rw [hU]; exact hPc, va_K.moved hW.alike hKc, hDc.weaken (fun _ _ _ _ => trivial), w_N.warm hW hN, w_T.go hT hW hS.2.1 hFc hU⟩⟩ rfl rfl hl.1 rfl (lv_room (Nat.le_of_ble_eq_true rfl)) dL_solves_3 ⟨(Nat.le_of_ble_eq_true rfl), (Nat.le_of_ble_eq_true rfl)⟩) hS (fun q _ h => hFc q h) hFc (fun q _ h => hFc q h) (fun E9 ce9 q9 u t H1 locs1 ht hvm hpx hBX hz1 hk1 hS1 hcell9 hv9 hcl9 => ?_) (fun r_1 u t H1 locs1 ht hvm hw hB hz1 hk1 hS1 => ?_)
  · skip
    obtain rfl : E9 = "java/lang/IllegalStateException" := hBX
    have hJ := va_join (wr := []) (w1 := []) hP hD [0, 1] [] rfl rfl (by decide) (by decide) hk1 hFc w_nilP w_nilD
    refine vx_catch (own := RL) (name := "java/lang/IllegalStateException") hown [] ⟨0, 8, 11, 18⟩ [] (htab.trans rfl) (fun z hz => absurd hz List.not_mem_nil) (by decide) (by decide) (hts (.classLink RL 18 "java/lang/IllegalStateException") (List.mem_of_getElem? (i := 5) rfl)) (va_Nw.use rfl (hT.2.2.2.1 _ (List.mem_of_getElem? (i := 0) rfl))) hcell9 hv9 hcl9 ?_
    have hxf_2 : True := hpx; clear hpx
    clear hP hD; obtain ⟨hP, hD⟩ := hJ
    clear hS; revert hS1; intro hS
    clear ht; generalize H1 = H at hP hS ⊢
    replace hP : va_P (dC, dI) vwCl [] H := hP
    replace hD : va_D A [] := hD
    replace hK : va_K (dC, dI) vwCl [] s := hK
    refine W.eq (g2 := F0 m 11 ls [.ref q9]) rfl ?_
    refine lv_astore_n (lv' := [(2, .ref q9), (0, .ref h0), (1, .ref qo)]) hx hb dL_solves_11 rfl hl (by decide) rfl (fun ls hl => ?_)
    refine lv_iconst (v := 1) hx hb dL_solves_12 (by decide) ?_
    have hP9 := hP.sub (ws' := []) [] rfl
    have hD9 := hD.sub (ws' := []) [] (by decide) rfl
    have hK9 := hK.sub (tys' := []) [] rfl
    rw [← hAe] at hD9
    refine W.widen (k := 1) (n := 6) (Nat.le_of_ble_eq_true rfl) (Nat.le_of_ble_eq_true rfl) ?_
    subst hAe
    exact vx_ret (W.iret (v := 1) hx hb hr (fun t ht hW => ⟨⟨1, (), rfl, rfl, by rw [ht]; exact hP9, va_K.moved hW.alike hK9, hD9⟩, hS.F ht⟩) hS.2.2 dL_solves_13)
  · skip
    exact (hw : False).elim
def wv_l_left : List Cond := .codeWith yL_left cL_left 5 (some .int) [(0, 9, 12, 13), (0, 9, 16, 18)] :: ([.methodLink RL 86 yX11_left, .instanceMethod yX11_left, .selects RX11 yX11_left yX11_left, .initialized RX11, .classLink RL 13 "java/lang/IllegalArgumentException", .classLink RL 18 "java/lang/IllegalStateException"] ++ (wv_f_left ++ ([])))
theorem gw_l_left : wv_l_left.all goodWord = true := by decide +kernel
theorem g_l_left_f_left_86 : GoodIn wv_l_left (wsV RL 86 RX11 yX11_left wv_f_left) := goodIn_app (goodIn_of _ (by decide +kernel)) (goodIn_sub (fun _ h => List.mem_cons_of_mem _ (List.mem_append_right _ (List.mem_append_left _ h))) gw_f_left)
set_option maxHeartbeats 4000000 in
set_option maxRecDepth 100000 in
/-- the law: left on a fresh object -/
theorem c_l_left (l : Launch) (hlt : l.stackTraces = false) (dC : Nat → ClassId) (dI : Nat → Nat → Nat) (h0 : Nat) (qC : Nat) (qo : Nat) (x0 : Int32) (x1 : Int32) (fs_h0 : List Value) (fs_qC : List Value) (hF_h0 : mF 19 [(7, .ref qC)] fs_h0) (hF_qC : mF 13 [(8, .int 0)] fs_qC) (sz : Nat) : vx_Met l yL_left wv_l_left ({ frames := 8, cells := 1, slots := 6, locals := 132 }) (va_Pc [.ref h0, .int x0, .int x1, .ref qo] (fun U => U.heap.size = sz ∧ va_P (dC, dI) vwCl [(h0, .inr (11, fs_h0)), (qC, .inr (2, fs_qC))] U.heap ∧ va_K (dC, dI) vwCl [] U ∧ va_D (fun _ => True) [(h0, .inr (11, fs_h0)), (qC, .inr (2, fs_qC))] ∧ w_N U ∧ w_T (va_A [(h0, .inr (11, fs_h0)), (qC, .inr (2, fs_qC))] sz) U U.heap ∧ w_C (va_A [(h0, .inr (11, fs_h0)), (qC, .inr (2, fs_qC))] sz) U U.heap)) (va_Qi (fun (r : Int32) (_ : Unit) => r = 2) (fun _ t => va_P (dC, dI) vwCl [] t.heap ∧ va_K (dC, dI) vwCl [] t ∧ va_D (va_A [(h0, .inr (11, fs_h0)), (qC, .inr (2, fs_qC))] sz) []) (va_A [(h0, .inr (11, fs_h0)), (qC, .inr (2, fs_qC))] sz)) (vx_X (fun _ : Unit => False) (fun E _ _ => E = "java/lang/IllegalStateException") (va_A [(h0, .inr (11, fs_h0)), (qC, .inr (2, fs_qC))] sz)) 1 6 (va_A [(h0, .inr (11, fs_h0)), (qC, .inr (2, fs_qC))] sz) := by
  refine vx_ofWH (cc := cL_left) (maxL := 5) (ret := (some .int)) (by decide) rfl ?_
  intro p e s m args below meth c s₁ B hml hv
  obtain ⟨rfl, hsz, hP, hK, hD0, hN, hT, hC⟩ := hv
  have hx := B.exec
  have hb := B.bytes
  have hr := B.returns
  have hts := atoms_spec (ws := wv_l_left) B.pre
  have hown : s.vm.findClass RL = some m.cls := findClass_of_methodNamed B.named
  have hlocks := B.notSynchronized
  have htab := vx_table (x := yL_left) B (hts _ (List.mem_of_getElem? (i := 0) rfl))
  subst hsz
  have hD := hD0.self (sz := s.heap.size)
  generalize hAe : va_A [(h0, .inr (11, fs_h0)), (qC, .inr (2, fs_qC))] s.heap.size = A at hD hT hC ⊢
  have hA : ∀ q : Nat, s.heap.size ≤ q → A q := fun q h => by rw [← hAe]; exact Or.inr h
  obtain ⟨H, hHe, hP, hS⟩ : ∃ H : Heap, H = s.heap ∧ va_P (dC, dI) vwCl [(h0, .inr (11, fs_h0)), (qC, .inr (2, fs_qC))] H ∧ va_S A s.heap H [] := ⟨s.heap, rfl, hP, va_S.rf⟩
  have hl := lv_entry ([.ref h0, .int x0, .int x1, .ref qo]) (n := 5) (Nat.le_of_ble_eq_true rfl)
  rw [lg_entry_eq]
  generalize (lg_sl ([.ref h0, .int x0, .int x1, .ref qo]) ++ List.replicate (5 - (lg_sl ([.ref h0, .int x0, .int x1, .ref qo])).length) Slot.unset).toArray = ls at hl ⊢
  have hl : lv_has ls 5 [(0, .ref h0), (1, .int x0), (2, .int x1), (3, .ref qo)] := hl
  rw [← hHe]; clear hHe
  refine lv_aload_n hx hb dL_left_0 rfl (lv_at hl 3 rfl) ?_
  refine lv_iconst (v := 0) hx hb dL_left_1 (by decide) ?_
  refine lv_aload_n hx hb dL_left_2 rfl (lv_at hl 0 rfl) ?_
  refine lv_iload_n hx hb dL_left_3 rfl (lv_at hl 1 rfl) ?_
  refine lv_iload_n hx hb dL_left_4 rfl (lv_at hl 2 rfl) ?_
  have hPc := hP.sub (ws' := [(h0, .inr (11, fs_h0)), (qC, .inr (2, fs_qC))]) [0, 1] rfl
  have hDc := hD.sub (ws' := [(h0, .inr (11, fs_h0)), (qC, .inr (2, fs_qC))]) [0, 1] (by decide) rfl
  have hKc := hK.sub (tys' := []) [] rfl
  have hFc := va_free (wc := [(h0, .inr (11, fs_h0)), (qC, .inr (2, fs_qC))]) hD hS hA [0, 1] rfl
  refine vx_calll (vx_runV (As := [.int x0, .int x1]) (rest := [.int 0, .ref qo]) ⟨hx, hb, hml, hown, hts⟩ (c_f_left l hlt dC dI h0 qC x0 x1 fs_h0 fs_qC (mF.sub hF_h0 [0] rfl) (mF.sub hF_qC [0] rfl) H.size) (cwV 2 hts g_l_left_f_left_86 rfl rfl rfl hv_X11_left ⟨Nat.le_of_ble_eq_true rfl, Nat.le_of_ble_eq_true rfl⟩) ⟨fun a U g mk q => by obtain ⟨q0, q1, qP, qK, qD, qE0, qE1⟩ := q; exact ⟨q0, q1, qP, va_K.moved (u := U) (U := U.calling g mk a) (Vm.Alike.refl U.vm) qK, qD, w_N.same rfl qE0, w_T.same rfl rfl qE1⟩, va_recv hKc hPc (ci := 11) (q0 := 0) rfl rfl, fun U hU hW => ⟨rfl, by rw [hU], by rw [hU]; exact hPc, va_K.moved hW.alike hKc, hDc.weaken (fun _ _ _ _ => trivial), w_N.warm hW hN, w_T.go hT hW hS.2.1 hFc hU⟩⟩ rfl rfl hl.1 rfl (lv_room (Nat.le_of_ble_eq_true rfl)) dL_left_5 ⟨(Nat.le_of_ble_eq_true rfl), (Nat.le_of_ble_eq_true rfl)⟩) hS (fun q _ h => hFc q h) hFc (fun q _ h => hFc q h) (fun E9 ce9 q9 u t H1 locs1 ht hvm hpx hBX hz1 hk1 hS1 hcell9 hv9 hcl9 => ?_) (fun r_1 u t H1 locs1 ht hvm hw hB hz1 hk1 hS1 => ?_)
  · skip
    obtain rfl : E9 = "java/lang/IllegalStateException" := hBX
    have hJ := va_join (wr := []) (w1 := []) hP hD [0, 1] [] rfl rfl (by decide) (by decide) hk1 hFc w_nilP w_nilD
    refine vx_catch (own := RL) (name := "java/lang/IllegalStateException") hown [⟨0, 9, 12, 13⟩] ⟨0, 9, 16, 18⟩ [] (htab.trans rfl) ?hps (by decide) (by decide) (hts (.classLink RL 18 "java/lang/IllegalStateException") (List.mem_of_getElem? (i := 6) rfl)) (va_Nw.use rfl (hT.2.2.2.1 _ (List.mem_of_getElem? (i := 0) rfl))) hcell9 hv9 hcl9 ?_
    case hps =>
      intro z hz
      simp only [List.mem_cons, List.not_mem_nil, or_false] at hz
      rcases hz with rfl
      · exact Or.inr ⟨by decide, "java/lang/IllegalArgumentException", (hts (.classLink RL 13 "java/lang/IllegalArgumentException") (List.mem_of_getElem? (i := 5) rfl)), hC.2⟩
    have hxf_2 : True := hpx; clear hpx
    clear hP hD; obtain ⟨hP, hD⟩ := hJ
    clear hS; revert hS1; intro hS
    clear ht; generalize H1 = H at hP hS ⊢
    replace hP : va_P (dC, dI) vwCl [] H := hP
    replace hD : va_D A [] := hD
    replace hK : va_K (dC, dI) vwCl [] s := hK
    refine W.eq (g2 := F0 m 16 ls [.ref q9]) rfl ?_
    refine lv_astore (lv' := [(4, .ref q9), (0, .ref h0), (1, .int x0), (2, .int x1), (3, .ref qo)]) hx hb dL_left_16 hl (by decide) rfl (fun ls hl => ?_)
    refine lv_iconst (v := 2) hx hb dL_left_18 (by decide) ?_
    have hP9 := hP.sub (ws' := []) [] rfl
    have hD9 := hD.sub (ws' := []) [] (by decide) rfl
    have hK9 := hK.sub (tys' := []) [] rfl
    rw [← hAe] at hD9
    refine W.widen (k := 1) (n := 6) (Nat.le_of_ble_eq_true rfl) (Nat.le_of_ble_eq_true rfl) ?_
    subst hAe
    exact vx_ret (W.iret (v := 2) hx hb hr (fun t ht hW => ⟨⟨2, (), rfl, rfl, by rw [ht]; exact hP9, va_K.moved hW.alike hK9, hD9⟩, hS.F ht⟩) hS.2.2 dL_left_19)
  · skip
    exact (hw : False).elim
def wv_l_shifted : List Cond := .codeWith yL_shifted cL_shifted 5 (some .int) [(0, 10, 13, 13), (0, 10, 17, 18)] :: ([.methodLink RL 90 yX11_shifted, .instanceMethod yX11_shifted, .selects RX11 yX11_shifted yX11_shifted, .initialized RX11, .classLink RL 13 "java/lang/IllegalArgumentException", .classLink RL 18 "java/lang/IllegalStateException"] ++ (wv_f_shifted ++ ([])))
theorem gw_l_shifted : wv_l_shifted.all goodWord = true := by decide +kernel
theorem g_l_shifted_f_shifted_90 : GoodIn wv_l_shifted (wsV RL 90 RX11 yX11_shifted wv_f_shifted) := goodIn_app (goodIn_of _ (by decide +kernel)) (goodIn_sub (fun _ h => List.mem_cons_of_mem _ (List.mem_append_right _ (List.mem_append_left _ h))) gw_f_shifted)
set_option maxHeartbeats 4000000 in
set_option maxRecDepth 100000 in
/-- the law: shifted on a fresh object -/
theorem c_l_shifted (l : Launch) (hlt : l.stackTraces = false) (dC : Nat → ClassId) (dI : Nat → Nat → Nat) (h0 : Nat) (qC : Nat) (qo : Nat) (x0 : Int32) (x1 : Int32) (fs_h0 : List Value) (fs_qC : List Value) (hF_h0 : mF 19 [(7, .ref qC)] fs_h0) (hF_qC : mF 13 [(8, .int 0)] fs_qC) (sz : Nat) : vx_Met l yL_shifted wv_l_shifted ({ frames := 8, cells := 1, slots := 6, locals := 132 }) (va_Pc [.ref h0, .int x0, .int x1, .ref qo] (fun U => U.heap.size = sz ∧ va_P (dC, dI) vwCl [(h0, .inr (11, fs_h0)), (qC, .inr (2, fs_qC))] U.heap ∧ va_K (dC, dI) vwCl [] U ∧ va_D (fun _ => True) [(h0, .inr (11, fs_h0)), (qC, .inr (2, fs_qC))] ∧ w_N U ∧ w_T (va_A [(h0, .inr (11, fs_h0)), (qC, .inr (2, fs_qC))] sz) U U.heap ∧ w_C (va_A [(h0, .inr (11, fs_h0)), (qC, .inr (2, fs_qC))] sz) U U.heap)) (va_Qi (fun (r : Int32) (_ : Unit) => r = 2) (fun _ t => va_P (dC, dI) vwCl [] t.heap ∧ va_K (dC, dI) vwCl [] t ∧ va_D (va_A [(h0, .inr (11, fs_h0)), (qC, .inr (2, fs_qC))] sz) []) (va_A [(h0, .inr (11, fs_h0)), (qC, .inr (2, fs_qC))] sz)) (vx_X (fun _ : Unit => False) (fun E _ _ => E = "java/lang/IllegalStateException") (va_A [(h0, .inr (11, fs_h0)), (qC, .inr (2, fs_qC))] sz)) 1 6 (va_A [(h0, .inr (11, fs_h0)), (qC, .inr (2, fs_qC))] sz) := by
  refine vx_ofWH (cc := cL_shifted) (maxL := 5) (ret := (some .int)) (by decide) rfl ?_
  intro p e s m args below meth c s₁ B hml hv
  obtain ⟨rfl, hsz, hP, hK, hD0, hN, hT, hC⟩ := hv
  have hx := B.exec
  have hb := B.bytes
  have hr := B.returns
  have hts := atoms_spec (ws := wv_l_shifted) B.pre
  have hown : s.vm.findClass RL = some m.cls := findClass_of_methodNamed B.named
  have hlocks := B.notSynchronized
  have htab := vx_table (x := yL_shifted) B (hts _ (List.mem_of_getElem? (i := 0) rfl))
  subst hsz
  have hD := hD0.self (sz := s.heap.size)
  generalize hAe : va_A [(h0, .inr (11, fs_h0)), (qC, .inr (2, fs_qC))] s.heap.size = A at hD hT hC ⊢
  have hA : ∀ q : Nat, s.heap.size ≤ q → A q := fun q h => by rw [← hAe]; exact Or.inr h
  obtain ⟨H, hHe, hP, hS⟩ : ∃ H : Heap, H = s.heap ∧ va_P (dC, dI) vwCl [(h0, .inr (11, fs_h0)), (qC, .inr (2, fs_qC))] H ∧ va_S A s.heap H [] := ⟨s.heap, rfl, hP, va_S.rf⟩
  have hl := lv_entry ([.ref h0, .int x0, .int x1, .ref qo]) (n := 5) (Nat.le_of_ble_eq_true rfl)
  rw [lg_entry_eq]
  generalize (lg_sl ([.ref h0, .int x0, .int x1, .ref qo]) ++ List.replicate (5 - (lg_sl ([.ref h0, .int x0, .int x1, .ref qo])).length) Slot.unset).toArray = ls at hl ⊢
  have hl : lv_has ls 5 [(0, .ref h0), (1, .int x0), (2, .int x1), (3, .ref qo)] := hl
  rw [← hHe]; clear hHe
  refine lv_aload_n hx hb dL_shifted_0 rfl (lv_at hl 3 rfl) ?_
  refine lv_iconst (v := 0) hx hb dL_shifted_1 (by decide) ?_
  refine lv_aload_n hx hb dL_shifted_2 rfl (lv_at hl 0 rfl) ?_
  refine lv_iload_n hx hb dL_shifted_3 rfl (lv_at hl 1 rfl) ?_
  refine lv_iload_n hx hb dL_shifted_4 rfl (lv_at hl 2 rfl) ?_
  have hPc := hP.sub (ws' := [(h0, .inr (11, fs_h0)), (qC, .inr (2, fs_qC))]) [0, 1] rfl
  have hDc := hD.sub (ws' := [(h0, .inr (11, fs_h0)), (qC, .inr (2, fs_qC))]) [0, 1] (by decide) rfl
  have hKc := hK.sub (tys' := []) [] rfl
  have hFc := va_free (wc := [(h0, .inr (11, fs_h0)), (qC, .inr (2, fs_qC))]) hD hS hA [0, 1] rfl
  refine vx_calli (vx_runV (As := [.int x0, .int x1]) (rest := [.int 0, .ref qo]) ⟨hx, hb, hml, hown, hts⟩ (c_f_shifted l hlt dC dI h0 qC x0 x1 fs_h0 fs_qC (mF.sub hF_h0 [0] rfl) (mF.sub hF_qC [0] rfl) H.size) (cwV 2 hts g_l_shifted_f_shifted_90 rfl rfl rfl hv_X11_shifted ⟨Nat.le_of_ble_eq_true rfl, Nat.le_of_ble_eq_true rfl⟩) ⟨fun a U g mk q => by obtain ⟨q0, q1, qP, qK, qD, qE0, qE1⟩ := q; exact ⟨q0, q1, qP, va_K.moved (u := U) (U := U.calling g mk a) (Vm.Alike.refl U.vm) qK, qD, w_N.same rfl qE0, w_T.same rfl rfl qE1⟩, va_recv hKc hPc (ci := 11) (q0 := 0) rfl rfl, fun U hU hW => ⟨rfl, by rw [hU], by rw [hU]; exact hPc, va_K.moved hW.alike hKc, hDc.weaken (fun _ _ _ _ => trivial), w_N.warm hW hN, w_T.go hT hW hS.2.1 hFc hU⟩⟩ rfl rfl hl.1 rfl (lv_room (Nat.le_of_ble_eq_true rfl)) dL_shifted_5 ⟨(Nat.le_of_ble_eq_true rfl), (Nat.le_of_ble_eq_true rfl)⟩) hS (fun q _ h => hFc q h) hFc (fun q _ h => hFc q h) (fun E9 ce9 q9 u t H1 locs1 ht hvm hpx hBX hz1 hk1 hS1 hcell9 hv9 hcl9 => ?_) (fun r_1 u t H1 locs1 ht hvm hw hB hz1 hk1 hS1 => ?_)
  · skip
    obtain rfl : E9 = "java/lang/IllegalStateException" := hBX
    have hJ := va_join (wr := []) (w1 := []) hP hD [0, 1] [] rfl rfl (by decide) (by decide) hk1 hFc w_nilP w_nilD
    refine vx_catch (own := RL) (name := "java/lang/IllegalStateException") hown [⟨0, 10, 13, 13⟩] ⟨0, 10, 17, 18⟩ [] (htab.trans rfl) ?hps (by decide) (by decide) (hts (.classLink RL 18 "java/lang/IllegalStateException") (List.mem_of_getElem? (i := 6) rfl)) (va_Nw.use rfl (hT.2.2.2.1 _ (List.mem_of_getElem? (i := 0) rfl))) hcell9 hv9 hcl9 ?_
    case hps =>
      intro z hz
      simp only [List.mem_cons, List.not_mem_nil, or_false] at hz
      rcases hz with rfl
      · exact Or.inr ⟨by decide, "java/lang/IllegalArgumentException", (hts (.classLink RL 13 "java/lang/IllegalArgumentException") (List.mem_of_getElem? (i := 5) rfl)), hC.2⟩
    have hxf_2 : True := hpx; clear hpx
    clear hP hD; obtain ⟨hP, hD⟩ := hJ
    clear hS; revert hS1; intro hS
    clear ht; generalize H1 = H at hP hS ⊢
    replace hP : va_P (dC, dI) vwCl [] H := hP
    replace hD : va_D A [] := hD
    replace hK : va_K (dC, dI) vwCl [] s := hK
    refine W.eq (g2 := F0 m 17 ls [.ref q9]) rfl ?_
    refine lv_astore (lv' := [(4, .ref q9), (0, .ref h0), (1, .int x0), (2, .int x1), (3, .ref qo)]) hx hb dL_shifted_17 hl (by decide) rfl (fun ls hl => ?_)
    refine lv_iconst (v := 2) hx hb dL_shifted_19 (by decide) ?_
    have hP9 := hP.sub (ws' := []) [] rfl
    have hD9 := hD.sub (ws' := []) [] (by decide) rfl
    have hK9 := hK.sub (tys' := []) [] rfl
    rw [← hAe] at hD9
    refine W.widen (k := 1) (n := 6) (Nat.le_of_ble_eq_true rfl) (Nat.le_of_ble_eq_true rfl) ?_
    subst hAe
    exact vx_ret (W.iret (v := 2) hx hb hr (fun t ht hW => ⟨⟨2, (), rfl, rfl, by rw [ht]; exact hP9, va_K.moved hW.alike hK9, hD9⟩, hS.F ht⟩) hS.2.2 dL_shifted_20)
  · skip
    exact (hw : False).elim
def wv_l_stretched : List Cond := .codeWith yL_stretched cL_stretched 5 (some .int) [(0, 10, 13, 43), (0, 10, 17, 13), (0, 10, 21, 18)] :: ([.methodLink RL 93 yX11_stretched, .instanceMethod yX11_stretched, .selects RX11 yX11_stretched yX11_stretched, .initialized RX11, .classLink RL 43 "java/util/NoSuchElementException", .classLink RL 13 "java/lang/IllegalArgumentException", .classLink RL 18 "java/lang/IllegalStateException"] ++ (wv_f_stretched ++ ([])))
theorem gw_l_stretched : wv_l_stretched.all goodWord = true := by decide +kernel
theorem g_l_stretched_f_stretched_93 : GoodIn wv_l_stretched (wsV RL 93 RX11 yX11_stretched wv_f_stretched) := goodIn_app (goodIn_of _ (by decide +kernel)) (goodIn_sub (fun _ h => List.mem_cons_of_mem _ (List.mem_append_right _ (List.mem_append_left _ h))) gw_f_stretched)
set_option maxHeartbeats 4000000 in
set_option maxRecDepth 100000 in
/-- the law: stretched on a fresh object -/
theorem c_l_stretched (l : Launch) (hlt : l.stackTraces = false) (dC : Nat → ClassId) (dI : Nat → Nat → Nat) (h0 : Nat) (qC : Nat) (qo : Nat) (x0 : Int32) (x1 : Int32) (fs_h0 : List Value) (fs_qC : List Value) (hF_h0 : mF 19 [(7, .ref qC)] fs_h0) (hF_qC : mF 13 [(8, .int 0)] fs_qC) (sz : Nat) : vx_Met l yL_stretched wv_l_stretched ({ frames := 8, cells := 1, slots := 6, locals := 133 }) (va_Pc [.ref h0, .int x0, .int x1, .ref qo] (fun U => U.heap.size = sz ∧ va_P (dC, dI) vwCl [(h0, .inr (11, fs_h0)), (qC, .inr (2, fs_qC))] U.heap ∧ va_K (dC, dI) vwCl [] U ∧ va_D (fun _ => True) [(h0, .inr (11, fs_h0)), (qC, .inr (2, fs_qC))] ∧ w_N U ∧ w_T (va_A [(h0, .inr (11, fs_h0)), (qC, .inr (2, fs_qC))] sz) U U.heap ∧ w_C (va_A [(h0, .inr (11, fs_h0)), (qC, .inr (2, fs_qC))] sz) U U.heap)) (va_Qi (fun (r : Int32) (_ : Unit) => r = 3) (fun _ t => va_P (dC, dI) vwCl [] t.heap ∧ va_K (dC, dI) vwCl [] t ∧ va_D (va_A [(h0, .inr (11, fs_h0)), (qC, .inr (2, fs_qC))] sz) []) (va_A [(h0, .inr (11, fs_h0)), (qC, .inr (2, fs_qC))] sz)) (vx_X (fun _ : Unit => False) (fun E _ _ => E = "java/lang/IllegalStateException") (va_A [(h0, .inr (11, fs_h0)), (qC, .inr (2, fs_qC))] sz)) 1 6 (va_A [(h0, .inr (11, fs_h0)), (qC, .inr (2, fs_qC))] sz) := by
  refine vx_ofWH (cc := cL_stretched) (maxL := 5) (ret := (some .int)) (by decide) rfl ?_
  intro p e s m args below meth c s₁ B hml hv
  obtain ⟨rfl, hsz, hP, hK, hD0, hN, hT, hC⟩ := hv
  have hx := B.exec
  have hb := B.bytes
  have hr := B.returns
  have hts := atoms_spec (ws := wv_l_stretched) B.pre
  have hown : s.vm.findClass RL = some m.cls := findClass_of_methodNamed B.named
  have hlocks := B.notSynchronized
  have htab := vx_table (x := yL_stretched) B (hts _ (List.mem_of_getElem? (i := 0) rfl))
  subst hsz
  have hD := hD0.self (sz := s.heap.size)
  generalize hAe : va_A [(h0, .inr (11, fs_h0)), (qC, .inr (2, fs_qC))] s.heap.size = A at hD hT hC ⊢
  have hA : ∀ q : Nat, s.heap.size ≤ q → A q := fun q h => by rw [← hAe]; exact Or.inr h
  obtain ⟨H, hHe, hP, hS⟩ : ∃ H : Heap, H = s.heap ∧ va_P (dC, dI) vwCl [(h0, .inr (11, fs_h0)), (qC, .inr (2, fs_qC))] H ∧ va_S A s.heap H [] := ⟨s.heap, rfl, hP, va_S.rf⟩
  have hl := lv_entry ([.ref h0, .int x0, .int x1, .ref qo]) (n := 5) (Nat.le_of_ble_eq_true rfl)
  rw [lg_entry_eq]
  generalize (lg_sl ([.ref h0, .int x0, .int x1, .ref qo]) ++ List.replicate (5 - (lg_sl ([.ref h0, .int x0, .int x1, .ref qo])).length) Slot.unset).toArray = ls at hl ⊢
  have hl : lv_has ls 5 [(0, .ref h0), (1, .int x0), (2, .int x1), (3, .ref qo)] := hl
  rw [← hHe]; clear hHe
  refine lv_aload_n hx hb dL_stretched_0 rfl (lv_at hl 3 rfl) ?_
  refine lv_iconst (v := 0) hx hb dL_stretched_1 (by decide) ?_
  refine lv_aload_n hx hb dL_stretched_2 rfl (lv_at hl 0 rfl) ?_
  refine lv_iload_n hx hb dL_stretched_3 rfl (lv_at hl 1 rfl) ?_
  refine lv_iload_n hx hb dL_stretched_4 rfl (lv_at hl 2 rfl) ?_
  have hPc := hP.sub (ws' := [(h0, .inr (11, fs_h0)), (qC, .inr (2, fs_qC))]) [0, 1] rfl
  have hDc := hD.sub (ws' := [(h0, .inr (11, fs_h0)), (qC, .inr (2, fs_qC))]) [0, 1] (by decide) rfl
  have hKc := hK.sub (tys' := []) [] rfl
  have hFc := va_free (wc := [(h0, .inr (11, fs_h0)), (qC, .inr (2, fs_qC))]) hD hS hA [0, 1] rfl
  refine vx_calli (vx_runV (As := [.int x0, .int x1]) (rest := [.int 0, .ref qo]) ⟨hx, hb, hml, hown, hts⟩ (c_f_stretched l hlt dC dI h0 qC x0 x1 fs_h0 fs_qC (mF.sub hF_h0 [0] rfl) (mF.sub hF_qC [0] rfl) H.size) (cwV 2 hts g_l_stretched_f_stretched_93 rfl rfl rfl hv_X11_stretched ⟨Nat.le_of_ble_eq_true rfl, Nat.le_of_ble_eq_true rfl⟩) ⟨fun a U g mk q => by obtain ⟨q0, q1, qP, qK, qD, qE0, qE1⟩ := q; exact ⟨q0, q1, qP, va_K.moved (u := U) (U := U.calling g mk a) (Vm.Alike.refl U.vm) qK, qD, w_N.same rfl qE0, w_T.same rfl rfl qE1⟩, va_recv hKc hPc (ci := 11) (q0 := 0) rfl rfl, fun U hU hW => ⟨rfl, by rw [hU], by rw [hU]; exact hPc, va_K.moved hW.alike hKc, hDc.weaken (fun _ _ _ _ => trivial), w_N.warm hW hN, w_T.go hT hW hS.2.1 hFc hU⟩⟩ rfl rfl hl.1 rfl (lv_room (Nat.le_of_ble_eq_true rfl)) dL_stretched_5 ⟨(Nat.le_of_ble_eq_true rfl), (Nat.le_of_ble_eq_true rfl)⟩) hS (fun q _ h => hFc q h) hFc (fun q _ h => hFc q h) (fun E9 ce9 q9 u t H1 locs1 ht hvm hpx hBX hz1 hk1 hS1 hcell9 hv9 hcl9 => ?_) (fun r_1 u t H1 locs1 ht hvm hw hB hz1 hk1 hS1 => ?_)
  · skip
    obtain rfl : E9 = "java/lang/IllegalStateException" := hBX
    have hJ := va_join (wr := []) (w1 := []) hP hD [0, 1] [] rfl rfl (by decide) (by decide) hk1 hFc w_nilP w_nilD
    refine vx_catch (own := RL) (name := "java/lang/IllegalStateException") hown [⟨0, 10, 13, 43⟩, ⟨0, 10, 17, 13⟩] ⟨0, 10, 21, 18⟩ [] (htab.trans rfl) ?hps (by decide) (by decide) (hts (.classLink RL 18 "java/lang/IllegalStateException") (List.mem_of_getElem? (i := 7) rfl)) (va_Nw.use rfl (hT.2.2.2.1 _ (List.mem_of_getElem? (i := 0) rfl))) hcell9 hv9 hcl9 ?_
    case hps =>
      intro z hz
      simp only [List.mem_cons, List.not_mem_nil, or_false] at hz
      rcases hz with rfl | rfl
      · exact Or.inr ⟨by decide, "java/util/NoSuchElementException", (hts (.classLink RL 43 "java/util/NoSuchElementException") (List.mem_of_getElem? (i := 5) rfl)), hC.1⟩
      · exact Or.inr ⟨by decide, "java/lang/IllegalArgumentException", (hts (.classLink RL 13 "java/lang/IllegalArgumentException") (List.mem_of_getElem? (i := 6) rfl)), hC.2⟩
    have hxf_2 : True := hpx; clear hpx
    clear hP hD; obtain ⟨hP, hD⟩ := hJ
    clear hS; revert hS1; intro hS
    clear ht; generalize H1 = H at hP hS ⊢
    replace hP : va_P (dC, dI) vwCl [] H := hP
    replace hD : va_D A [] := hD
    replace hK : va_K (dC, dI) vwCl [] s := hK
    refine W.eq (g2 := F0 m 21 ls [.ref q9]) rfl ?_
    refine lv_astore (lv' := [(4, .ref q9), (0, .ref h0), (1, .int x0), (2, .int x1), (3, .ref qo)]) hx hb dL_stretched_21 hl (by decide) rfl (fun ls hl => ?_)
    refine lv_iconst (v := 3) hx hb dL_stretched_23 (by decide) ?_
    have hP9 := hP.sub (ws' := []) [] rfl
    have hD9 := hD.sub (ws' := []) [] (by decide) rfl
    have hK9 := hK.sub (tys' := []) [] rfl
    rw [← hAe] at hD9
    refine W.widen (k := 1) (n := 6) (Nat.le_of_ble_eq_true rfl) (Nat.le_of_ble_eq_true rfl) ?_
    subst hAe
    exact vx_ret (W.iret (v := 3) hx hb hr (fun t ht hW => ⟨⟨3, (), rfl, rfl, by rw [ht]; exact hP9, va_K.moved hW.alike hK9, hD9⟩, hS.F ht⟩) hS.2.2 dL_stretched_24)
  · skip
    exact (hw : False).elim
def wv_l_wave : List Cond := .codeWith yL_wave cL_wave 5 (some .int) [(0, 10, 13, 13), (0, 10, 17, 18)] :: ([.methodLink RL 96 yX11_wave, .instanceMethod yX11_wave, .selects RX11 yX11_wave yX11_wave, .initialized RX11, .classLink RL 13 "java/lang/IllegalArgumentException", .classLink RL 18 "java/lang/IllegalStateException"] ++ (wv_f_wave ++ ([])))
theorem gw_l_wave : wv_l_wave.all goodWord = true := by decide +kernel
theorem g_l_wave_f_wave_96 : GoodIn wv_l_wave (wsV RL 96 RX11 yX11_wave wv_f_wave) := goodIn_app (goodIn_of _ (by decide +kernel)) (goodIn_sub (fun _ h => List.mem_cons_of_mem _ (List.mem_append_right _ (List.mem_append_left _ h))) gw_f_wave)
set_option maxHeartbeats 4000000 in
set_option maxRecDepth 100000 in
/-- the law: wave on a fresh object -/
theorem c_l_wave (l : Launch) (hlt : l.stackTraces = false) (dC : Nat → ClassId) (dI : Nat → Nat → Nat) (h0 : Nat) (qC : Nat) (qo : Nat) (x0 : Int32) (x1 : Int32) (fs_h0 : List Value) (fs_qC : List Value) (hF_h0 : mF 19 [(7, .ref qC)] fs_h0) (hF_qC : mF 13 [(8, .int 0)] fs_qC) (sz : Nat) : vx_Met l yL_wave wv_l_wave ({ frames := 8, cells := 1, slots := 6, locals := 134 }) (va_Pc [.ref h0, .int x0, .int x1, .ref qo] (fun U => U.heap.size = sz ∧ va_P (dC, dI) vwCl [(h0, .inr (11, fs_h0)), (qC, .inr (2, fs_qC))] U.heap ∧ va_K (dC, dI) vwCl [] U ∧ va_D (fun _ => True) [(h0, .inr (11, fs_h0)), (qC, .inr (2, fs_qC))] ∧ w_N U ∧ w_T (va_A [(h0, .inr (11, fs_h0)), (qC, .inr (2, fs_qC))] sz) U U.heap ∧ w_C (va_A [(h0, .inr (11, fs_h0)), (qC, .inr (2, fs_qC))] sz) U U.heap)) (va_Qi (fun (r : Int32) (_ : Unit) => r = 2) (fun _ t => va_P (dC, dI) vwCl [] t.heap ∧ va_K (dC, dI) vwCl [] t ∧ va_D (va_A [(h0, .inr (11, fs_h0)), (qC, .inr (2, fs_qC))] sz) []) (va_A [(h0, .inr (11, fs_h0)), (qC, .inr (2, fs_qC))] sz)) (vx_X (fun _ : Unit => False) (fun E _ _ => E = "java/lang/IllegalStateException") (va_A [(h0, .inr (11, fs_h0)), (qC, .inr (2, fs_qC))] sz)) 1 6 (va_A [(h0, .inr (11, fs_h0)), (qC, .inr (2, fs_qC))] sz) := by
  refine vx_ofWH (cc := cL_wave) (maxL := 5) (ret := (some .int)) (by decide) rfl ?_
  intro p e s m args below meth c s₁ B hml hv
  obtain ⟨rfl, hsz, hP, hK, hD0, hN, hT, hC⟩ := hv
  have hx := B.exec
  have hb := B.bytes
  have hr := B.returns
  have hts := atoms_spec (ws := wv_l_wave) B.pre
  have hown : s.vm.findClass RL = some m.cls := findClass_of_methodNamed B.named
  have hlocks := B.notSynchronized
  have htab := vx_table (x := yL_wave) B (hts _ (List.mem_of_getElem? (i := 0) rfl))
  subst hsz
  have hD := hD0.self (sz := s.heap.size)
  generalize hAe : va_A [(h0, .inr (11, fs_h0)), (qC, .inr (2, fs_qC))] s.heap.size = A at hD hT hC ⊢
  have hA : ∀ q : Nat, s.heap.size ≤ q → A q := fun q h => by rw [← hAe]; exact Or.inr h
  obtain ⟨H, hHe, hP, hS⟩ : ∃ H : Heap, H = s.heap ∧ va_P (dC, dI) vwCl [(h0, .inr (11, fs_h0)), (qC, .inr (2, fs_qC))] H ∧ va_S A s.heap H [] := ⟨s.heap, rfl, hP, va_S.rf⟩
  have hl := lv_entry ([.ref h0, .int x0, .int x1, .ref qo]) (n := 5) (Nat.le_of_ble_eq_true rfl)
  rw [lg_entry_eq]
  generalize (lg_sl ([.ref h0, .int x0, .int x1, .ref qo]) ++ List.replicate (5 - (lg_sl ([.ref h0, .int x0, .int x1, .ref qo])).length) Slot.unset).toArray = ls at hl ⊢
  have hl : lv_has ls 5 [(0, .ref h0), (1, .int x0), (2, .int x1), (3, .ref qo)] := hl
  rw [← hHe]; clear hHe
  refine lv_aload_n hx hb dL_wave_0 rfl (lv_at hl 3 rfl) ?_
  refine lv_iconst (v := 0) hx hb dL_wave_1 (by decide) ?_
  refine lv_aload_n hx hb dL_wave_2 rfl (lv_at hl 0 rfl) ?_
  refine lv_iload_n hx hb dL_wave_3 rfl (lv_at hl 1 rfl) ?_
  refine lv_iload_n hx hb dL_wave_4 rfl (lv_at hl 2 rfl) ?_
  have hPc := hP.sub (ws' := [(h0, .inr (11, fs_h0)), (qC, .inr (2, fs_qC))]) [0, 1] rfl
  have hDc := hD.sub (ws' := [(h0, .inr (11, fs_h0)), (qC, .inr (2, fs_qC))]) [0, 1] (by decide) rfl
  have hKc := hK.sub (tys' := []) [] rfl
  have hFc := va_free (wc := [(h0, .inr (11, fs_h0)), (qC, .inr (2, fs_qC))]) hD hS hA [0, 1] rfl
  refine vx_calli (vx_runV (As := [.int x0, .int x1]) (rest := [.int 0, .ref qo]) ⟨hx, hb, hml, hown, hts⟩ (c_f_wave l hlt dC dI h0 qC x0 x1 fs_h0 fs_qC (mF.sub hF_h0 [0] rfl) (mF.sub hF_qC [0] rfl) H.size) (cwV 2 hts g_l_wave_f_wave_96 rfl rfl rfl hv_X11_wave ⟨Nat.le_of_ble_eq_true rfl, Nat.le_of_ble_eq_true rfl⟩) ⟨fun a U g mk q => by obtain ⟨q0, q1, qP, qK, qD, qE0, qE1⟩ := q; exact ⟨q0, q1, qP, va_K.moved (u := U) (U := U.calling g mk a) (Vm.Alike.refl U.vm) qK, qD, w_N.same rfl qE0, w_T.same rfl rfl qE1⟩, va_recv hKc hPc (ci := 11) (q0 := 0) rfl rfl, fun U hU hW => ⟨rfl, by rw [hU], by rw [hU]; exact hPc, va_K.moved hW.alike hKc, hDc.weaken (fun _ _ _ _ => trivial), w_N.warm hW hN, w_T.go hT hW hS.2.1 hFc hU⟩⟩ rfl rfl hl.1 rfl (lv_room (Nat.le_of_ble_eq_true rfl)) dL_wave_5 ⟨(Nat.le_of_ble_eq_true rfl), (Nat.le_of_ble_eq_true rfl)⟩) hS (fun q _ h => hFc q h) hFc (fun q _ h => hFc q h) (fun E9 ce9 q9 u t H1 locs1 ht hvm hpx hBX hz1 hk1 hS1 hcell9 hv9 hcl9 => ?_) (fun r_1 u t H1 locs1 ht hvm hw hB hz1 hk1 hS1 => ?_)
  · skip
    obtain rfl : E9 = "java/lang/IllegalStateException" := hBX
    have hJ := va_join (wr := []) (w1 := []) hP hD [0, 1] [] rfl rfl (by decide) (by decide) hk1 hFc w_nilP w_nilD
    refine vx_catch (own := RL) (name := "java/lang/IllegalStateException") hown [⟨0, 10, 13, 13⟩] ⟨0, 10, 17, 18⟩ [] (htab.trans rfl) ?hps (by decide) (by decide) (hts (.classLink RL 18 "java/lang/IllegalStateException") (List.mem_of_getElem? (i := 6) rfl)) (va_Nw.use rfl (hT.2.2.2.1 _ (List.mem_of_getElem? (i := 0) rfl))) hcell9 hv9 hcl9 ?_
    case hps =>
      intro z hz
      simp only [List.mem_cons, List.not_mem_nil, or_false] at hz
      rcases hz with rfl
      · exact Or.inr ⟨by decide, "java/lang/IllegalArgumentException", (hts (.classLink RL 13 "java/lang/IllegalArgumentException") (List.mem_of_getElem? (i := 5) rfl)), hC.2⟩
    have hxf_2 : True := hpx; clear hpx
    clear hP hD; obtain ⟨hP, hD⟩ := hJ
    clear hS; revert hS1; intro hS
    clear ht; generalize H1 = H at hP hS ⊢
    replace hP : va_P (dC, dI) vwCl [] H := hP
    replace hD : va_D A [] := hD
    replace hK : va_K (dC, dI) vwCl [] s := hK
    refine W.eq (g2 := F0 m 17 ls [.ref q9]) rfl ?_
    refine lv_astore (lv' := [(4, .ref q9), (0, .ref h0), (1, .int x0), (2, .int x1), (3, .ref qo)]) hx hb dL_wave_17 hl (by decide) rfl (fun ls hl => ?_)
    refine lv_iconst (v := 2) hx hb dL_wave_19 (by decide) ?_
    have hP9 := hP.sub (ws' := []) [] rfl
    have hD9 := hD.sub (ws' := []) [] (by decide) rfl
    have hK9 := hK.sub (tys' := []) [] rfl
    rw [← hAe] at hD9
    refine W.widen (k := 1) (n := 6) (Nat.le_of_ble_eq_true rfl) (Nat.le_of_ble_eq_true rfl) ?_
    subst hAe
    exact vx_ret (W.iret (v := 2) hx hb hr (fun t ht hW => ⟨⟨2, (), rfl, rfl, by rw [ht]; exact hP9, va_K.moved hW.alike hK9, hD9⟩, hS.F ht⟩) hS.2.2 dL_wave_20)
  · skip
    exact (hw : False).elim
def wv_l_lines : List Cond := .codeWith yL_lines cL_lines 4 (some .int) [(0, 9, 12, 13), (0, 9, 15, 18)] :: ([.methodLink RL 99 yX11_lines, .instanceMethod yX11_lines, .selects RX11 yX11_lines yX11_lines, .initialized RX11, .classLink RL 13 "java/lang/IllegalArgumentException", .classLink RL 18 "java/lang/IllegalStateException"] ++ (wv_f_lines ++ ([])))
theorem gw_l_lines : wv_l_lines.all goodWord = true := by decide +kernel
theorem g_l_lines_f_lines_99 : GoodIn wv_l_lines (wsV RL 99 RX11 yX11_lines wv_f_lines) := goodIn_app (goodIn_of _ (by decide +kernel)) (goodIn_sub (fun _ h => List.mem_cons_of_mem _ (List.mem_append_right _ (List.mem_append_left _ h))) gw_f_lines)
set_option maxHeartbeats 4000000 in
set_option maxRecDepth 100000 in
/-- the law: lines on a fresh object -/
theorem c_l_lines (l : Launch) (hlt : l.stackTraces = false) (dC : Nat → ClassId) (dI : Nat → Nat → Nat) (h0 : Nat) (qC : Nat) (qo : Nat) (x0 : Int32) (fs_h0 : List Value) (fs_qC : List Value) (hF_h0 : mF 19 [(7, .ref qC)] fs_h0) (hF_qC : mF 13 [(8, .int 0)] fs_qC) (sz : Nat) : vx_Met l yL_lines wv_l_lines ({ frames := 8, cells := 1, slots := 6, locals := 131 }) (va_Pc [.ref h0, .int x0, .ref qo] (fun U => U.heap.size = sz ∧ va_P (dC, dI) vwCl [(h0, .inr (11, fs_h0)), (qC, .inr (2, fs_qC))] U.heap ∧ va_K (dC, dI) vwCl [] U ∧ va_D (fun _ => True) [(h0, .inr (11, fs_h0)), (qC, .inr (2, fs_qC))] ∧ w_N U ∧ w_T (va_A [(h0, .inr (11, fs_h0)), (qC, .inr (2, fs_qC))] sz) U U.heap ∧ w_C (va_A [(h0, .inr (11, fs_h0)), (qC, .inr (2, fs_qC))] sz) U U.heap)) (va_Qi (fun (r : Int32) (_ : Unit) => r = 2) (fun _ t => va_P (dC, dI) vwCl [] t.heap ∧ va_K (dC, dI) vwCl [] t ∧ va_D (va_A [(h0, .inr (11, fs_h0)), (qC, .inr (2, fs_qC))] sz) []) (va_A [(h0, .inr (11, fs_h0)), (qC, .inr (2, fs_qC))] sz)) (vx_X (fun _ : Unit => False) (fun E _ _ => E = "java/lang/IllegalStateException") (va_A [(h0, .inr (11, fs_h0)), (qC, .inr (2, fs_qC))] sz)) 1 6 (va_A [(h0, .inr (11, fs_h0)), (qC, .inr (2, fs_qC))] sz) := by
  refine vx_ofWH (cc := cL_lines) (maxL := 4) (ret := (some .int)) (by decide) rfl ?_
  intro p e s m args below meth c s₁ B hml hv
  obtain ⟨rfl, hsz, hP, hK, hD0, hN, hT, hC⟩ := hv
  have hx := B.exec
  have hb := B.bytes
  have hr := B.returns
  have hts := atoms_spec (ws := wv_l_lines) B.pre
  have hown : s.vm.findClass RL = some m.cls := findClass_of_methodNamed B.named
  have hlocks := B.notSynchronized
  have htab := vx_table (x := yL_lines) B (hts _ (List.mem_of_getElem? (i := 0) rfl))
  subst hsz
  have hD := hD0.self (sz := s.heap.size)
  generalize hAe : va_A [(h0, .inr (11, fs_h0)), (qC, .inr (2, fs_qC))] s.heap.size = A at hD hT hC ⊢
  have hA : ∀ q : Nat, s.heap.size ≤ q → A q := fun q h => by rw [← hAe]; exact Or.inr h
  obtain ⟨H, hHe, hP, hS⟩ : ∃ H : Heap, H = s.heap ∧ va_P (dC, dI) vwCl [(h0, .inr (11, fs_h0)), (qC, .inr (2, fs_qC))] H ∧ va_S A s.heap H [] := ⟨s.heap, rfl, hP, va_S.rf⟩
  have hl := lv_entry ([.ref h0, .int x0, .ref qo]) (n := 4) (Nat.le_of_ble_eq_true rfl)
  rw [lg_entry_eq]
  generalize (lg_sl ([.ref h0, .int x0, .ref qo]) ++ List.replicate (4 - (lg_sl ([.ref h0, .int x0, .ref qo])).length) Slot.unset).toArray = ls at hl ⊢
  have hl : lv_has ls 4 [(0, .ref h0), (1, .int x0), (2, .ref qo)] := hl
  rw [← hHe]; clear hHe
  refine lv_aload_n hx hb dL_lines_0 rfl (lv_at hl 2 rfl) ?_
  refine lv_iconst (v := 0) hx hb dL_lines_1 (by decide) ?_
  refine lv_aload_n hx hb dL_lines_2 rfl (lv_at hl 0 rfl) ?_
  refine lv_iload_n hx hb dL_lines_3 rfl (lv_at hl 1 rfl) ?_
  have hPc := hP.sub (ws' := [(h0, .inr (11, fs_h0)), (qC, .inr (2, fs_qC))]) [0, 1] rfl
  have hDc := hD.sub (ws' := [(h0, .inr (11, fs_h0)), (qC, .inr (2, fs_qC))]) [0, 1] (by decide) rfl
  have hKc := hK.sub (tys' := []) [] rfl
  have hFc := va_free (wc := [(h0, .inr (11, fs_h0)), (qC, .inr (2, fs_qC))]) hD hS hA [0, 1] rfl
  refine vx_calli (vx_runV (As := [.int x0]) (rest := [.int 0, .ref qo]) ⟨hx, hb, hml, hown, hts⟩ (c_f_lines l hlt dC dI h0 qC x0 fs_h0 fs_qC (mF.sub hF_h0 [0] rfl) (mF.sub hF_qC [0] rfl) H.size) (cwV 1 hts g_l_lines_f_lines_99 rfl rfl rfl hv_X11_lines ⟨Nat.le_of_ble_eq_true rfl, Nat.le_of_ble_eq_true rfl⟩) ⟨fun a U g mk q => by obtain ⟨q0, q1, qP, qK, qD, qE0, qE1⟩ := q; exact ⟨q0, q1, qP, va_K.moved (u := U) (U := U.calling g mk a) (Vm.Alike.refl U.vm) qK, qD, w_N.same rfl qE0, w_T.same rfl rfl qE1⟩, va_recv hKc hPc (ci := 11) (q0 := 0) rfl rfl, fun U hU hW => ⟨rfl, by rw [hU], by rw [hU]; exact hPc, va_K.moved hW.alike hKc, hDc.weaken (fun _ _ _ _ => trivial), w_N.warm hW hN, w_T.go hT hW hS.2.1 hFc hU⟩⟩ rfl rfl hl.1 rfl (lv_room (Nat.le_of_ble_eq_true rfl)) dL_lines_4 ⟨(Nat.le_of_ble_eq_true rfl), (Nat.le_of_ble_eq_true rfl)⟩) hS (fun q _ h => hFc q h) hFc (fun q _ h => hFc q h) (fun E9 ce9 q9 u t H1 locs1 ht hvm hpx hBX hz1 hk1 hS1 hcell9 hv9 hcl9 => ?_) (fun r_1 u t H1 locs1 ht hvm hw hB hz1 hk1 hS1 => ?_)
  · skip
    obtain rfl : E9 = "java/lang/IllegalStateException" := hBX
    have hJ := va_join (wr := []) (w1 := []) hP hD [0, 1] [] rfl rfl (by decide) (by decide) hk1 hFc w_nilP w_nilD
    refine vx_catch (own := RL) (name := "java/lang/IllegalStateException") hown [⟨0, 9, 12, 13⟩] ⟨0, 9, 15, 18⟩ [] (htab.trans rfl) ?hps (by decide) (by decide) (hts (.classLink RL 18 "java/lang/IllegalStateException") (List.mem_of_getElem? (i := 6) rfl)) (va_Nw.use rfl (hT.2.2.2.1 _ (List.mem_of_getElem? (i := 0) rfl))) hcell9 hv9 hcl9 ?_
    case hps =>
      intro z hz
      simp only [List.mem_cons, List.not_mem_nil, or_false] at hz
      rcases hz with rfl
      · exact Or.inr ⟨by decide, "java/lang/IllegalArgumentException", (hts (.classLink RL 13 "java/lang/IllegalArgumentException") (List.mem_of_getElem? (i := 5) rfl)), hC.2⟩
    have hxf_2 : True := hpx; clear hpx
    clear hP hD; obtain ⟨hP, hD⟩ := hJ
    clear hS; revert hS1; intro hS
    clear ht; generalize H1 = H at hP hS ⊢
    replace hP : va_P (dC, dI) vwCl [] H := hP
    replace hD : va_D A [] := hD
    replace hK : va_K (dC, dI) vwCl [] s := hK
    refine W.eq (g2 := F0 m 15 ls [.ref q9]) rfl ?_
    refine lv_astore_n (lv' := [(3, .ref q9), (0, .ref h0), (1, .int x0), (2, .ref qo)]) hx hb dL_lines_15 rfl hl (by decide) rfl (fun ls hl => ?_)
    refine lv_iconst (v := 2) hx hb dL_lines_16 (by decide) ?_
    have hP9 := hP.sub (ws' := []) [] rfl
    have hD9 := hD.sub (ws' := []) [] (by decide) rfl
    have hK9 := hK.sub (tys' := []) [] rfl
    rw [← hAe] at hD9
    refine W.widen (k := 1) (n := 6) (Nat.le_of_ble_eq_true rfl) (Nat.le_of_ble_eq_true rfl) ?_
    subst hAe
    exact vx_ret (W.iret (v := 2) hx hb hr (fun t ht hW => ⟨⟨2, (), rfl, rfl, by rw [ht]; exact hP9, va_K.moved hW.alike hK9, hD9⟩, hS.F ht⟩) hS.2.2 dL_lines_17)
  · skip
    exact (hw : False).elim
