theorem hv_X13_adds : yX13_adds.cls = RX13 ∧ yX13_adds.cls ≠ "java/lang/invoke/MethodHandle" ∧ yX13_adds.cls ≠ "java/lang/invoke/VarHandle" ∧ (parseMethodDescriptor yX13_adds.desc).map (fun d => d.parameters.length) = some 2 := by decide +kernel
theorem hv_X13_clear : yX13_clear.cls = RX13 ∧ yX13_clear.cls ≠ "java/lang/invoke/MethodHandle" ∧ yX13_clear.cls ≠ "java/lang/invoke/VarHandle" ∧ (parseMethodDescriptor yX13_clear.desc).map (fun d => d.parameters.length) = some 0 := by decide +kernel
theorem hv_X13_found : yX13_found.cls = RX13 ∧ yX13_found.cls ≠ "java/lang/invoke/MethodHandle" ∧ yX13_found.cls ≠ "java/lang/invoke/VarHandle" ∧ (parseMethodDescriptor yX13_found.desc).map (fun d => d.parameters.length) = some 1 := by decide +kernel
theorem hv_X13_of : yX13_of.cls = RX13 ∧ yX13_of.cls ≠ "java/lang/invoke/MethodHandle" ∧ yX13_of.cls ≠ "java/lang/invoke/VarHandle" ∧ (parseMethodDescriptor yX13_of.desc).map (fun d => d.parameters.length) = some 1 := by decide +kernel
theorem hv_X13_placeOf : yX13_placeOf.cls = RX13 ∧ yX13_placeOf.cls ≠ "java/lang/invoke/MethodHandle" ∧ yX13_placeOf.cls ≠ "java/lang/invoke/VarHandle" ∧ (parseMethodDescriptor yX13_placeOf.desc).map (fun d => d.parameters.length) = some 1 := by decide +kernel
theorem hv_X13_terms : yX13_terms.cls = RX13 ∧ yX13_terms.cls ≠ "java/lang/invoke/MethodHandle" ∧ yX13_terms.cls ≠ "java/lang/invoke/VarHandle" ∧ (parseMethodDescriptor yX13_terms.desc).map (fun d => d.parameters.length) = some 0 := by decide +kernel
theorem hv_X15_bad : yX15_bad.cls = RX15 ∧ yX15_bad.cls ≠ "java/lang/invoke/MethodHandle" ∧ yX15_bad.cls ≠ "java/lang/invoke/VarHandle" ∧ (parseMethodDescriptor yX15_bad.desc).map (fun d => d.parameters.length) = some 2 := by decide +kernel
theorem hv_X15_blanks : yX15_blanks.cls = RX15 ∧ yX15_blanks.cls ≠ "java/lang/invoke/MethodHandle" ∧ yX15_blanks.cls ≠ "java/lang/invoke/VarHandle" ∧ (parseMethodDescriptor yX15_blanks.desc).map (fun d => d.parameters.length) = some 0 := by decide +kernel
theorem hv_X15_byteAt : yX15_byteAt.cls = RX15 ∧ yX15_byteAt.cls ≠ "java/lang/invoke/MethodHandle" ∧ yX15_byteAt.cls ≠ "java/lang/invoke/VarHandle" ∧ (parseMethodDescriptor yX15_byteAt.desc).map (fun d => d.parameters.length) = some 1 := by decide +kernel
theorem hv_X15_ends : yX15_ends.cls = RX15 ∧ yX15_ends.cls ≠ "java/lang/invoke/MethodHandle" ∧ yX15_ends.cls ≠ "java/lang/invoke/VarHandle" ∧ (parseMethodDescriptor yX15_ends.desc).map (fun d => d.parameters.length) = some 0 := by decide +kernel
theorem hv_X15_highest : yX15_highest.cls = RX15 ∧ yX15_highest.cls ≠ "java/lang/invoke/MethodHandle" ∧ yX15_highest.cls ≠ "java/lang/invoke/VarHandle" ∧ (parseMethodDescriptor yX15_highest.desc).map (fun d => d.parameters.length) = some 0 := by decide +kernel
theorem hv_X15_starts : yX15_starts.cls = RX15 ∧ yX15_starts.cls ≠ "java/lang/invoke/MethodHandle" ∧ yX15_starts.cls ≠ "java/lang/invoke/VarHandle" ∧ (parseMethodDescriptor yX15_starts.desc).map (fun d => d.parameters.length) = some 1 := by decide +kernel
theorem hv_X15_wordHere : yX15_wordHere.cls = RX15 ∧ yX15_wordHere.cls ≠ "java/lang/invoke/MethodHandle" ∧ yX15_wordHere.cls ≠ "java/lang/invoke/VarHandle" ∧ (parseMethodDescriptor yX15_wordHere.desc).map (fun d => d.parameters.length) = some 0 := by decide +kernel
theorem hv_X15_wrong : yX15_wrong.cls = RX15 ∧ yX15_wrong.cls ≠ "java/lang/invoke/MethodHandle" ∧ yX15_wrong.cls ≠ "java/lang/invoke/VarHandle" ∧ (parseMethodDescriptor yX15_wrong.desc).map (fun d => d.parameters.length) = some 2 := by decide +kernel
theorem dX15_bad_0 : decode cX15_bad 0 = .ok (.iload_n 1, 1) := by decide +kernel
theorem dX15_bad_1 : decode cX15_bad 1 = .ok (.ifCond .eq 15, 3) := by decide +kernel
theorem dX15_bad_4 : decode cX15_bad 4 = .ok (.aload_n 0, 1) := by decide +kernel
theorem dX15_bad_5 : decode cX15_bad 5 = .ok (.getfield 296, 3) := by decide +kernel
theorem dX15_bad_8 : decode cX15_bad 8 = .ok (.ifCond .ne 8, 3) := by decide +kernel
theorem dX15_bad_11 : decode cX15_bad 11 = .ok (.aload_n 0, 1) := by decide +kernel
theorem dX15_bad_12 : decode cX15_bad 12 = .ok (.iload_n 2, 1) := by decide +kernel
theorem dX15_bad_13 : decode cX15_bad 13 = .ok (.putfield 296, 3) := by decide +kernel
theorem dX15_bad_16 : decode cX15_bad 16 = .ok (.aload_n 0, 1) := by decide +kernel
theorem dX15_bad_17 : decode cX15_bad 17 = .ok (.getfield 296, 3) := by decide +kernel
theorem dX15_bad_20 : decode cX15_bad 20 = .ok (.ifCond .eq 7, 3) := by decide +kernel
theorem dX15_bad_23 : decode cX15_bad 23 = .ok (.iconst 1, 1) := by decide +kernel
theorem dX15_bad_24 : decode cX15_bad 24 = .ok (.goto 4, 3) := by decide +kernel
theorem dX15_bad_28 : decode cX15_bad 28 = .ok (.ireturn, 1) := by decide +kernel
theorem dX15_bad_27 : decode cX15_bad 27 = .ok (.iconst 0, 1) := by decide +kernel
theorem dX15_in_0 : decode cX15_in 0 = .ok (.iload_n 0, 1) := by decide +kernel
theorem dX15_in_1 : decode cX15_in 1 = .ok (.iload_n 1, 1) := by decide +kernel
theorem dX15_in_2 : decode cX15_in 2 = .ok (.if_icmp .lt 12, 3) := by decide +kernel
theorem dX15_in_14 : decode cX15_in 14 = .ok (.iconst 0, 1) := by decide +kernel
theorem dX15_in_15 : decode cX15_in 15 = .ok (.ireturn, 1) := by decide +kernel
theorem dX15_in_5 : decode cX15_in 5 = .ok (.iload_n 0, 1) := by decide +kernel
theorem dX15_in_6 : decode cX15_in 6 = .ok (.iload_n 2, 1) := by decide +kernel
theorem dX15_in_7 : decode cX15_in 7 = .ok (.if_icmp .gt 7, 3) := by decide +kernel
theorem dX15_in_10 : decode cX15_in 10 = .ok (.iconst 1, 1) := by decide +kernel
theorem dX15_in_11 : decode cX15_in 11 = .ok (.goto 4, 3) := by decide +kernel
theorem dX15_thrown_0 : decode cX15_thrown 0 = .ok (.aload_n 0, 1) := by decide +kernel
theorem dX15_thrown_1 : decode cX15_thrown 1 = .ok (.getfield 296, 3) := by decide +kernel
theorem dX15_thrown_4 : decode cX15_thrown 4 = .ok (.ireturn, 1) := by decide +kernel
theorem dX15_rest_0 : decode cX15_rest 0 = .ok (.aload_n 0, 1) := by decide +kernel
theorem dX15_rest_1 : decode cX15_rest 1 = .ok (.iconst 0, 1) := by decide +kernel
theorem dX15_rest_2 : decode cX15_rest 2 = .ok (.putfield 296, 3) := by decide +kernel
theorem dX15_rest_5 : decode cX15_rest 5 = .ok (.aload_n 0, 1) := by decide +kernel
theorem dX15_rest_6 : decode cX15_rest 6 = .ok (.aload_n 0, 1) := by decide +kernel
theorem dX15_rest_7 : decode cX15_rest 7 = .ok (.getfield 443, 3) := by decide +kernel
theorem dX15_rest_10 : decode cX15_rest 10 = .ok (.ifCond .ne 7, 3) := by decide +kernel
theorem dX15_rest_13 : decode cX15_rest 13 = .ok (.iconst 1, 1) := by decide +kernel
theorem dX15_rest_14 : decode cX15_rest 14 = .ok (.goto 4, 3) := by decide +kernel
theorem dX15_rest_18 : decode cX15_rest 18 = .ok (.iconst 2, 1) := by decide +kernel
theorem dX15_rest_19 : decode cX15_rest 19 = .ok (.invokevirtual 424, 3) := by decide +kernel
theorem dX15_rest_22 : decode cX15_rest 22 = .ok (.ifCond .ne 25, 3) := by decide +kernel
theorem dX15_rest_47 : decode cX15_rest 47 = .ok (.iconst 0, 1) := by decide +kernel
theorem dX15_rest_48 : decode cX15_rest 48 = .ok (.ireturn, 1) := by decide +kernel
theorem dX15_leaves_0 : decode cX15_leaves 0 = .ok (.aload_n 0, 1) := by decide +kernel
theorem dX15_leaves_1 : decode cX15_leaves 1 = .ok (.iconst 0, 1) := by decide +kernel
theorem dX15_leaves_2 : decode cX15_leaves 2 = .ok (.putfield 296, 3) := by decide +kernel
theorem dX15_leaves_5 : decode cX15_leaves 5 = .ok (.aload_n 0, 1) := by decide +kernel
theorem dX15_leaves_6 : decode cX15_leaves 6 = .ok (.aload_n 0, 1) := by decide +kernel
theorem dX15_leaves_7 : decode cX15_leaves 7 = .ok (.getfield 443, 3) := by decide +kernel
theorem dX15_leaves_10 : decode cX15_leaves 10 = .ok (.ifCond .ne 7, 3) := by decide +kernel
theorem dX15_leaves_13 : decode cX15_leaves 13 = .ok (.iconst 1, 1) := by decide +kernel
theorem dX15_leaves_14 : decode cX15_leaves 14 = .ok (.goto 4, 3) := by decide +kernel
theorem dX15_leaves_18 : decode cX15_leaves 18 = .ok (.iconst 1, 1) := by decide +kernel
theorem dX15_leaves_19 : decode cX15_leaves 19 = .ok (.invokevirtual 424, 3) := by decide +kernel
theorem dX15_leaves_22 : decode cX15_leaves 22 = .ok (.ifCond .eq 5, 3) := by decide +kernel
theorem dX15_leaves_25 : decode cX15_leaves 25 = .ok (.iconst 0, 1) := by decide +kernel
theorem dX15_leaves_26 : decode cX15_leaves 26 = .ok (.ireturn, 1) := by decide +kernel
theorem dX15_fields_0 : decode cX15_fields 0 = .ok (.aload_n 0, 1) := by decide +kernel
theorem dX15_fields_1 : decode cX15_fields 1 = .ok (.iconst 0, 1) := by decide +kernel
theorem dX15_fields_2 : decode cX15_fields 2 = .ok (.putfield 296, 3) := by decide +kernel
theorem dX15_fields_5 : decode cX15_fields 5 = .ok (.aload_n 0, 1) := by decide +kernel
theorem dX15_fields_6 : decode cX15_fields 6 = .ok (.aload_n 0, 1) := by decide +kernel
theorem dX15_fields_7 : decode cX15_fields 7 = .ok (.getfield 443, 3) := by decide +kernel
theorem dX15_fields_10 : decode cX15_fields 10 = .ok (.ifCond .ne 7, 3) := by decide +kernel
theorem dX15_fields_13 : decode cX15_fields 13 = .ok (.iconst 1, 1) := by decide +kernel
theorem dX15_fields_14 : decode cX15_fields 14 = .ok (.goto 4, 3) := by decide +kernel
theorem dX15_fields_18 : decode cX15_fields 18 = .ok (.iconst 2, 1) := by decide +kernel
theorem dX15_fields_19 : decode cX15_fields 19 = .ok (.invokevirtual 424, 3) := by decide +kernel
theorem dX15_fields_22 : decode cX15_fields 22 = .ok (.ifCond .ne 24, 3) := by decide +kernel
theorem dX15_fields_46 : decode cX15_fields 46 = .ok (.iconst 0, 1) := by decide +kernel
theorem dX15_fields_47 : decode cX15_fields 47 = .ok (.ireturn, 1) := by decide +kernel
theorem dX15_number_0 : decode cX15_number 0 = .ok (.aload_n 0, 1) := by decide +kernel
theorem dX15_number_1 : decode cX15_number 1 = .ok (.iconst 0, 1) := by decide +kernel
theorem dX15_number_2 : decode cX15_number 2 = .ok (.putfield 296, 3) := by decide +kernel
theorem dX15_number_5 : decode cX15_number 5 = .ok (.aload_n 0, 1) := by decide +kernel
theorem dX15_number_6 : decode cX15_number 6 = .ok (.aload_n 0, 1) := by decide +kernel
theorem dX15_number_7 : decode cX15_number 7 = .ok (.getfield 443, 3) := by decide +kernel
theorem dX15_number_10 : decode cX15_number 10 = .ok (.ifCond .ne 7, 3) := by decide +kernel
theorem dX15_number_13 : decode cX15_number 13 = .ok (.iconst 1, 1) := by decide +kernel
theorem dX15_number_14 : decode cX15_number 14 = .ok (.goto 4, 3) := by decide +kernel
theorem dX15_number_18 : decode cX15_number 18 = .ok (.iconst 3, 1) := by decide +kernel
theorem dX15_number_19 : decode cX15_number 19 = .ok (.invokevirtual 424, 3) := by decide +kernel
theorem dX15_number_22 : decode cX15_number 22 = .ok (.ifCond .ne 24, 3) := by decide +kernel
theorem dX15_number_46 : decode cX15_number 46 = .ok (.lconst 0, 1) := by decide +kernel
theorem dX15_number_47 : decode cX15_number 47 = .ok (.lreturn, 1) := by decide +kernel
theorem dX15_within_0 : decode cX15_within 0 = .ok (.aload_n 0, 1) := by decide +kernel
theorem dX15_within_1 : decode cX15_within 1 = .ok (.iconst 0, 1) := by decide +kernel
theorem dX15_within_2 : decode cX15_within 2 = .ok (.putfield 296, 3) := by decide +kernel
theorem dX15_within_5 : decode cX15_within 5 = .ok (.aload_n 0, 1) := by decide +kernel
theorem dX15_within_6 : decode cX15_within 6 = .ok (.aload_n 0, 1) := by decide +kernel
theorem dX15_within_7 : decode cX15_within 7 = .ok (.getfield 443, 3) := by decide +kernel
theorem dX15_within_10 : decode cX15_within 10 = .ok (.ifCond .ne 7, 3) := by decide +kernel
theorem dX15_within_13 : decode cX15_within 13 = .ok (.iconst 1, 1) := by decide +kernel
theorem dX15_within_14 : decode cX15_within 14 = .ok (.goto 4, 3) := by decide +kernel
theorem dX15_within_18 : decode cX15_within 18 = .ok (.iconst 2, 1) := by decide +kernel
theorem dX15_within_19 : decode cX15_within 19 = .ok (.invokevirtual 424, 3) := by decide +kernel
theorem dX15_within_22 : decode cX15_within 22 = .ok (.ifCond .ne 24, 3) := by decide +kernel
theorem dX15_within_46 : decode cX15_within 46 = .ok (.iconst 0, 1) := by decide +kernel
theorem dX15_within_47 : decode cX15_within 47 = .ok (.ireturn, 1) := by decide +kernel
theorem dX15_closed_0 : decode cX15_closed 0 = .ok (.aload_n 0, 1) := by decide +kernel
theorem dX15_closed_1 : decode cX15_closed 1 = .ok (.iconst 0, 1) := by decide +kernel
theorem dX15_closed_2 : decode cX15_closed 2 = .ok (.putfield 296, 3) := by decide +kernel
theorem dX15_closed_5 : decode cX15_closed 5 = .ok (.aload_n 0, 1) := by decide +kernel
theorem dX15_closed_6 : decode cX15_closed 6 = .ok (.aload_n 0, 1) := by decide +kernel
theorem dX15_closed_7 : decode cX15_closed 7 = .ok (.getfield 443, 3) := by decide +kernel
theorem dX15_closed_10 : decode cX15_closed 10 = .ok (.ifCond .ne 7, 3) := by decide +kernel
theorem dX15_closed_13 : decode cX15_closed 13 = .ok (.iconst 1, 1) := by decide +kernel
theorem dX15_closed_14 : decode cX15_closed 14 = .ok (.goto 4, 3) := by decide +kernel
theorem dX15_closed_18 : decode cX15_closed 18 = .ok (.iconst 2, 1) := by decide +kernel
theorem dX15_closed_19 : decode cX15_closed 19 = .ok (.invokevirtual 424, 3) := by decide +kernel
theorem dX15_closed_22 : decode cX15_closed 22 = .ok (.ifCond .ne 24, 3) := by decide +kernel
theorem dX15_closed_46 : decode cX15_closed 46 = .ok (.iconst 0, 1) := by decide +kernel
theorem dX15_closed_47 : decode cX15_closed 47 = .ok (.ireturn, 1) := by decide +kernel
theorem dX15_constant_0 : decode cX15_constant 0 = .ok (.aload_n 0, 1) := by decide +kernel
theorem dX15_constant_1 : decode cX15_constant 1 = .ok (.iconst 0, 1) := by decide +kernel
theorem dX15_constant_2 : decode cX15_constant 2 = .ok (.putfield 296, 3) := by decide +kernel
theorem dX15_constant_5 : decode cX15_constant 5 = .ok (.aload_n 0, 1) := by decide +kernel
theorem dX15_constant_6 : decode cX15_constant 6 = .ok (.aload_n 0, 1) := by decide +kernel
theorem dX15_constant_7 : decode cX15_constant 7 = .ok (.getfield 443, 3) := by decide +kernel
theorem dX15_constant_10 : decode cX15_constant 10 = .ok (.ifCond .ne 7, 3) := by decide +kernel
theorem dX15_constant_13 : decode cX15_constant 13 = .ok (.iconst 1, 1) := by decide +kernel
theorem dX15_constant_14 : decode cX15_constant 14 = .ok (.goto 4, 3) := by decide +kernel
theorem dX15_constant_18 : decode cX15_constant 18 = .ok (.iconst 3, 1) := by decide +kernel
theorem dX15_constant_19 : decode cX15_constant 19 = .ok (.invokevirtual 424, 3) := by decide +kernel
theorem dX15_constant_22 : decode cX15_constant 22 = .ok (.ifCond .ne 24, 3) := by decide +kernel
theorem dX15_constant_46 : decode cX15_constant 46 = .ok (.lconst 0, 1) := by decide +kernel
theorem dX15_constant_47 : decode cX15_constant 47 = .ok (.lreturn, 1) := by decide +kernel
theorem dX15_kind_0 : decode cX15_kind 0 = .ok (.aload_n 0, 1) := by decide +kernel
theorem dX15_kind_1 : decode cX15_kind 1 = .ok (.iconst 0, 1) := by decide +kernel
theorem dX15_kind_2 : decode cX15_kind 2 = .ok (.putfield 296, 3) := by decide +kernel
theorem dX15_kind_5 : decode cX15_kind 5 = .ok (.aload_n 0, 1) := by decide +kernel
theorem dX15_kind_6 : decode cX15_kind 6 = .ok (.aload_n 0, 1) := by decide +kernel
theorem dX15_kind_7 : decode cX15_kind 7 = .ok (.getfield 443, 3) := by decide +kernel
theorem dX15_kind_10 : decode cX15_kind 10 = .ok (.ifCond .ne 7, 3) := by decide +kernel
theorem dX15_kind_13 : decode cX15_kind 13 = .ok (.iconst 1, 1) := by decide +kernel
theorem dX15_kind_14 : decode cX15_kind 14 = .ok (.goto 4, 3) := by decide +kernel
theorem dX15_kind_18 : decode cX15_kind 18 = .ok (.iconst 2, 1) := by decide +kernel
theorem dX15_kind_19 : decode cX15_kind 19 = .ok (.invokevirtual 424, 3) := by decide +kernel
theorem dX15_kind_22 : decode cX15_kind 22 = .ok (.ifCond .ne 33, 3) := by decide +kernel
theorem dX15_kind_55 : decode cX15_kind 55 = .ok (.iconst 0, 1) := by decide +kernel
theorem dX15_kind_56 : decode cX15_kind 56 = .ok (.ireturn, 1) := by decide +kernel
theorem dX15_steps_0 : decode cX15_steps 0 = .ok (.aload_n 0, 1) := by decide +kernel
theorem dX15_steps_1 : decode cX15_steps 1 = .ok (.iconst 0, 1) := by decide +kernel
theorem dX15_steps_2 : decode cX15_steps 2 = .ok (.putfield 296, 3) := by decide +kernel
theorem dX15_steps_5 : decode cX15_steps 5 = .ok (.aload_n 0, 1) := by decide +kernel
theorem dX15_steps_6 : decode cX15_steps 6 = .ok (.aload_n 0, 1) := by decide +kernel
theorem dX15_steps_7 : decode cX15_steps 7 = .ok (.getfield 443, 3) := by decide +kernel
theorem dX15_steps_10 : decode cX15_steps 10 = .ok (.ifCond .ne 7, 3) := by decide +kernel
theorem dX15_steps_13 : decode cX15_steps 13 = .ok (.iconst 1, 1) := by decide +kernel
theorem dX15_steps_14 : decode cX15_steps 14 = .ok (.goto 4, 3) := by decide +kernel
theorem dX15_steps_18 : decode cX15_steps 18 = .ok (.iconst 3, 1) := by decide +kernel
theorem dX15_steps_19 : decode cX15_steps 19 = .ok (.invokevirtual 424, 3) := by decide +kernel
theorem dX15_steps_22 : decode cX15_steps 22 = .ok (.ifCond .ne 24, 3) := by decide +kernel
theorem dX15_steps_46 : decode cX15_steps 46 = .ok (.iconst 0, 1) := by decide +kernel
theorem dX15_steps_47 : decode cX15_steps 47 = .ok (.ireturn, 1) := by decide +kernel
theorem dX15_bracket_0 : decode cX15_bracket 0 = .ok (.aload_n 0, 1) := by decide +kernel
theorem dX15_bracket_1 : decode cX15_bracket 1 = .ok (.iconst 0, 1) := by decide +kernel
theorem dX15_bracket_2 : decode cX15_bracket 2 = .ok (.putfield 296, 3) := by decide +kernel
theorem dX15_bracket_5 : decode cX15_bracket 5 = .ok (.aload_n 0, 1) := by decide +kernel
theorem dX15_bracket_6 : decode cX15_bracket 6 = .ok (.aload_n 0, 1) := by decide +kernel
theorem dX15_bracket_7 : decode cX15_bracket 7 = .ok (.getfield 443, 3) := by decide +kernel
theorem dX15_bracket_10 : decode cX15_bracket 10 = .ok (.ifCond .ne 7, 3) := by decide +kernel
theorem dX15_bracket_13 : decode cX15_bracket 13 = .ok (.iconst 1, 1) := by decide +kernel
theorem dX15_bracket_14 : decode cX15_bracket 14 = .ok (.goto 4, 3) := by decide +kernel
theorem dX15_bracket_18 : decode cX15_bracket 18 = .ok (.iconst 3, 1) := by decide +kernel
theorem dX15_bracket_19 : decode cX15_bracket 19 = .ok (.invokevirtual 424, 3) := by decide +kernel
theorem dX15_bracket_22 : decode cX15_bracket 22 = .ok (.ifCond .ne 24, 3) := by decide +kernel
theorem dX15_bracket_46 : decode cX15_bracket 46 = .ok (.iconst 0, 1) := by decide +kernel
theorem dX15_bracket_47 : decode cX15_bracket 47 = .ok (.ireturn, 1) := by decide +kernel
theorem dX15_stretches_0 : decode cX15_stretches 0 = .ok (.aload_n 0, 1) := by decide +kernel
theorem dX15_stretches_1 : decode cX15_stretches 1 = .ok (.iconst 0, 1) := by decide +kernel
theorem dX15_stretches_2 : decode cX15_stretches 2 = .ok (.putfield 296, 3) := by decide +kernel
theorem dX15_stretches_5 : decode cX15_stretches 5 = .ok (.aload_n 0, 1) := by decide +kernel
theorem dX15_stretches_6 : decode cX15_stretches 6 = .ok (.aload_n 0, 1) := by decide +kernel
theorem dX15_stretches_7 : decode cX15_stretches 7 = .ok (.getfield 443, 3) := by decide +kernel
theorem dX15_stretches_10 : decode cX15_stretches 10 = .ok (.ifCond .ne 7, 3) := by decide +kernel
theorem dX15_stretches_13 : decode cX15_stretches 13 = .ok (.iconst 1, 1) := by decide +kernel
theorem dX15_stretches_14 : decode cX15_stretches 14 = .ok (.goto 4, 3) := by decide +kernel
theorem dX15_stretches_18 : decode cX15_stretches 18 = .ok (.iconst 1, 1) := by decide +kernel
theorem dX15_stretches_19 : decode cX15_stretches 19 = .ok (.invokevirtual 424, 3) := by decide +kernel
theorem dX15_stretches_22 : decode cX15_stretches 22 = .ok (.ifCond .eq 5, 3) := by decide +kernel
theorem dX15_stretches_25 : decode cX15_stretches 25 = .ok (.iconst 0, 1) := by decide +kernel
theorem dX15_stretches_26 : decode cX15_stretches 26 = .ok (.ireturn, 1) := by decide +kernel
theorem dX15_stretch_0 : decode cX15_stretch 0 = .ok (.aload_n 0, 1) := by decide +kernel
theorem dX15_stretch_1 : decode cX15_stretch 1 = .ok (.iconst 0, 1) := by decide +kernel
theorem dX15_stretch_2 : decode cX15_stretch 2 = .ok (.putfield 296, 3) := by decide +kernel
theorem dX15_stretch_5 : decode cX15_stretch 5 = .ok (.aload_n 0, 1) := by decide +kernel
theorem dX15_stretch_6 : decode cX15_stretch 6 = .ok (.aload_n 0, 1) := by decide +kernel
theorem dX15_stretch_7 : decode cX15_stretch 7 = .ok (.getfield 443, 3) := by decide +kernel
theorem dX15_stretch_10 : decode cX15_stretch 10 = .ok (.ifCond .ne 7, 3) := by decide +kernel
theorem dX15_stretch_13 : decode cX15_stretch 13 = .ok (.iconst 1, 1) := by decide +kernel
theorem dX15_stretch_14 : decode cX15_stretch 14 = .ok (.goto 4, 3) := by decide +kernel
theorem dX15_stretch_18 : decode cX15_stretch 18 = .ok (.iconst 3, 1) := by decide +kernel
theorem dX15_stretch_19 : decode cX15_stretch 19 = .ok (.invokevirtual 424, 3) := by decide +kernel
theorem dX15_stretch_22 : decode cX15_stretch 22 = .ok (.ifCond .eq 5, 3) := by decide +kernel
theorem dX15_stretch_25 : decode cX15_stretch 25 = .ok (.iconst 0, 1) := by decide +kernel
theorem dX15_stretch_26 : decode cX15_stretch 26 = .ok (.ireturn, 1) := by decide +kernel
theorem dX15_keeps_0 : decode cX15_keeps 0 = .ok (.aload_n 0, 1) := by decide +kernel
theorem dX15_keeps_1 : decode cX15_keeps 1 = .ok (.iconst 0, 1) := by decide +kernel
theorem dX15_keeps_2 : decode cX15_keeps 2 = .ok (.putfield 296, 3) := by decide +kernel
theorem dX15_keeps_5 : decode cX15_keeps 5 = .ok (.aload_n 0, 1) := by decide +kernel
theorem dX15_keeps_6 : decode cX15_keeps 6 = .ok (.aload_n 0, 1) := by decide +kernel
theorem dX15_keeps_7 : decode cX15_keeps 7 = .ok (.getfield 443, 3) := by decide +kernel
theorem dX15_keeps_10 : decode cX15_keeps 10 = .ok (.ifCond .ne 7, 3) := by decide +kernel
theorem dX15_keeps_13 : decode cX15_keeps 13 = .ok (.iconst 1, 1) := by decide +kernel
theorem dX15_keeps_14 : decode cX15_keeps 14 = .ok (.goto 4, 3) := by decide +kernel
theorem dX15_keeps_18 : decode cX15_keeps 18 = .ok (.iconst 3, 1) := by decide +kernel
theorem dX15_keeps_19 : decode cX15_keeps 19 = .ok (.invokevirtual 424, 3) := by decide +kernel
theorem dX15_keeps_22 : decode cX15_keeps 22 = .ok (.ifCond .eq 5, 3) := by decide +kernel
theorem dX15_keeps_25 : decode cX15_keeps 25 = .ok (.iconst 0, 1) := by decide +kernel
theorem dX15_keeps_26 : decode cX15_keeps 26 = .ok (.ireturn, 1) := by decide +kernel
theorem dX15_sums_0 : decode cX15_sums 0 = .ok (.aload_n 0, 1) := by decide +kernel
theorem dX15_sums_1 : decode cX15_sums 1 = .ok (.iconst 0, 1) := by decide +kernel
theorem dX15_sums_2 : decode cX15_sums 2 = .ok (.putfield 296, 3) := by decide +kernel
theorem dX15_sums_5 : decode cX15_sums 5 = .ok (.aload_n 0, 1) := by decide +kernel
theorem dX15_sums_6 : decode cX15_sums 6 = .ok (.aload_n 0, 1) := by decide +kernel
theorem dX15_sums_7 : decode cX15_sums 7 = .ok (.getfield 443, 3) := by decide +kernel
theorem dX15_sums_10 : decode cX15_sums 10 = .ok (.ifCond .ne 7, 3) := by decide +kernel
theorem dX15_sums_13 : decode cX15_sums 13 = .ok (.iconst 1, 1) := by decide +kernel
theorem dX15_sums_14 : decode cX15_sums 14 = .ok (.goto 4, 3) := by decide +kernel
theorem dX15_sums_18 : decode cX15_sums 18 = .ok (.iconst 2, 1) := by decide +kernel
theorem dX15_sums_19 : decode cX15_sums 19 = .ok (.invokevirtual 424, 3) := by decide +kernel
theorem dX15_sums_22 : decode cX15_sums 22 = .ok (.ifCond .ne 33, 3) := by decide +kernel
theorem dX15_sums_55 : decode cX15_sums 55 = .ok (.iconst 0, 1) := by decide +kernel
theorem dX15_sums_56 : decode cX15_sums 56 = .ok (.ireturn, 1) := by decide +kernel
theorem dX15_sum_0 : decode cX15_sum 0 = .ok (.aload_n 0, 1) := by decide +kernel
theorem dX15_sum_1 : decode cX15_sum 1 = .ok (.iconst 0, 1) := by decide +kernel
theorem dX15_sum_2 : decode cX15_sum 2 = .ok (.putfield 296, 3) := by decide +kernel
theorem dX15_sum_5 : decode cX15_sum 5 = .ok (.aload_n 0, 1) := by decide +kernel
theorem dX15_sum_6 : decode cX15_sum 6 = .ok (.aload_n 0, 1) := by decide +kernel
theorem dX15_sum_7 : decode cX15_sum 7 = .ok (.getfield 443, 3) := by decide +kernel
theorem dX15_sum_10 : decode cX15_sum 10 = .ok (.ifCond .ne 7, 3) := by decide +kernel
theorem dX15_sum_13 : decode cX15_sum 13 = .ok (.iconst 1, 1) := by decide +kernel
theorem dX15_sum_14 : decode cX15_sum 14 = .ok (.goto 4, 3) := by decide +kernel
theorem dX15_sum_18 : decode cX15_sum 18 = .ok (.iconst 3, 1) := by decide +kernel
theorem dX15_sum_19 : decode cX15_sum 19 = .ok (.invokevirtual 424, 3) := by decide +kernel
theorem dX15_sum_22 : decode cX15_sum 22 = .ok (.ifCond .ne 33, 3) := by decide +kernel
theorem dX15_sum_55 : decode cX15_sum 55 = .ok (.lconst 0, 1) := by decide +kernel
theorem dX15_sum_56 : decode cX15_sum 56 = .ok (.lreturn, 1) := by decide +kernel
theorem dX15_solves_0 : decode cX15_solves 0 = .ok (.aload_n 0, 1) := by decide +kernel
theorem dX15_solves_1 : decode cX15_solves 1 = .ok (.iconst 0, 1) := by decide +kernel
theorem dX15_solves_2 : decode cX15_solves 2 = .ok (.putfield 296, 3) := by decide +kernel
theorem dX15_solves_5 : decode cX15_solves 5 = .ok (.aload_n 0, 1) := by decide +kernel
theorem dX15_solves_6 : decode cX15_solves 6 = .ok (.aload_n 0, 1) := by decide +kernel
theorem dX15_solves_7 : decode cX15_solves 7 = .ok (.getfield 443, 3) := by decide +kernel
theorem dX15_solves_10 : decode cX15_solves 10 = .ok (.ifCond .ne 7, 3) := by decide +kernel
theorem dX15_solves_13 : decode cX15_solves 13 = .ok (.iconst 1, 1) := by decide +kernel
theorem dX15_solves_14 : decode cX15_solves 14 = .ok (.goto 4, 3) := by decide +kernel
theorem dX15_solves_18 : decode cX15_solves 18 = .ok (.iconst 1, 1) := by decide +kernel
theorem dX15_solves_19 : decode cX15_solves 19 = .ok (.invokevirtual 424, 3) := by decide +kernel
theorem dX15_solves_22 : decode cX15_solves 22 = .ok (.ifCond .eq 5, 3) := by decide +kernel
theorem dX15_solves_25 : decode cX15_solves 25 = .ok (.iconst 0, 1) := by decide +kernel
theorem dX15_solves_26 : decode cX15_solves 26 = .ok (.ireturn, 1) := by decide +kernel
theorem dX15_left_0 : decode cX15_left 0 = .ok (.aload_n 0, 1) := by decide +kernel
theorem dX15_left_1 : decode cX15_left 1 = .ok (.iconst 0, 1) := by decide +kernel
theorem dX15_left_2 : decode cX15_left 2 = .ok (.putfield 296, 3) := by decide +kernel
theorem dX15_left_5 : decode cX15_left 5 = .ok (.aload_n 0, 1) := by decide +kernel
theorem dX15_left_6 : decode cX15_left 6 = .ok (.aload_n 0, 1) := by decide +kernel
theorem dX15_left_7 : decode cX15_left 7 = .ok (.getfield 443, 3) := by decide +kernel
theorem dX15_left_10 : decode cX15_left 10 = .ok (.ifCond .ne 7, 3) := by decide +kernel
theorem dX15_left_13 : decode cX15_left 13 = .ok (.iconst 1, 1) := by decide +kernel
theorem dX15_left_14 : decode cX15_left 14 = .ok (.goto 4, 3) := by decide +kernel
theorem dX15_left_18 : decode cX15_left 18 = .ok (.iconst 2, 1) := by decide +kernel
theorem dX15_left_19 : decode cX15_left 19 = .ok (.invokevirtual 424, 3) := by decide +kernel
theorem dX15_left_22 : decode cX15_left 22 = .ok (.ifCond .ne 48, 3) := by decide +kernel
theorem dX15_left_70 : decode cX15_left 70 = .ok (.lconst 0, 1) := by decide +kernel
theorem dX15_left_71 : decode cX15_left 71 = .ok (.lreturn, 1) := by decide +kernel
theorem dX15_shifted_0 : decode cX15_shifted 0 = .ok (.aload_n 0, 1) := by decide +kernel
theorem dX15_shifted_1 : decode cX15_shifted 1 = .ok (.iconst 0, 1) := by decide +kernel
theorem dX15_shifted_2 : decode cX15_shifted 2 = .ok (.putfield 296, 3) := by decide +kernel
theorem dX15_shifted_5 : decode cX15_shifted 5 = .ok (.aload_n 0, 1) := by decide +kernel
theorem dX15_shifted_6 : decode cX15_shifted 6 = .ok (.aload_n 0, 1) := by decide +kernel
theorem dX15_shifted_7 : decode cX15_shifted 7 = .ok (.getfield 443, 3) := by decide +kernel
theorem dX15_shifted_10 : decode cX15_shifted 10 = .ok (.ifCond .ne 7, 3) := by decide +kernel
theorem dX15_shifted_13 : decode cX15_shifted 13 = .ok (.iconst 1, 1) := by decide +kernel
theorem dX15_shifted_14 : decode cX15_shifted 14 = .ok (.goto 4, 3) := by decide +kernel
theorem dX15_shifted_18 : decode cX15_shifted 18 = .ok (.iconst 2, 1) := by decide +kernel
theorem dX15_shifted_19 : decode cX15_shifted 19 = .ok (.invokevirtual 424, 3) := by decide +kernel
theorem dX15_shifted_22 : decode cX15_shifted 22 = .ok (.ifCond .ne 50, 3) := by decide +kernel
theorem dX15_shifted_72 : decode cX15_shifted 72 = .ok (.iconst 0, 1) := by decide +kernel
theorem dX15_shifted_73 : decode cX15_shifted 73 = .ok (.ireturn, 1) := by decide +kernel
theorem dX15_stretched_0 : decode cX15_stretched 0 = .ok (.aload_n 0, 1) := by decide +kernel
theorem dX15_stretched_1 : decode cX15_stretched 1 = .ok (.iconst 0, 1) := by decide +kernel
theorem dX15_stretched_2 : decode cX15_stretched 2 = .ok (.putfield 296, 3) := by decide +kernel
theorem dX15_stretched_5 : decode cX15_stretched 5 = .ok (.aload_n 0, 1) := by decide +kernel
theorem dX15_stretched_6 : decode cX15_stretched 6 = .ok (.aload_n 0, 1) := by decide +kernel
theorem dX15_stretched_7 : decode cX15_stretched 7 = .ok (.getfield 443, 3) := by decide +kernel
theorem dX15_stretched_10 : decode cX15_stretched 10 = .ok (.ifCond .ne 7, 3) := by decide +kernel
theorem dX15_stretched_13 : decode cX15_stretched 13 = .ok (.iconst 1, 1) := by decide +kernel
theorem dX15_stretched_14 : decode cX15_stretched 14 = .ok (.goto 4, 3) := by decide +kernel
theorem dX15_stretched_18 : decode cX15_stretched 18 = .ok (.iconst 3, 1) := by decide +kernel
theorem dX15_stretched_19 : decode cX15_stretched 19 = .ok (.invokevirtual 424, 3) := by decide +kernel
theorem dX15_stretched_22 : decode cX15_stretched 22 = .ok (.ifCond .eq 5, 3) := by decide +kernel
theorem dX15_stretched_25 : decode cX15_stretched 25 = .ok (.iconst 0, 1) := by decide +kernel
theorem dX15_stretched_26 : decode cX15_stretched 26 = .ok (.ireturn, 1) := by decide +kernel
theorem dX15_wave_0 : decode cX15_wave 0 = .ok (.aload_n 0, 1) := by decide +kernel
theorem dX15_wave_1 : decode cX15_wave 1 = .ok (.iconst 0, 1) := by decide +kernel
theorem dX15_wave_2 : decode cX15_wave 2 = .ok (.putfield 296, 3) := by decide +kernel
theorem dX15_wave_5 : decode cX15_wave 5 = .ok (.aload_n 0, 1) := by decide +kernel
theorem dX15_wave_6 : decode cX15_wave 6 = .ok (.aload_n 0, 1) := by decide +kernel
theorem dX15_wave_7 : decode cX15_wave 7 = .ok (.getfield 443, 3) := by decide +kernel
theorem dX15_wave_10 : decode cX15_wave 10 = .ok (.ifCond .ne 7, 3) := by decide +kernel
theorem dX15_wave_13 : decode cX15_wave 13 = .ok (.iconst 1, 1) := by decide +kernel
theorem dX15_wave_14 : decode cX15_wave 14 = .ok (.goto 4, 3) := by decide +kernel
theorem dX15_wave_18 : decode cX15_wave 18 = .ok (.iconst 2, 1) := by decide +kernel
theorem dX15_wave_19 : decode cX15_wave 19 = .ok (.invokevirtual 424, 3) := by decide +kernel
theorem dX15_wave_22 : decode cX15_wave 22 = .ok (.ifCond .eq 5, 3) := by decide +kernel
theorem dX15_wave_25 : decode cX15_wave 25 = .ok (.iconst 0, 1) := by decide +kernel
theorem dX15_wave_26 : decode cX15_wave 26 = .ok (.ireturn, 1) := by decide +kernel
theorem dX15_lines_0 : decode cX15_lines 0 = .ok (.aload_n 0, 1) := by decide +kernel
theorem dX15_lines_1 : decode cX15_lines 1 = .ok (.iconst 0, 1) := by decide +kernel
theorem dX15_lines_2 : decode cX15_lines 2 = .ok (.putfield 296, 3) := by decide +kernel
theorem dX15_lines_5 : decode cX15_lines 5 = .ok (.aload_n 0, 1) := by decide +kernel
theorem dX15_lines_6 : decode cX15_lines 6 = .ok (.aload_n 0, 1) := by decide +kernel
theorem dX15_lines_7 : decode cX15_lines 7 = .ok (.getfield 443, 3) := by decide +kernel
theorem dX15_lines_10 : decode cX15_lines 10 = .ok (.ifCond .ne 7, 3) := by decide +kernel
theorem dX15_lines_13 : decode cX15_lines 13 = .ok (.iconst 1, 1) := by decide +kernel
theorem dX15_lines_14 : decode cX15_lines 14 = .ok (.goto 4, 3) := by decide +kernel
theorem dX15_lines_18 : decode cX15_lines 18 = .ok (.iconst 2, 1) := by decide +kernel
theorem dX15_lines_19 : decode cX15_lines 19 = .ok (.invokevirtual 424, 3) := by decide +kernel
theorem dX15_lines_22 : decode cX15_lines 22 = .ok (.ifCond .ne 33, 3) := by decide +kernel
theorem dX15_lines_55 : decode cX15_lines 55 = .ok (.iconst 0, 1) := by decide +kernel
theorem dX15_lines_56 : decode cX15_lines 56 = .ok (.ireturn, 1) := by decide +kernel
theorem dX15_field_0 : decode cX15_field 0 = .ok (.aload_n 0, 1) := by decide +kernel
theorem dX15_field_1 : decode cX15_field 1 = .ok (.iconst 0, 1) := by decide +kernel
theorem dX15_field_2 : decode cX15_field 2 = .ok (.putfield 296, 3) := by decide +kernel
theorem dX15_field_5 : decode cX15_field 5 = .ok (.aload_n 0, 1) := by decide +kernel
theorem dX15_field_6 : decode cX15_field 6 = .ok (.aload_n 0, 1) := by decide +kernel
theorem dX15_field_7 : decode cX15_field 7 = .ok (.getfield 443, 3) := by decide +kernel
theorem dX15_field_10 : decode cX15_field 10 = .ok (.ifCond .ne 7, 3) := by decide +kernel
theorem dX15_field_13 : decode cX15_field 13 = .ok (.iconst 1, 1) := by decide +kernel
theorem dX15_field_14 : decode cX15_field 14 = .ok (.goto 4, 3) := by decide +kernel
theorem dX15_field_18 : decode cX15_field 18 = .ok (.iconst 2, 1) := by decide +kernel
theorem dX15_field_19 : decode cX15_field 19 = .ok (.invokevirtual 424, 3) := by decide +kernel
theorem dX15_field_22 : decode cX15_field 22 = .ok (.ifCond .ne 28, 3) := by decide +kernel
theorem dX15_field_50 : decode cX15_field 50 = .ok (.iconst 0, 1) := by decide +kernel
theorem dX15_field_51 : decode cX15_field 51 = .ok (.ireturn, 1) := by decide +kernel
theorem dX15_solution_0 : decode cX15_solution 0 = .ok (.aload_n 0, 1) := by decide +kernel
theorem dX15_solution_1 : decode cX15_solution 1 = .ok (.iconst 0, 1) := by decide +kernel
theorem dX15_solution_2 : decode cX15_solution 2 = .ok (.putfield 296, 3) := by decide +kernel
theorem dX15_solution_5 : decode cX15_solution 5 = .ok (.aload_n 0, 1) := by decide +kernel
theorem dX15_solution_6 : decode cX15_solution 6 = .ok (.aload_n 0, 1) := by decide +kernel
theorem dX15_solution_7 : decode cX15_solution 7 = .ok (.getfield 443, 3) := by decide +kernel
theorem dX15_solution_10 : decode cX15_solution 10 = .ok (.ifCond .ne 7, 3) := by decide +kernel
theorem dX15_solution_13 : decode cX15_solution 13 = .ok (.iconst 1, 1) := by decide +kernel
theorem dX15_solution_14 : decode cX15_solution 14 = .ok (.goto 4, 3) := by decide +kernel
theorem dX15_solution_18 : decode cX15_solution 18 = .ok (.iconst 2, 1) := by decide +kernel
theorem dX15_solution_19 : decode cX15_solution 19 = .ok (.invokevirtual 424, 3) := by decide +kernel
theorem dX15_solution_22 : decode cX15_solution 22 = .ok (.ifCond .ne 28, 3) := by decide +kernel
theorem dX15_solution_50 : decode cX15_solution 50 = .ok (.iconst 0, 1) := by decide +kernel
theorem dX15_solution_51 : decode cX15_solution 51 = .ok (.ireturn, 1) := by decide +kernel
theorem dX15_fault_0 : decode cX15_fault 0 = .ok (.aload_n 0, 1) := by decide +kernel
theorem dX15_fault_1 : decode cX15_fault 1 = .ok (.iconst 0, 1) := by decide +kernel
theorem dX15_fault_2 : decode cX15_fault 2 = .ok (.putfield 296, 3) := by decide +kernel
theorem dX15_fault_5 : decode cX15_fault 5 = .ok (.aload_n 0, 1) := by decide +kernel
theorem dX15_fault_6 : decode cX15_fault 6 = .ok (.getfield 121, 3) := by decide +kernel
theorem dX15_fault_9 : decode cX15_fault 9 = .ok (.ireturn, 1) := by decide +kernel
theorem dX15_restore_0 : decode cX15_restore 0 = .ok (.aload_n 0, 1) := by decide +kernel
theorem dX15_restore_1 : decode cX15_restore 1 = .ok (.iconst 0, 1) := by decide +kernel
theorem dX15_restore_2 : decode cX15_restore 2 = .ok (.putfield 296, 3) := by decide +kernel
theorem dX15_restore_5 : decode cX15_restore 5 = .ok (.aload_n 0, 1) := by decide +kernel
theorem dX15_restore_6 : decode cX15_restore 6 = .ok (.getfield 450, 3) := by decide +kernel
theorem dX15_restore_9 : decode cX15_restore 9 = .ok (.ifCond .ne 5, 3) := by decide +kernel
theorem dX15_restore_12 : decode cX15_restore 12 = .ok (.iconst (-1), 1) := by decide +kernel
theorem dX15_restore_13 : decode cX15_restore 13 = .ok (.ireturn, 1) := by decide +kernel
theorem dX15_count_0 : decode cX15_count 0 = .ok (.aload_n 0, 1) := by decide +kernel
theorem dX15_count_1 : decode cX15_count 1 = .ok (.iconst 0, 1) := by decide +kernel
theorem dX15_count_2 : decode cX15_count 2 = .ok (.putfield 296, 3) := by decide +kernel
theorem dX15_count_5 : decode cX15_count 5 = .ok (.iload_n 1, 1) := by decide +kernel
theorem dX15_count_6 : decode cX15_count 6 = .ok (.ifCond .ne 10, 3) := by decide +kernel
theorem dX15_count_16 : decode cX15_count 16 = .ok (.iload_n 1, 1) := by decide +kernel
theorem dX15_count_17 : decode cX15_count 17 = .ok (.iconst 1, 1) := by decide +kernel
theorem dX15_count_18 : decode cX15_count 18 = .ok (.if_icmp .ne 10, 3) := by decide +kernel
theorem dX15_count_28 : decode cX15_count 28 = .ok (.iconst (-1), 1) := by decide +kernel
theorem dX15_count_29 : decode cX15_count 29 = .ok (.ireturn, 1) := by decide +kernel
theorem dX15_count_21 : decode cX15_count 21 = .ok (.aload_n 0, 1) := by decide +kernel
theorem dX15_count_22 : decode cX15_count 22 = .ok (.getfield 299, 3) := by decide +kernel
theorem dX15_count_25 : decode cX15_count 25 = .ok (.goto 4, 3) := by decide +kernel
theorem dX15_count_9 : decode cX15_count 9 = .ok (.aload_n 0, 1) := by decide +kernel
theorem dX15_count_10 : decode cX15_count 10 = .ok (.getfield 450, 3) := by decide +kernel
theorem dX15_count_13 : decode cX15_count 13 = .ok (.goto 16, 3) := by decide +kernel
theorem dX13_terms_0 : decode cX13_terms 0 = .ok (.iconst 0, 1) := by decide +kernel
theorem dX13_terms_1 : decode cX13_terms 1 = .ok (.istore_n 1, 1) := by decide +kernel
theorem dX13_terms_2 : decode cX13_terms 2 = .ok (.iconst 0, 1) := by decide +kernel
theorem dX13_terms_3 : decode cX13_terms 3 = .ok (.istore_n 2, 1) := by decide +kernel
theorem dX13_terms_4 : decode cX13_terms 4 = .ok (.iload_n 2, 1) := by decide +kernel
theorem dX13_terms_5 : decode cX13_terms 5 = .ok (.aload_n 0, 1) := by decide +kernel
theorem dX13_terms_6 : decode cX13_terms 6 = .ok (.getfield 25, 3) := by decide +kernel
theorem dX13_terms_9 : decode cX13_terms 9 = .ok (.if_icmp .ge 28, 3) := by decide +kernel
theorem dX13_terms_37 : decode cX13_terms 37 = .ok (.iload_n 1, 1) := by decide +kernel
theorem dX13_terms_38 : decode cX13_terms 38 = .ok (.ireturn, 1) := by decide +kernel
theorem dX15_highest_0 : decode cX15_highest 0 = .ok (.iconst 0, 1) := by decide +kernel
theorem dX15_highest_1 : decode cX15_highest 1 = .ok (.istore_n 1, 1) := by decide +kernel
theorem dX15_highest_2 : decode cX15_highest 2 = .ok (.iconst 0, 1) := by decide +kernel
theorem dX15_highest_3 : decode cX15_highest 3 = .ok (.istore_n 2, 1) := by decide +kernel
theorem dX15_highest_4 : decode cX15_highest 4 = .ok (.iload_n 2, 1) := by decide +kernel
theorem dX15_highest_5 : decode cX15_highest 5 = .ok (.aload_n 0, 1) := by decide +kernel
theorem dX15_highest_6 : decode cX15_highest 6 = .ok (.getfield 130, 3) := by decide +kernel
theorem dX15_highest_9 : decode cX15_highest 9 = .ok (.getfield 347, 3) := by decide +kernel
theorem dX15_highest_12 : decode cX15_highest 12 = .ok (.if_icmp .ge 64, 3) := by decide +kernel
theorem dX15_highest_76 : decode cX15_highest 76 = .ok (.iload_n 1, 1) := by decide +kernel
theorem dX15_highest_77 : decode cX15_highest 77 = .ok (.ireturn, 1) := by decide +kernel
theorem dX15_told_0 : decode cX15_told 0 = .ok (.aload_n 0, 1) := by decide +kernel
theorem dX15_told_1 : decode cX15_told 1 = .ok (.iconst 0, 1) := by decide +kernel
theorem dX15_told_2 : decode cX15_told 2 = .ok (.putfield 296, 3) := by decide +kernel
theorem dX15_told_5 : decode cX15_told 5 = .ok (.aload_n 0, 1) := by decide +kernel
theorem dX15_told_6 : decode cX15_told 6 = .ok (.iload_n 1, 1) := by decide +kernel
theorem dX15_told_7 : decode cX15_told 7 = .ok (.iconst 0, 1) := by decide +kernel
theorem dX15_told_8 : decode cX15_told 8 = .ok (.iconst 2, 1) := by decide +kernel
theorem dX15_told_9 : decode cX15_told 9 = .ok (.invokestatic 420, 3) := by decide +kernel
theorem dX15_told_12 : decode cX15_told 12 = .ok (.ifCond .ne 7, 3) := by decide +kernel
theorem dX15_told_19 : decode cX15_told 19 = .ok (.iconst 0, 1) := by decide +kernel
theorem dX15_told_20 : decode cX15_told 20 = .ok (.iconst 1, 1) := by decide +kernel
theorem dX15_told_21 : decode cX15_told 21 = .ok (.invokevirtual 424, 3) := by decide +kernel
theorem dX15_told_24 : decode cX15_told 24 = .ok (.ifCond .eq 5, 3) := by decide +kernel
theorem dX15_told_29 : decode cX15_told 29 = .ok (.iload_n 1, 1) := by decide +kernel
theorem dX15_told_30 : decode cX15_told 30 = .ok (.ifCond .ne 10, 3) := by decide +kernel
theorem dX15_told_40 : decode cX15_told 40 = .ok (.iload_n 1, 1) := by decide +kernel
theorem dX15_told_41 : decode cX15_told 41 = .ok (.iconst 1, 1) := by decide +kernel
theorem dX15_told_42 : decode cX15_told 42 = .ok (.if_icmp .ne 13, 3) := by decide +kernel
theorem dX15_told_55 : decode cX15_told 55 = .ok (.aload_n 0, 1) := by decide +kernel
theorem dX15_told_56 : decode cX15_told 56 = .ok (.invokevirtual 456, 3) := by decide +kernel
theorem dX15_told_59 : decode cX15_told 59 = .ok (.ireturn, 1) := by decide +kernel
theorem dX15_told_45 : decode cX15_told 45 = .ok (.aload_n 0, 1) := by decide +kernel
theorem dX15_told_46 : decode cX15_told 46 = .ok (.getfield 130, 3) := by decide +kernel
theorem dX15_told_49 : decode cX15_told 49 = .ok (.invokevirtual 344, 3) := by decide +kernel
theorem dX15_told_52 : decode cX15_told 52 = .ok (.goto 7, 3) := by decide +kernel
theorem dX15_told_33 : decode cX15_told 33 = .ok (.aload_n 0, 1) := by decide +kernel
theorem dX15_told_34 : decode cX15_told 34 = .ok (.getfield 443, 3) := by decide +kernel
theorem dX15_told_37 : decode cX15_told 37 = .ok (.goto 22, 3) := by decide +kernel
theorem dX15_told_15 : decode cX15_told 15 = .ok (.iconst 1, 1) := by decide +kernel
theorem dX15_told_16 : decode cX15_told 16 = .ok (.goto 4, 3) := by decide +kernel
theorem dX15_told_27 : decode cX15_told 27 = .ok (.iconst 0, 1) := by decide +kernel
theorem dX15_told_28 : decode cX15_told 28 = .ok (.ireturn, 1) := by decide +kernel
theorem dX15_one_0 : decode cX15_one 0 = .ok (.lconst 1, 1) := by decide +kernel
theorem dX15_one_1 : decode cX15_one 1 = .ok (.bipush 6, 2) := by decide +kernel
theorem dX15_one_3 : decode cX15_one 3 = .ok (.iload_n 0, 1) := by decide +kernel
theorem dX15_one_4 : decode cX15_one 4 = .ok (.imul, 1) := by decide +kernel
theorem dX15_one_5 : decode cX15_one 5 = .ok (.lshl, 1) := by decide +kernel
theorem dX15_one_6 : decode cX15_one 6 = .ok (.lreturn, 1) := by decide +kernel
theorem dX15_keyOf_0 : decode cX15_keyOf 0 = .ok (.lconst 0, 1) := by decide +kernel
theorem dX15_keyOf_1 : decode cX15_keyOf 1 = .ok (.lstore_n 3, 1) := by decide +kernel
theorem dX15_keyOf_2 : decode cX15_keyOf 2 = .ok (.iload_n 0, 1) := by decide +kernel
theorem dX15_keyOf_3 : decode cX15_keyOf 3 = .ok (.istore 5, 2) := by decide +kernel
theorem dX15_keyOf_5 : decode cX15_keyOf 5 = .ok (.iload_n 1, 1) := by decide +kernel
theorem dX15_keyOf_6 : decode cX15_keyOf 6 = .ok (.iconst 1, 1) := by decide +kernel
theorem dX15_keyOf_7 : decode cX15_keyOf 7 = .ok (.isub, 1) := by decide +kernel
theorem dX15_keyOf_8 : decode cX15_keyOf 8 = .ok (.istore 6, 2) := by decide +kernel
theorem dX15_keyOf_10 : decode cX15_keyOf 10 = .ok (.iload 6, 2) := by decide +kernel
theorem dX15_keyOf_12 : decode cX15_keyOf 12 = .ok (.ifCond .lt 44, 3) := by decide +kernel
theorem dX15_keyOf_15 : decode cX15_keyOf 15 = .ok (.iload 5, 2) := by decide +kernel
theorem dX15_keyOf_17 : decode cX15_keyOf 17 = .ok (.bipush 10, 2) := by decide +kernel
theorem dX15_keyOf_19 : decode cX15_keyOf 19 = .ok (.irem, 1) := by decide +kernel
theorem dX15_keyOf_20 : decode cX15_keyOf 20 = .ok (.iload_n 2, 1) := by decide +kernel
theorem dX15_keyOf_21 : decode cX15_keyOf 21 = .ok (.if_icmp .le 7, 3) := by decide +kernel
theorem dX15_keyOf_28 : decode cX15_keyOf 28 = .ok (.lload_n 3, 1) := by decide +kernel
theorem dX15_keyOf_29 : decode cX15_keyOf 29 = .ok (.iload 5, 2) := by decide +kernel
theorem dX15_keyOf_31 : decode cX15_keyOf 31 = .ok (.bipush 10, 2) := by decide +kernel
theorem dX15_keyOf_33 : decode cX15_keyOf 33 = .ok (.irem, 1) := by decide +kernel
theorem dX15_keyOf_34 : decode cX15_keyOf 34 = .ok (.i2l, 1) := by decide +kernel
theorem dX15_keyOf_35 : decode cX15_keyOf 35 = .ok (.iload 6, 2) := by decide +kernel
theorem dX15_keyOf_37 : decode cX15_keyOf 37 = .ok (.invokestatic 416, 3) := by decide +kernel
theorem dX15_keyOf_40 : decode cX15_keyOf 40 = .ok (.lmul, 1) := by decide +kernel
theorem dX15_keyOf_41 : decode cX15_keyOf 41 = .ok (.ladd, 1) := by decide +kernel
theorem dX15_keyOf_42 : decode cX15_keyOf 42 = .ok (.lstore_n 3, 1) := by decide +kernel
theorem dX15_keyOf_43 : decode cX15_keyOf 43 = .ok (.iload 5, 2) := by decide +kernel
theorem dX15_keyOf_45 : decode cX15_keyOf 45 = .ok (.bipush 10, 2) := by decide +kernel
theorem dX15_keyOf_47 : decode cX15_keyOf 47 = .ok (.idiv, 1) := by decide +kernel
theorem dX15_keyOf_48 : decode cX15_keyOf 48 = .ok (.istore 5, 2) := by decide +kernel
theorem dX15_keyOf_50 : decode cX15_keyOf 50 = .ok (.iinc 6 (-1), 3) := by decide +kernel
theorem dX15_keyOf_53 : decode cX15_keyOf 53 = .ok (.goto (-43), 3) := by decide +kernel
theorem dX15_keyOf_56 : decode cX15_keyOf 56 = .ok (.iload_n 0, 1) := by decide +kernel
theorem dX15_keyOf_57 : decode cX15_keyOf 57 = .ok (.ifCond .lt 8, 3) := by decide +kernel
theorem dX15_keyOf_65 : decode cX15_keyOf 65 = .ok (.ldc2_w 389, 3) := by decide +kernel
theorem dX15_keyOf_68 : decode cX15_keyOf 68 = .ok (.goto 4, 3) := by decide +kernel
theorem dX15_keyOf_72 : decode cX15_keyOf 72 = .ok (.lreturn, 1) := by decide +kernel
theorem dX15_keyOf_60 : decode cX15_keyOf 60 = .ok (.iload 5, 2) := by decide +kernel
theorem dX15_keyOf_62 : decode cX15_keyOf 62 = .ok (.ifCond .le 9, 3) := by decide +kernel
theorem dX15_keyOf_71 : decode cX15_keyOf 71 = .ok (.lload_n 3, 1) := by decide +kernel
theorem dX15_keyOf_24 : decode cX15_keyOf 24 = .ok (.ldc2_w 389, 3) := by decide +kernel
theorem dX15_keyOf_27 : decode cX15_keyOf 27 = .ok (.lreturn, 1) := by decide +kernel
theorem dX13_placeOf_0 : decode cX13_placeOf 0 = .ok (.lload_n 1, 1) := by decide +kernel
theorem dX13_placeOf_1 : decode cX13_placeOf 1 = .ok (.ldc2_w 29, 3) := by decide +kernel
theorem dX13_placeOf_4 : decode cX13_placeOf 4 = .ok (.lmul, 1) := by decide +kernel
theorem dX13_placeOf_5 : decode cX13_placeOf 5 = .ok (.lstore_n 3, 1) := by decide +kernel
theorem dX13_placeOf_6 : decode cX13_placeOf 6 = .ok (.lload_n 3, 1) := by decide +kernel
theorem dX13_placeOf_7 : decode cX13_placeOf 7 = .ok (.bipush 40, 2) := by decide +kernel
theorem dX13_placeOf_9 : decode cX13_placeOf 9 = .ok (.lushr, 1) := by decide +kernel
theorem dX13_placeOf_10 : decode cX13_placeOf 10 = .ok (.l2i, 1) := by decide +kernel
theorem dX13_placeOf_11 : decode cX13_placeOf 11 = .ok (.aload_n 0, 1) := by decide +kernel
theorem dX13_placeOf_12 : decode cX13_placeOf 12 = .ok (.getfield 18, 3) := by decide +kernel
theorem dX13_placeOf_15 : decode cX13_placeOf 15 = .ok (.arraylength, 1) := by decide +kernel
theorem dX13_placeOf_16 : decode cX13_placeOf 16 = .ok (.iconst 1, 1) := by decide +kernel
theorem dX13_placeOf_17 : decode cX13_placeOf 17 = .ok (.isub, 1) := by decide +kernel
theorem dX13_placeOf_18 : decode cX13_placeOf 18 = .ok (.iand, 1) := by decide +kernel
theorem dX13_placeOf_19 : decode cX13_placeOf 19 = .ok (.ireturn, 1) := by decide +kernel
theorem dX13_found_0 : decode cX13_found 0 = .ok (.aload_n 0, 1) := by decide +kernel
theorem dX13_found_1 : decode cX13_found 1 = .ok (.lload_n 1, 1) := by decide +kernel
theorem dX13_found_2 : decode cX13_found 2 = .ok (.invokevirtual 31, 3) := by decide +kernel
theorem dX13_found_5 : decode cX13_found 5 = .ok (.istore_n 3, 1) := by decide +kernel
theorem dX13_found_6 : decode cX13_found 6 = .ok (.aload_n 0, 1) := by decide +kernel
theorem dX13_found_7 : decode cX13_found 7 = .ok (.getfield 18, 3) := by decide +kernel
theorem dX13_found_10 : decode cX13_found 10 = .ok (.iload_n 3, 1) := by decide +kernel
theorem dX13_found_11 : decode cX13_found 11 = .ok (.iaload, 1) := by decide +kernel
theorem dX13_found_12 : decode cX13_found 12 = .ok (.ifCond .eq 36, 3) := by decide +kernel
theorem dX13_found_48 : decode cX13_found 48 = .ok (.iload_n 3, 1) := by decide +kernel
theorem dX13_found_49 : decode cX13_found 49 = .ok (.ireturn, 1) := by decide +kernel
theorem dX13_of_0 : decode cX13_of 0 = .ok (.aload_n 0, 1) := by decide +kernel
theorem dX13_of_1 : decode cX13_of 1 = .ok (.lload_n 1, 1) := by decide +kernel
theorem dX13_of_2 : decode cX13_of 2 = .ok (.invokevirtual 35, 3) := by decide +kernel
theorem dX13_of_5 : decode cX13_of 5 = .ok (.istore_n 3, 1) := by decide +kernel
theorem dX13_of_6 : decode cX13_of 6 = .ok (.aload_n 0, 1) := by decide +kernel
theorem dX13_of_7 : decode cX13_of 7 = .ok (.getfield 18, 3) := by decide +kernel
theorem dX13_of_10 : decode cX13_of 10 = .ok (.iload_n 3, 1) := by decide +kernel
theorem dX13_of_11 : decode cX13_of 11 = .ok (.iaload, 1) := by decide +kernel
theorem dX13_of_12 : decode cX13_of 12 = .ok (.ifCond .ne 7, 3) := by decide +kernel
theorem dX13_of_15 : decode cX13_of 15 = .ok (.lconst 0, 1) := by decide +kernel
theorem dX13_of_16 : decode cX13_of 16 = .ok (.goto 16, 3) := by decide +kernel
theorem dX13_of_32 : decode cX13_of 32 = .ok (.lreturn, 1) := by decide +kernel
theorem dX15_term_0 : decode cX15_term 0 = .ok (.aload_n 0, 1) := by decide +kernel
theorem dX15_term_1 : decode cX15_term 1 = .ok (.iconst 0, 1) := by decide +kernel
theorem dX15_term_2 : decode cX15_term 2 = .ok (.putfield 296, 3) := by decide +kernel
theorem dX15_term_5 : decode cX15_term 5 = .ok (.iload_n 1, 1) := by decide +kernel
theorem dX15_term_6 : decode cX15_term 6 = .ok (.bipush 6, 2) := by decide +kernel
theorem dX15_term_8 : decode cX15_term 8 = .ok (.iconst 4, 1) := by decide +kernel
theorem dX15_term_9 : decode cX15_term 9 = .ok (.invokestatic 459, 3) := by decide +kernel
theorem dX15_term_12 : decode cX15_term 12 = .ok (.lstore_n 2, 1) := by decide +kernel
theorem dX15_term_13 : decode cX15_term 13 = .ok (.aload_n 0, 1) := by decide +kernel
theorem dX15_term_14 : decode cX15_term 14 = .ok (.lload_n 2, 1) := by decide +kernel
theorem dX15_term_15 : decode cX15_term 15 = .ok (.ldc2_w 389, 3) := by decide +kernel
theorem dX15_term_18 : decode cX15_term 18 = .ok (.lcmp, 1) := by decide +kernel
theorem dX15_term_19 : decode cX15_term 19 = .ok (.ifCond .ne 7, 3) := by decide +kernel
theorem dX15_term_22 : decode cX15_term 22 = .ok (.iconst 1, 1) := by decide +kernel
theorem dX15_term_23 : decode cX15_term 23 = .ok (.goto 4, 3) := by decide +kernel
theorem dX15_term_27 : decode cX15_term 27 = .ok (.iconst 1, 1) := by decide +kernel
theorem dX15_term_28 : decode cX15_term 28 = .ok (.invokevirtual 424, 3) := by decide +kernel
theorem dX15_term_31 : decode cX15_term 31 = .ok (.ifCond .eq 5, 3) := by decide +kernel
theorem dX15_term_34 : decode cX15_term 34 = .ok (.iconst 0, 1) := by decide +kernel
theorem dX15_term_35 : decode cX15_term 35 = .ok (.ireturn, 1) := by decide +kernel
theorem dX15_term_26 : decode cX15_term 26 = .ok (.iconst 0, 1) := by decide +kernel
theorem dX15_term_36 : decode cX15_term 36 = .ok (.aload_n 0, 1) := by decide +kernel
theorem dX15_term_37 : decode cX15_term 37 = .ok (.getfield 130, 3) := by decide +kernel
theorem dX15_term_40 : decode cX15_term 40 = .ok (.lload_n 2, 1) := by decide +kernel
theorem dX15_term_41 : decode cX15_term 41 = .ok (.invokevirtual 463, 3) := by decide +kernel
theorem dX15_term_44 : decode cX15_term 44 = .ok (.l2i, 1) := by decide +kernel
theorem dX15_term_45 : decode cX15_term 45 = .ok (.ireturn, 1) := by decide +kernel
theorem dX13_clear_0 : decode cX13_clear 0 = .ok (.iconst 0, 1) := by decide +kernel
theorem dX13_clear_1 : decode cX13_clear 1 = .ok (.istore_n 1, 1) := by decide +kernel
theorem dX13_clear_2 : decode cX13_clear 2 = .ok (.iload_n 1, 1) := by decide +kernel
theorem dX13_clear_3 : decode cX13_clear 3 = .ok (.aload_n 0, 1) := by decide +kernel
theorem dX13_clear_4 : decode cX13_clear 4 = .ok (.getfield 25, 3) := by decide +kernel
theorem dX13_clear_7 : decode cX13_clear 7 = .ok (.if_icmp .ge 21, 3) := by decide +kernel
theorem dX13_clear_28 : decode cX13_clear 28 = .ok (.aload_n 0, 1) := by decide +kernel
theorem dX13_clear_29 : decode cX13_clear 29 = .ok (.iconst 0, 1) := by decide +kernel
theorem dX13_clear_30 : decode cX13_clear 30 = .ok (.putfield 25, 3) := by decide +kernel
theorem dX13_clear_33 : decode cX13_clear 33 = .ok (.return_, 1) := by decide +kernel
theorem dX13_adds_0 : decode cX13_adds 0 = .ok (.iconst 0, 1) := by decide +kernel
theorem dX13_adds_1 : decode cX13_adds 1 = .ok (.istore 4, 2) := by decide +kernel
theorem dX13_adds_3 : decode cX13_adds 3 = .ok (.iload 4, 2) := by decide +kernel
theorem dX13_adds_5 : decode cX13_adds 5 = .ok (.aload_n 1, 1) := by decide +kernel
theorem dX13_adds_6 : decode cX13_adds 6 = .ok (.getfield 25, 3) := by decide +kernel
theorem dX13_adds_9 : decode cX13_adds 9 = .ok (.if_icmp .ge 29, 3) := by decide +kernel
theorem dX13_adds_38 : decode cX13_adds 38 = .ok (.return_, 1) := by decide +kernel
theorem dX15_copies_0 : decode cX15_copies 0 = .ok (.aload_n 1, 1) := by decide +kernel
theorem dX15_copies_1 : decode cX15_copies 1 = .ok (.invokevirtual 368, 3) := by decide +kernel
theorem dX15_copies_4 : decode cX15_copies 4 = .ok (.aload_n 1, 1) := by decide +kernel
theorem dX15_copies_5 : decode cX15_copies 5 = .ok (.aload_n 0, 1) := by decide +kernel
theorem dX15_copies_6 : decode cX15_copies 6 = .ok (.lconst 1, 1) := by decide +kernel
theorem dX15_copies_7 : decode cX15_copies 7 = .ok (.invokevirtual 374, 3) := by decide +kernel
theorem dX15_copies_10 : decode cX15_copies 10 = .ok (.return_, 1) := by decide +kernel
theorem dX15_image_0 : decode cX15_image 0 = .ok (.aload_n 0, 1) := by decide +kernel
theorem dX15_image_1 : decode cX15_image 1 = .ok (.iconst 0, 1) := by decide +kernel
theorem dX15_image_2 : decode cX15_image 2 = .ok (.putfield 296, 3) := by decide +kernel
theorem dX15_image_5 : decode cX15_image 5 = .ok (.aload_n 0, 1) := by decide +kernel
theorem dX15_image_6 : decode cX15_image 6 = .ok (.getfield 450, 3) := by decide +kernel
theorem dX15_image_9 : decode cX15_image 9 = .ok (.iconst 3, 1) := by decide +kernel
theorem dX15_image_10 : decode cX15_image 10 = .ok (.if_icmp .ne 5, 3) := by decide +kernel
theorem dX15_image_15 : decode cX15_image 15 = .ok (.iconst 0, 1) := by decide +kernel
theorem dX15_image_16 : decode cX15_image 16 = .ok (.istore_n 1, 1) := by decide +kernel
theorem dX15_image_17 : decode cX15_image 17 = .ok (.iload_n 1, 1) := by decide +kernel
theorem dX15_image_18 : decode cX15_image 18 = .ok (.iconst 4, 1) := by decide +kernel
theorem dX15_image_19 : decode cX15_image 19 = .ok (.if_icmp .ge 41, 3) := by decide +kernel
theorem dX15_image_22 : decode cX15_image 22 = .ok (.iload_n 1, 1) := by decide +kernel
theorem dX15_image_23 : decode cX15_image 23 = .ok (.iconst 3, 1) := by decide +kernel
theorem dX15_image_24 : decode cX15_image 24 = .ok (.if_icmp .ge 12, 3) := by decide +kernel
theorem dX15_image_27 : decode cX15_image 27 = .ok (.aload_n 0, 1) := by decide +kernel
theorem dX15_image_28 : decode cX15_image 28 = .ok (.getfield 134, 3) := by decide +kernel
theorem dX15_image_31 : decode cX15_image 31 = .ok (.iload_n 1, 1) := by decide +kernel
theorem dX15_image_32 : decode cX15_image 32 = .ok (.aaload, 1) := by decide +kernel
theorem dX15_image_33 : decode cX15_image 33 = .ok (.goto 7, 3) := by decide +kernel
theorem dX15_image_40 : decode cX15_image 40 = .ok (.aload_n 0, 1) := by decide +kernel
theorem dX15_image_41 : decode cX15_image 41 = .ok (.getfield 149, 3) := by decide +kernel
theorem dX15_image_44 : decode cX15_image 44 = .ok (.aload_n 0, 1) := by decide +kernel
theorem dX15_image_45 : decode cX15_image 45 = .ok (.getfield 450, 3) := by decide +kernel
theorem dX15_image_48 : decode cX15_image 48 = .ok (.aaload, 1) := by decide +kernel
theorem dX15_image_49 : decode cX15_image 49 = .ok (.iload_n 1, 1) := by decide +kernel
theorem dX15_image_50 : decode cX15_image 50 = .ok (.aaload, 1) := by decide +kernel
theorem dX15_image_51 : decode cX15_image 51 = .ok (.invokestatic 446, 3) := by decide +kernel
theorem dX15_image_54 : decode cX15_image 54 = .ok (.iinc 1 1, 3) := by decide +kernel
theorem dX15_image_57 : decode cX15_image 57 = .ok (.goto (-40), 3) := by decide +kernel
theorem dX15_image_36 : decode cX15_image 36 = .ok (.aload_n 0, 1) := by decide +kernel
theorem dX15_image_37 : decode cX15_image 37 = .ok (.getfield 141, 3) := by decide +kernel
theorem dX15_image_60 : decode cX15_image 60 = .ok (.aload_n 0, 1) := by decide +kernel
theorem dX15_image_61 : decode cX15_image 61 = .ok (.dup, 1) := by decide +kernel
theorem dX15_image_62 : decode cX15_image 62 = .ok (.getfield 450, 3) := by decide +kernel
theorem dX15_image_65 : decode cX15_image 65 = .ok (.iconst 1, 1) := by decide +kernel
theorem dX15_image_66 : decode cX15_image 66 = .ok (.iadd, 1) := by decide +kernel
theorem dX15_image_67 : decode cX15_image 67 = .ok (.putfield 450, 3) := by decide +kernel
theorem dX15_image_70 : decode cX15_image 70 = .ok (.aload_n 0, 1) := by decide +kernel
theorem dX15_image_71 : decode cX15_image 71 = .ok (.getfield 450, 3) := by decide +kernel
theorem dX15_image_74 : decode cX15_image 74 = .ok (.ireturn, 1) := by decide +kernel
theorem dX15_feed_0 : decode cX15_feed 0 = .ok (.aload_n 0, 1) := by decide +kernel
theorem dX15_feed_1 : decode cX15_feed 1 = .ok (.iconst 0, 1) := by decide +kernel
theorem dX15_feed_2 : decode cX15_feed 2 = .ok (.putfield 296, 3) := by decide +kernel
theorem dX15_feed_5 : decode cX15_feed 5 = .ok (.aload_n 0, 1) := by decide +kernel
theorem dX15_feed_6 : decode cX15_feed 6 = .ok (.getfield 299, 3) := by decide +kernel
theorem dX15_feed_9 : decode cX15_feed 9 = .ok (.bipush 20, 2) := by decide +kernel
theorem dX15_feed_11 : decode cX15_feed 11 = .ok (.iadd, 1) := by decide +kernel
theorem dX15_feed_12 : decode cX15_feed 12 = .ok (.sipush 200, 3) := by decide +kernel
theorem dX15_feed_15 : decode cX15_feed 15 = .ok (.if_icmp .le 5, 3) := by decide +kernel
theorem dX15_feed_20 : decode cX15_feed 20 = .ok (.iconst 0, 1) := by decide +kernel
theorem dX15_feed_21 : decode cX15_feed 21 = .ok (.istore 6, 2) := by decide +kernel
theorem dX15_feed_23 : decode cX15_feed 23 = .ok (.iload 6, 2) := by decide +kernel
theorem dX15_feed_25 : decode cX15_feed 25 = .ok (.bipush 20, 2) := by decide +kernel
theorem dX15_feed_27 : decode cX15_feed 27 = .ok (.if_icmp .ge 93, 3) := by decide +kernel
theorem dX15_feed_30 : decode cX15_feed 30 = .ok (.iload 6, 2) := by decide +kernel
theorem dX15_feed_32 : decode cX15_feed 32 = .ok (.iconst 4, 1) := by decide +kernel
theorem dX15_feed_33 : decode cX15_feed 33 = .ok (.if_icmp .ge 7, 3) := by decide +kernel
theorem dX15_feed_36 : decode cX15_feed 36 = .ok (.iload_n 1, 1) := by decide +kernel
theorem dX15_feed_37 : decode cX15_feed 37 = .ok (.goto 39, 3) := by decide +kernel
theorem dX15_feed_76 : decode cX15_feed 76 = .ok (.istore 7, 2) := by decide +kernel
theorem dX15_feed_78 : decode cX15_feed 78 = .ok (.aload_n 0, 1) := by decide +kernel
theorem dX15_feed_79 : decode cX15_feed 79 = .ok (.getfield 124, 3) := by decide +kernel
theorem dX15_feed_82 : decode cX15_feed 82 = .ok (.aload_n 0, 1) := by decide +kernel
theorem dX15_feed_83 : decode cX15_feed 83 = .ok (.getfield 299, 3) := by decide +kernel
theorem dX15_feed_86 : decode cX15_feed 86 = .ok (.iload 7, 2) := by decide +kernel
theorem dX15_feed_88 : decode cX15_feed 88 = .ok (.bipush 24, 2) := by decide +kernel
theorem dX15_feed_90 : decode cX15_feed 90 = .ok (.bipush 8, 2) := by decide +kernel
theorem dX15_feed_92 : decode cX15_feed 92 = .ok (.iload 6, 2) := by decide +kernel
theorem dX15_feed_94 : decode cX15_feed 94 = .ok (.iconst 4, 1) := by decide +kernel
theorem dX15_feed_95 : decode cX15_feed 95 = .ok (.irem, 1) := by decide +kernel
theorem dX15_feed_96 : decode cX15_feed 96 = .ok (.imul, 1) := by decide +kernel
theorem dX15_feed_97 : decode cX15_feed 97 = .ok (.isub, 1) := by decide +kernel
theorem dX15_feed_98 : decode cX15_feed 98 = .ok (.ishr, 1) := by decide +kernel
theorem dX15_feed_99 : decode cX15_feed 99 = .ok (.sipush 255, 3) := by decide +kernel
theorem dX15_feed_102 : decode cX15_feed 102 = .ok (.iand, 1) := by decide +kernel
theorem dX15_feed_103 : decode cX15_feed 103 = .ok (.iastore, 1) := by decide +kernel
theorem dX15_feed_104 : decode cX15_feed 104 = .ok (.aload_n 0, 1) := by decide +kernel
theorem dX15_feed_105 : decode cX15_feed 105 = .ok (.dup, 1) := by decide +kernel
theorem dX15_feed_106 : decode cX15_feed 106 = .ok (.getfield 299, 3) := by decide +kernel
theorem dX15_feed_109 : decode cX15_feed 109 = .ok (.iconst 1, 1) := by decide +kernel
theorem dX15_feed_110 : decode cX15_feed 110 = .ok (.iadd, 1) := by decide +kernel
theorem dX15_feed_111 : decode cX15_feed 111 = .ok (.putfield 299, 3) := by decide +kernel
theorem dX15_feed_114 : decode cX15_feed 114 = .ok (.iinc 6 1, 3) := by decide +kernel
theorem dX15_feed_117 : decode cX15_feed 117 = .ok (.goto (-94), 3) := by decide +kernel
theorem dX15_feed_40 : decode cX15_feed 40 = .ok (.iload 6, 2) := by decide +kernel
theorem dX15_feed_42 : decode cX15_feed 42 = .ok (.bipush 8, 2) := by decide +kernel
theorem dX15_feed_44 : decode cX15_feed 44 = .ok (.if_icmp .ge 7, 3) := by decide +kernel
theorem dX15_feed_47 : decode cX15_feed 47 = .ok (.iload_n 2, 1) := by decide +kernel
theorem dX15_feed_48 : decode cX15_feed 48 = .ok (.goto 28, 3) := by decide +kernel
theorem dX15_feed_51 : decode cX15_feed 51 = .ok (.iload 6, 2) := by decide +kernel
theorem dX15_feed_53 : decode cX15_feed 53 = .ok (.bipush 12, 2) := by decide +kernel
theorem dX15_feed_55 : decode cX15_feed 55 = .ok (.if_icmp .ge 7, 3) := by decide +kernel
theorem dX15_feed_58 : decode cX15_feed 58 = .ok (.iload_n 3, 1) := by decide +kernel
theorem dX15_feed_59 : decode cX15_feed 59 = .ok (.goto 17, 3) := by decide +kernel
theorem dX15_feed_62 : decode cX15_feed 62 = .ok (.iload 6, 2) := by decide +kernel
theorem dX15_feed_64 : decode cX15_feed 64 = .ok (.bipush 16, 2) := by decide +kernel
theorem dX15_feed_66 : decode cX15_feed 66 = .ok (.if_icmp .ge 8, 3) := by decide +kernel
theorem dX15_feed_69 : decode cX15_feed 69 = .ok (.iload 4, 2) := by decide +kernel
theorem dX15_feed_71 : decode cX15_feed 71 = .ok (.goto 5, 3) := by decide +kernel
theorem dX15_feed_74 : decode cX15_feed 74 = .ok (.iload 5, 2) := by decide +kernel
theorem dX15_feed_120 : decode cX15_feed 120 = .ok (.aload_n 0, 1) := by decide +kernel
theorem dX15_feed_121 : decode cX15_feed 121 = .ok (.getfield 299, 3) := by decide +kernel
theorem dX15_feed_124 : decode cX15_feed 124 = .ok (.ireturn, 1) := by decide +kernel
theorem dX15_byteAt_0 : decode cX15_byteAt 0 = .ok (.iload_n 1, 1) := by decide +kernel
theorem dX15_byteAt_1 : decode cX15_byteAt 1 = .ok (.aload_n 0, 1) := by decide +kernel
theorem dX15_byteAt_2 : decode cX15_byteAt 2 = .ok (.getfield 302, 3) := by decide +kernel
theorem dX15_byteAt_5 : decode cX15_byteAt 5 = .ok (.if_icmp .lt 7, 3) := by decide +kernel
theorem dX15_byteAt_8 : decode cX15_byteAt 8 = .ok (.iconst (-1), 1) := by decide +kernel
theorem dX15_byteAt_9 : decode cX15_byteAt 9 = .ok (.goto 9, 3) := by decide +kernel
theorem dX15_byteAt_18 : decode cX15_byteAt 18 = .ok (.ireturn, 1) := by decide +kernel
theorem dX15_blanks_0 : decode cX15_blanks 0 = .ok (.aload_n 0, 1) := by decide +kernel
theorem dX15_blanks_1 : decode cX15_blanks 1 = .ok (.aload_n 0, 1) := by decide +kernel
theorem dX15_blanks_2 : decode cX15_blanks 2 = .ok (.getfield 303, 3) := by decide +kernel
theorem dX15_blanks_5 : decode cX15_blanks 5 = .ok (.invokevirtual 306, 3) := by decide +kernel
theorem dX15_blanks_8 : decode cX15_blanks 8 = .ok (.bipush 32, 2) := by decide +kernel
theorem dX15_blanks_10 : decode cX15_blanks 10 = .ok (.if_icmp .ne 16, 3) := by decide +kernel
theorem dX15_blanks_26 : decode cX15_blanks 26 = .ok (.return_, 1) := by decide +kernel
theorem dX15_isLetter_0 : decode cX15_isLetter 0 = .ok (.iload_n 0, 1) := by decide +kernel
theorem dX15_isLetter_1 : decode cX15_isLetter 1 = .ok (.bipush 97, 2) := by decide +kernel
theorem dX15_isLetter_3 : decode cX15_isLetter 3 = .ok (.if_icmp .lt 13, 3) := by decide +kernel
theorem dX15_isLetter_16 : decode cX15_isLetter 16 = .ok (.iconst 0, 1) := by decide +kernel
theorem dX15_isLetter_17 : decode cX15_isLetter 17 = .ok (.ireturn, 1) := by decide +kernel
theorem dX15_wordHere_0 : decode cX15_wordHere 0 = .ok (.aload_n 0, 1) := by decide +kernel
theorem dX15_wordHere_1 : decode cX15_wordHere 1 = .ok (.invokevirtual 316, 3) := by decide +kernel
theorem dX15_wordHere_4 : decode cX15_wordHere 4 = .ok (.iconst 0, 1) := by decide +kernel
theorem dX15_wordHere_5 : decode cX15_wordHere 5 = .ok (.istore_n 1, 1) := by decide +kernel
theorem dX15_wordHere_6 : decode cX15_wordHere 6 = .ok (.iconst 0, 1) := by decide +kernel
theorem dX15_wordHere_7 : decode cX15_wordHere 7 = .ok (.istore_n 2, 1) := by decide +kernel
theorem dX15_wordHere_8 : decode cX15_wordHere 8 = .ok (.aload_n 0, 1) := by decide +kernel
theorem dX15_wordHere_9 : decode cX15_wordHere 9 = .ok (.aload_n 0, 1) := by decide +kernel
theorem dX15_wordHere_10 : decode cX15_wordHere 10 = .ok (.getfield 303, 3) := by decide +kernel
theorem dX15_wordHere_13 : decode cX15_wordHere 13 = .ok (.iload_n 2, 1) := by decide +kernel
theorem dX15_wordHere_14 : decode cX15_wordHere 14 = .ok (.iadd, 1) := by decide +kernel
theorem dX15_wordHere_15 : decode cX15_wordHere 15 = .ok (.invokevirtual 306, 3) := by decide +kernel
theorem dX15_wordHere_18 : decode cX15_wordHere 18 = .ok (.invokestatic 328, 3) := by decide +kernel
theorem dX15_wordHere_21 : decode cX15_wordHere 21 = .ok (.ifCond .eq 40, 3) := by decide +kernel
theorem dX15_wordHere_61 : decode cX15_wordHere 61 = .ok (.iload_n 2, 1) := by decide +kernel
theorem dX15_wordHere_62 : decode cX15_wordHere 62 = .ok (.bipush 6, 2) := by decide +kernel
theorem dX15_wordHere_64 : decode cX15_wordHere 64 = .ok (.if_icmp .le 7, 3) := by decide +kernel
theorem dX15_wordHere_71 : decode cX15_wordHere 71 = .ok (.iload_n 1, 1) := by decide +kernel
theorem dX15_wordHere_72 : decode cX15_wordHere 72 = .ok (.ireturn, 1) := by decide +kernel
theorem dX15_starts_0 : decode cX15_starts 0 = .ok (.aload_n 0, 1) := by decide +kernel
theorem dX15_starts_1 : decode cX15_starts 1 = .ok (.iconst 0, 1) := by decide +kernel
theorem dX15_starts_2 : decode cX15_starts 2 = .ok (.putfield 299, 3) := by decide +kernel
theorem dX15_starts_5 : decode cX15_starts 5 = .ok (.aload_n 0, 1) := by decide +kernel
theorem dX15_starts_6 : decode cX15_starts 6 = .ok (.iload_n 1, 1) := by decide +kernel
theorem dX15_starts_7 : decode cX15_starts 7 = .ok (.putfield 302, 3) := by decide +kernel
theorem dX15_starts_10 : decode cX15_starts 10 = .ok (.aload_n 0, 1) := by decide +kernel
theorem dX15_starts_11 : decode cX15_starts 11 = .ok (.iconst 0, 1) := by decide +kernel
theorem dX15_starts_12 : decode cX15_starts 12 = .ok (.putfield 303, 3) := by decide +kernel
theorem dX15_starts_15 : decode cX15_starts 15 = .ok (.aload_n 0, 1) := by decide +kernel
theorem dX15_starts_16 : decode cX15_starts 16 = .ok (.iconst 0, 1) := by decide +kernel
theorem dX15_starts_17 : decode cX15_starts 17 = .ok (.putfield 310, 3) := by decide +kernel
theorem dX15_starts_20 : decode cX15_starts 20 = .ok (.aload_n 0, 1) := by decide +kernel
theorem dX15_starts_21 : decode cX15_starts 21 = .ok (.iconst (-1), 1) := by decide +kernel
theorem dX15_starts_22 : decode cX15_starts 22 = .ok (.putfield 313, 3) := by decide +kernel
theorem dX15_starts_25 : decode cX15_starts 25 = .ok (.aload_n 0, 1) := by decide +kernel
theorem dX15_starts_26 : decode cX15_starts 26 = .ok (.iconst 0, 1) := by decide +kernel
theorem dX15_starts_27 : decode cX15_starts 27 = .ok (.putfield 331, 3) := by decide +kernel
theorem dX15_starts_30 : decode cX15_starts 30 = .ok (.aload_n 0, 1) := by decide +kernel
theorem dX15_starts_31 : decode cX15_starts 31 = .ok (.iconst 0, 1) := by decide +kernel
theorem dX15_starts_32 : decode cX15_starts 32 = .ok (.putfield 334, 3) := by decide +kernel
theorem dX15_starts_35 : decode cX15_starts 35 = .ok (.return_, 1) := by decide +kernel
theorem dX15_wrong_0 : decode cX15_wrong 0 = .ok (.aload_n 0, 1) := by decide +kernel
theorem dX15_wrong_1 : decode cX15_wrong 1 = .ok (.getfield 310, 3) := by decide +kernel
theorem dX15_wrong_4 : decode cX15_wrong 4 = .ok (.ifCond .ne 13, 3) := by decide +kernel
theorem dX15_wrong_7 : decode cX15_wrong 7 = .ok (.aload_n 0, 1) := by decide +kernel
theorem dX15_wrong_8 : decode cX15_wrong 8 = .ok (.iload_n 1, 1) := by decide +kernel
theorem dX15_wrong_9 : decode cX15_wrong 9 = .ok (.putfield 310, 3) := by decide +kernel
theorem dX15_wrong_12 : decode cX15_wrong 12 = .ok (.aload_n 0, 1) := by decide +kernel
theorem dX15_wrong_13 : decode cX15_wrong 13 = .ok (.iload_n 2, 1) := by decide +kernel
theorem dX15_wrong_14 : decode cX15_wrong 14 = .ok (.putfield 313, 3) := by decide +kernel
theorem dX15_wrong_17 : decode cX15_wrong 17 = .ok (.return_, 1) := by decide +kernel
theorem dX15_ends_0 : decode cX15_ends 0 = .ok (.aload_n 0, 1) := by decide +kernel
theorem dX15_ends_1 : decode cX15_ends 1 = .ok (.invokevirtual 316, 3) := by decide +kernel
theorem dX15_ends_4 : decode cX15_ends 4 = .ok (.aload_n 0, 1) := by decide +kernel
theorem dX15_ends_5 : decode cX15_ends 5 = .ok (.getfield 310, 3) := by decide +kernel
theorem dX15_ends_8 : decode cX15_ends 8 = .ok (.ifCond .ne 23, 3) := by decide +kernel
theorem dX15_ends_31 : decode cX15_ends 31 = .ok (.aload_n 0, 1) := by decide +kernel
theorem dX15_ends_32 : decode cX15_ends 32 = .ok (.aload_n 0, 1) := by decide +kernel
theorem dX15_ends_33 : decode cX15_ends 33 = .ok (.getfield 313, 3) := by decide +kernel
theorem dX15_ends_36 : decode cX15_ends 36 = .ok (.putfield 121, 3) := by decide +kernel
theorem dX15_ends_39 : decode cX15_ends 39 = .ok (.return_, 1) := by decide +kernel
theorem dX15_equation_0 : decode cX15_equation 0 = .ok (.aload_n 0, 1) := by decide +kernel
theorem dX15_equation_1 : decode cX15_equation 1 = .ok (.iconst 0, 1) := by decide +kernel
theorem dX15_equation_2 : decode cX15_equation 2 = .ok (.putfield 296, 3) := by decide +kernel
theorem dX15_equation_5 : decode cX15_equation 5 = .ok (.aload_n 0, 1) := by decide +kernel
theorem dX15_equation_6 : decode cX15_equation 6 = .ok (.iload_n 1, 1) := by decide +kernel
theorem dX15_equation_7 : decode cX15_equation 7 = .ok (.iconst 0, 1) := by decide +kernel
theorem dX15_equation_8 : decode cX15_equation 8 = .ok (.aload_n 0, 1) := by decide +kernel
theorem dX15_equation_9 : decode cX15_equation 9 = .ok (.getfield 299, 3) := by decide +kernel
theorem dX15_equation_12 : decode cX15_equation 12 = .ok (.invokestatic 420, 3) := by decide +kernel
theorem dX15_equation_15 : decode cX15_equation 15 = .ok (.ifCond .ne 7, 3) := by decide +kernel
theorem dX15_equation_22 : decode cX15_equation 22 = .ok (.iconst 0, 1) := by decide +kernel
theorem dX15_equation_23 : decode cX15_equation 23 = .ok (.iconst 1, 1) := by decide +kernel
theorem dX15_equation_24 : decode cX15_equation 24 = .ok (.invokevirtual 424, 3) := by decide +kernel
theorem dX15_equation_27 : decode cX15_equation 27 = .ok (.ifCond .eq 5, 3) := by decide +kernel
theorem dX15_equation_32 : decode cX15_equation 32 = .ok (.aload_n 0, 1) := by decide +kernel
theorem dX15_equation_33 : decode cX15_equation 33 = .ok (.iload_n 1, 1) := by decide +kernel
theorem dX15_equation_34 : decode cX15_equation 34 = .ok (.invokevirtual 428, 3) := by decide +kernel
theorem dX15_equation_37 : decode cX15_equation 37 = .ok (.aload_n 0, 1) := by decide +kernel
theorem dX15_equation_38 : decode cX15_equation 38 = .ok (.invokevirtual 337, 3) := by decide +kernel
theorem dX15_equation_41 : decode cX15_equation 41 = .ok (.istore_n 2, 1) := by decide +kernel
theorem dX15_equation_42 : decode cX15_equation 42 = .ok (.aload_n 0, 1) := by decide +kernel
theorem dX15_equation_43 : decode cX15_equation 43 = .ok (.iload_n 2, 1) := by decide +kernel
theorem dX15_equation_44 : decode cX15_equation 44 = .ok (.ldc_w 431, 3) := by decide +kernel
theorem dX15_equation_47 : decode cX15_equation 47 = .ok (.if_icmp .ne 7, 3) := by decide +kernel
theorem dX15_equation_54 : decode cX15_equation 54 = .ok (.iload_n 2, 1) := by decide +kernel
theorem dX15_equation_55 : decode cX15_equation 55 = .ok (.ldc_w 432, 3) := by decide +kernel
theorem dX15_equation_58 : decode cX15_equation 58 = .ok (.if_icmp .ne 7, 3) := by decide +kernel
theorem dX15_equation_65 : decode cX15_equation 65 = .ok (.iconst 0, 1) := by decide +kernel
theorem dX15_equation_66 : decode cX15_equation 66 = .ok (.putfield 433, 3) := by decide +kernel
theorem dX15_equation_69 : decode cX15_equation 69 = .ok (.aload_n 0, 1) := by decide +kernel
theorem dX15_equation_70 : decode cX15_equation 70 = .ok (.getfield 433, 3) := by decide +kernel
theorem dX15_equation_73 : decode cX15_equation 73 = .ok (.ifCond .ne 12, 3) := by decide +kernel
theorem dX15_equation_76 : decode cX15_equation 76 = .ok (.aload_n 0, 1) := by decide +kernel
theorem dX15_equation_77 : decode cX15_equation 77 = .ok (.iconst 1, 1) := by decide +kernel
theorem dX15_equation_78 : decode cX15_equation 78 = .ok (.aload_n 0, 1) := by decide +kernel
theorem dX15_equation_79 : decode cX15_equation 79 = .ok (.getfield 303, 3) := by decide +kernel
theorem dX15_equation_82 : decode cX15_equation 82 = .ok (.invokevirtual 323, 3) := by decide +kernel
theorem dX15_equation_85 : decode cX15_equation 85 = .ok (.aload_n 0, 1) := by decide +kernel
theorem dX15_equation_86 : decode cX15_equation 86 = .ok (.aload_n 0, 1) := by decide +kernel
theorem dX15_equation_87 : decode cX15_equation 87 = .ok (.getfield 433, 3) := by decide +kernel
theorem dX15_equation_90 : decode cX15_equation 90 = .ok (.iconst 1, 1) := by decide +kernel
theorem dX15_equation_91 : decode cX15_equation 91 = .ok (.isub, 1) := by decide +kernel
theorem dX15_equation_92 : decode cX15_equation 92 = .ok (.putfield 341, 3) := by decide +kernel
theorem dX15_equation_95 : decode cX15_equation 95 = .ok (.aload_n 0, 1) := by decide +kernel
theorem dX15_equation_96 : decode cX15_equation 96 = .ok (.getfield 310, 3) := by decide +kernel
theorem dX15_equation_99 : decode cX15_equation 99 = .ok (.ifCond .ne 7, 3) := by decide +kernel
theorem dX15_equation_106 : decode cX15_equation 106 = .ok (.aload_n 0, 1) := by decide +kernel
theorem dX15_equation_107 : decode cX15_equation 107 = .ok (.getfield 310, 3) := by decide +kernel
theorem dX15_equation_110 : decode cX15_equation 110 = .ok (.ifCond .ne 11, 3) := by decide +kernel
theorem dX15_equation_121 : decode cX15_equation 121 = .ok (.aload_n 0, 1) := by decide +kernel
theorem dX15_equation_122 : decode cX15_equation 122 = .ok (.invokevirtual 440, 3) := by decide +kernel
theorem dX15_equation_125 : decode cX15_equation 125 = .ok (.aload_n 0, 1) := by decide +kernel
theorem dX15_equation_126 : decode cX15_equation 126 = .ok (.getfield 310, 3) := by decide +kernel
theorem dX15_equation_129 : decode cX15_equation 129 = .ok (.ifCond .eq 11, 3) := by decide +kernel
theorem dX15_equation_132 : decode cX15_equation 132 = .ok (.aload_n 0, 1) := by decide +kernel
theorem dX15_equation_133 : decode cX15_equation 133 = .ok (.getfield 310, 3) := by decide +kernel
theorem dX15_equation_136 : decode cX15_equation 136 = .ok (.bipush 10, 2) := by decide +kernel
theorem dX15_equation_138 : decode cX15_equation 138 = .ok (.isub, 1) := by decide +kernel
theorem dX15_equation_139 : decode cX15_equation 139 = .ok (.ireturn, 1) := by decide +kernel
theorem dX15_equation_18 : decode cX15_equation 18 = .ok (.iconst 1, 1) := by decide +kernel
theorem dX15_equation_19 : decode cX15_equation 19 = .ok (.goto 4, 3) := by decide +kernel
theorem dX15_equation_30 : decode cX15_equation 30 = .ok (.iconst 0, 1) := by decide +kernel
theorem dX15_equation_31 : decode cX15_equation 31 = .ok (.ireturn, 1) := by decide +kernel
def wv_m_bad1 : List Cond := .code yX15_bad cX15_bad 3 (some .boolean) :: ([.fieldLink RX15 296 "MotionSignsModel" "thrown" "I"] ++ (wsX150 ++ ([])))
theorem gw_m_bad1 : wv_m_bad1.all goodWord = true := by decide +kernel
theorem in_m_bad1_X15 : ∀ w ∈ wsX150, w ∈ wv_m_bad1 := fun _ h => List.mem_cons_of_mem _ (List.mem_append_right _ (List.mem_append_left _ h))
set_option maxHeartbeats 4000000 in
set_option maxRecDepth 100000 in
/-- bad -/
theorem c_m_bad1 (l : Launch) (dC : Nat → ClassId) (dI : Nat → Nat → Nat) (h0 : Nat) (qfed : Nat) (qf : Nat) (qfd : Nat) (qs : Nat) (qk : Nat) (fs_h0 : List Value) (hF_h0 : mF 89 [(0, .int 0), (18, .int 0), (19, .int 0), (20, .int (-1)), (21, .int 0), (22, .int 0), (23, .int 0), (24, .int 0), (25, .int 0), (27, .int 0), (28, .int 0), (29, .int 0), (35, .int 0), (17, .int (-1)), (26, .ref qfed), (30, .ref qf), (31, .ref qfd), (33, .ref qs), (36, .ref qk)] fs_h0) (sz : Nat) : Met l yX15_bad wv_m_bad1 ({ frames := 0, cells := 0, slots := 0, locals := 0 }) (va_Pc [.ref h0, .int 1, .int 1] (fun U => U.heap.size = sz ∧ va_P (dC, dI) vwCl [(h0, .inr (15, fs_h0))] U.heap ∧ va_K (dC, dI) vwCl [] U ∧ va_D (fun _ => True) [(h0, .inr (15, fs_h0))] ∧ w_N U)) (va_Qi (fun (r : Int32) (_ : Unit) => r = 1) (fun _ t => ∃ (fs_h02 : List Value), va_P (dC, dI) vwCl [(h0, .inr (15, fs_h02))] t.heap ∧ va_K (dC, dI) vwCl [] t ∧ va_D (va_A [(h0, .inr (15, fs_h0))] sz) [(h0, .inr (15, fs_h02))] ∧ mF 89 [(0, .int 1), (18, .int 0), (19, .int 0), (20, .int (-1)), (21, .int 0), (22, .int 0), (23, .int 0), (24, .int 0), (25, .int 0), (27, .int 0), (28, .int 0), (29, .int 0), (35, .int 0), (17, .int (-1)), (26, .ref qfed), (30, .ref qf), (31, .ref qfd), (33, .ref qs), (36, .ref qk)] fs_h02) (va_A [(h0, .inr (15, fs_h0))] sz)) 0 0 (va_A [(h0, .inr (15, fs_h0))] sz) := by
  refine Met.ofW (cc := cX15_bad) (maxL := 3) (ret := (some .boolean)) (by decide) rfl ?_
  intro p e s m args below meth c s₁ B hml hv
  obtain ⟨rfl, hsz, hP, hK, hD0, hN⟩ := hv
  have hx := B.exec
  have hb := B.bytes
  have hr := B.returns
  have hts := atoms_spec (ws := wv_m_bad1) B.pre
  have hown : s.vm.findClass RX15 = some m.cls := findClass_of_methodNamed B.named
  have hlocks := B.notSynchronized
  subst hsz
  have hD := hD0.self (sz := s.heap.size)
  generalize hAe : va_A [(h0, .inr (15, fs_h0))] s.heap.size = A at hD ⊢
  have hA : ∀ q : Nat, s.heap.size ≤ q → A q := fun q h => by rw [← hAe]; exact Or.inr h
  obtain ⟨H, hHe, hP, hS⟩ : ∃ H : Heap, H = s.heap ∧ va_P (dC, dI) vwCl [(h0, .inr (15, fs_h0))] H ∧ va_S A s.heap H [] := ⟨s.heap, rfl, hP, va_S.rf⟩
  have hl := lv_entry ([.ref h0, .int 1, .int 1]) (n := 3) (Nat.le_of_ble_eq_true rfl)
  rw [lg_entry_eq]
  generalize (lg_sl ([.ref h0, .int 1, .int 1]) ++ List.replicate (3 - (lg_sl ([.ref h0, .int 1, .int 1])).length) Slot.unset).toArray = ls at hl ⊢
  have hl : lv_has ls 3 [(0, .ref h0), (1, .int 1), (2, .int 1)] := hl
  rw [← hHe]; clear hHe
  refine lv_iload_n hx hb dX15_bad_0 rfl (lv_at hl 1 rfl) ?_
  refine lv_if_eq (tgt := 16) hx hb dX15_bad_1 (by decide) (fun hc => absurd hc (by decide)) (fun _ => ?_)
  refine lv_aload_n hx hb dX15_bad_4 rfl (lv_at hl 0 rfl) ?_
  refine va_get (D := (dC, dI)) (ci := 15) (v := .int 0) (C := RX15) (T := TX15) (N := 89) hx hb hts (in_m_bad1_X15) hown hK hP 0 rfl rfl 0 (by decide) (hts (.fieldLink RX15 296 "MotionSignsModel" "thrown" "I") (List.mem_of_getElem? (i := 1) rfl)) (fun _ h9 => h9) (mF.get hF_h0 0 rfl) dX15_bad_5 ?_
  refine lv_if_ne (tgt := 16) hx hb dX15_bad_8 (by decide) (fun hc => absurd (by decide) hc) (fun _ => ?_)
  refine lv_aload_n hx hb dX15_bad_11 rfl (lv_at hl 0 rfl) ?_
  refine lv_iload_n hx hb dX15_bad_12 rfl (lv_at hl 2 rfl) ?_
  refine va_put (D := (dC, dI)) (ci := 15) (v := .int 1) (ty := .int) (C := RX15) (T := TX15) (N := 89) hx hb hts (in_m_bad1_X15) tyX15 tyX15_ok nmX15 hown hK hP hD hS 0 rfl rfl 0 (by decide) (hts (.fieldLink RX15 296 "MotionSignsModel" "thrown" "I") (List.mem_of_getElem? (i := 1) rfl)) (fun _ h9 => h9) rfl (tyX15_ok 0 (by decide)) rfl rfl (mF.lt hF_h0 (by decide)) dX15_bad_13 ?_
  clear hP hD hS; try clear H
  intro H locs hP hD hS
  have hF0 := mF.sub (L' := [(18, .int 0), (19, .int 0), (20, .int (-1)), (21, .int 0), (22, .int 0), (23, .int 0), (24, .int 0), (25, .int 0), (27, .int 0), (28, .int 0), (29, .int 0), (35, .int 0), (17, .int (-1)), (26, .ref qfed), (30, .ref qf), (31, .ref qfd), (33, .ref qs), (36, .ref qk)]) hF_h0 [1, 2, 3, 4, 5, 6, 7, 8, 9, 10, 11, 12, 13, 14, 15, 16, 17, 18] rfl
  have hF1 := mF.put hF0 0 (.int 1) (by decide) rfl
  replace hP : va_P (dC, dI) vwCl [(h0, .inr (15, (fs_h0.set 0 (.int 1))))] H := hP
  replace hD : va_D A [(h0, .inr (15, (fs_h0.set 0 (.int 1))))] := hD
  generalize fs_h0.set 0 (.int 1) = fs_1 at hP hD hF1
  replace hF_h0 : mF 89 [(0, .int 1), (18, .int 0), (19, .int 0), (20, .int (-1)), (21, .int 0), (22, .int 0), (23, .int 0), (24, .int 0), (25, .int 0), (27, .int 0), (28, .int 0), (29, .int 0), (35, .int 0), (17, .int (-1)), (26, .ref qfed), (30, .ref qf), (31, .ref qfd), (33, .ref qs), (36, .ref qk)] fs_1 := hF1
  clear hF1 hF0
  replace hP : va_P (dC, dI) vwCl [(h0, .inr (15, fs_1))] H := hP
  replace hD : va_D A [(h0, .inr (15, fs_1))] := hD
  refine lv_aload_n hx hb dX15_bad_16 rfl (lv_at hl 0 rfl) ?_
  refine va_get (D := (dC, dI)) (ci := 15) (v := .int 1) (C := RX15) (T := TX15) (N := 89) hx hb hts (in_m_bad1_X15) hown hK hP 0 rfl rfl 0 (by decide) (hts (.fieldLink RX15 296 "MotionSignsModel" "thrown" "I") (List.mem_of_getElem? (i := 1) rfl)) (fun _ h9 => h9) (mF.get hF_h0 0 rfl) dX15_bad_17 ?_
  refine lv_if_eq (tgt := 27) hx hb dX15_bad_20 (by decide) (fun hc => absurd hc (by decide)) (fun _ => ?_)
  refine lv_iconst (v := 1) hx hb dX15_bad_23 (by decide) ?_
  refine lv_goto (tgt := 28) hx hb dX15_bad_24 (by decide) ?_
  have hP9 := hP.sub (ws' := [(h0, .inr (15, fs_1))]) [0] rfl
  have hD9 := hD.sub (ws' := [(h0, .inr (15, fs_1))]) [0] (by decide) rfl
  have hK9 := hK.sub (tys' := []) [] rfl
  rw [← hAe] at hD9
  refine W.widen (k := 0) (n := 0) (Nat.le_of_ble_eq_true rfl) (Nat.le_of_ble_eq_true rfl) ?_
  subst hAe
  exact (W.zret (v := 1) hx hb hr (by decide) (fun t ht hW => ⟨⟨1, (), rfl, rfl, fs_1, by rw [ht]; exact hP9, va_K.moved hW.alike hK9, hD9, (mF.sub hF_h0 [0, 1, 2, 3, 4, 5, 6, 7, 8, 9, 10, 11, 12, 13, 14, 15, 16, 17, 18] rfl)⟩, hS.F ht⟩) hS.2.2 dX15_bad_28)
def wv_m_bad2 : List Cond := .code yX15_bad cX15_bad 3 (some .boolean) :: ([.fieldLink RX15 296 "MotionSignsModel" "thrown" "I"] ++ (wsX150 ++ ([])))
theorem gw_m_bad2 : wv_m_bad2.all goodWord = true := by decide +kernel
theorem in_m_bad2_X15 : ∀ w ∈ wsX150, w ∈ wv_m_bad2 := fun _ h => List.mem_cons_of_mem _ (List.mem_append_right _ (List.mem_append_left _ h))
set_option maxHeartbeats 4000000 in
set_option maxRecDepth 100000 in
/-- bad -/
theorem c_m_bad2 (l : Launch) (dC : Nat → ClassId) (dI : Nat → Nat → Nat) (h0 : Nat) (qfed : Nat) (qf : Nat) (qfd : Nat) (qs : Nat) (qk : Nat) (fs_h0 : List Value) (hF_h0 : mF 89 [(0, .int 0), (18, .int 0), (19, .int 0), (20, .int (-1)), (21, .int 0), (22, .int 0), (23, .int 0), (24, .int 0), (25, .int 0), (27, .int 0), (28, .int 0), (29, .int 0), (35, .int 0), (17, .int (-1)), (26, .ref qfed), (30, .ref qf), (31, .ref qfd), (33, .ref qs), (36, .ref qk)] fs_h0) (sz : Nat) : Met l yX15_bad wv_m_bad2 ({ frames := 0, cells := 0, slots := 0, locals := 0 }) (va_Pc [.ref h0, .int 1, .int 2] (fun U => U.heap.size = sz ∧ va_P (dC, dI) vwCl [(h0, .inr (15, fs_h0))] U.heap ∧ va_K (dC, dI) vwCl [] U ∧ va_D (fun _ => True) [(h0, .inr (15, fs_h0))] ∧ w_N U)) (va_Qi (fun (r : Int32) (_ : Unit) => r = 1) (fun _ t => ∃ (fs_h02 : List Value), va_P (dC, dI) vwCl [(h0, .inr (15, fs_h02))] t.heap ∧ va_K (dC, dI) vwCl [] t ∧ va_D (va_A [(h0, .inr (15, fs_h0))] sz) [(h0, .inr (15, fs_h02))] ∧ mF 89 [(0, .int 2), (18, .int 0), (19, .int 0), (20, .int (-1)), (21, .int 0), (22, .int 0), (23, .int 0), (24, .int 0), (25, .int 0), (27, .int 0), (28, .int 0), (29, .int 0), (35, .int 0), (17, .int (-1)), (26, .ref qfed), (30, .ref qf), (31, .ref qfd), (33, .ref qs), (36, .ref qk)] fs_h02) (va_A [(h0, .inr (15, fs_h0))] sz)) 0 0 (va_A [(h0, .inr (15, fs_h0))] sz) := by
  refine Met.ofW (cc := cX15_bad) (maxL := 3) (ret := (some .boolean)) (by decide) rfl ?_
  intro p e s m args below meth c s₁ B hml hv
  obtain ⟨rfl, hsz, hP, hK, hD0, hN⟩ := hv
  have hx := B.exec
  have hb := B.bytes
  have hr := B.returns
  have hts := atoms_spec (ws := wv_m_bad2) B.pre
  have hown : s.vm.findClass RX15 = some m.cls := findClass_of_methodNamed B.named
  have hlocks := B.notSynchronized
  subst hsz
  have hD := hD0.self (sz := s.heap.size)
  generalize hAe : va_A [(h0, .inr (15, fs_h0))] s.heap.size = A at hD ⊢
  have hA : ∀ q : Nat, s.heap.size ≤ q → A q := fun q h => by rw [← hAe]; exact Or.inr h
  obtain ⟨H, hHe, hP, hS⟩ : ∃ H : Heap, H = s.heap ∧ va_P (dC, dI) vwCl [(h0, .inr (15, fs_h0))] H ∧ va_S A s.heap H [] := ⟨s.heap, rfl, hP, va_S.rf⟩
  have hl := lv_entry ([.ref h0, .int 1, .int 2]) (n := 3) (Nat.le_of_ble_eq_true rfl)
  rw [lg_entry_eq]
  generalize (lg_sl ([.ref h0, .int 1, .int 2]) ++ List.replicate (3 - (lg_sl ([.ref h0, .int 1, .int 2])).length) Slot.unset).toArray = ls at hl ⊢
  have hl : lv_has ls 3 [(0, .ref h0), (1, .int 1), (2, .int 2)] := hl
  rw [← hHe]; clear hHe
  refine lv_iload_n hx hb dX15_bad_0 rfl (lv_at hl 1 rfl) ?_
  refine lv_if_eq (tgt := 16) hx hb dX15_bad_1 (by decide) (fun hc => absurd hc (by decide)) (fun _ => ?_)
  refine lv_aload_n hx hb dX15_bad_4 rfl (lv_at hl 0 rfl) ?_
  refine va_get (D := (dC, dI)) (ci := 15) (v := .int 0) (C := RX15) (T := TX15) (N := 89) hx hb hts (in_m_bad2_X15) hown hK hP 0 rfl rfl 0 (by decide) (hts (.fieldLink RX15 296 "MotionSignsModel" "thrown" "I") (List.mem_of_getElem? (i := 1) rfl)) (fun _ h9 => h9) (mF.get hF_h0 0 rfl) dX15_bad_5 ?_
  refine lv_if_ne (tgt := 16) hx hb dX15_bad_8 (by decide) (fun hc => absurd (by decide) hc) (fun _ => ?_)
  refine lv_aload_n hx hb dX15_bad_11 rfl (lv_at hl 0 rfl) ?_
  refine lv_iload_n hx hb dX15_bad_12 rfl (lv_at hl 2 rfl) ?_
  refine va_put (D := (dC, dI)) (ci := 15) (v := .int 2) (ty := .int) (C := RX15) (T := TX15) (N := 89) hx hb hts (in_m_bad2_X15) tyX15 tyX15_ok nmX15 hown hK hP hD hS 0 rfl rfl 0 (by decide) (hts (.fieldLink RX15 296 "MotionSignsModel" "thrown" "I") (List.mem_of_getElem? (i := 1) rfl)) (fun _ h9 => h9) rfl (tyX15_ok 0 (by decide)) rfl rfl (mF.lt hF_h0 (by decide)) dX15_bad_13 ?_
  clear hP hD hS; try clear H
  intro H locs hP hD hS
  have hF0 := mF.sub (L' := [(18, .int 0), (19, .int 0), (20, .int (-1)), (21, .int 0), (22, .int 0), (23, .int 0), (24, .int 0), (25, .int 0), (27, .int 0), (28, .int 0), (29, .int 0), (35, .int 0), (17, .int (-1)), (26, .ref qfed), (30, .ref qf), (31, .ref qfd), (33, .ref qs), (36, .ref qk)]) hF_h0 [1, 2, 3, 4, 5, 6, 7, 8, 9, 10, 11, 12, 13, 14, 15, 16, 17, 18] rfl
  have hF1 := mF.put hF0 0 (.int 2) (by decide) rfl
  replace hP : va_P (dC, dI) vwCl [(h0, .inr (15, (fs_h0.set 0 (.int 2))))] H := hP
  replace hD : va_D A [(h0, .inr (15, (fs_h0.set 0 (.int 2))))] := hD
  generalize fs_h0.set 0 (.int 2) = fs_1 at hP hD hF1
  replace hF_h0 : mF 89 [(0, .int 2), (18, .int 0), (19, .int 0), (20, .int (-1)), (21, .int 0), (22, .int 0), (23, .int 0), (24, .int 0), (25, .int 0), (27, .int 0), (28, .int 0), (29, .int 0), (35, .int 0), (17, .int (-1)), (26, .ref qfed), (30, .ref qf), (31, .ref qfd), (33, .ref qs), (36, .ref qk)] fs_1 := hF1
  clear hF1 hF0
  replace hP : va_P (dC, dI) vwCl [(h0, .inr (15, fs_1))] H := hP
  replace hD : va_D A [(h0, .inr (15, fs_1))] := hD
  refine lv_aload_n hx hb dX15_bad_16 rfl (lv_at hl 0 rfl) ?_
  refine va_get (D := (dC, dI)) (ci := 15) (v := .int 2) (C := RX15) (T := TX15) (N := 89) hx hb hts (in_m_bad2_X15) hown hK hP 0 rfl rfl 0 (by decide) (hts (.fieldLink RX15 296 "MotionSignsModel" "thrown" "I") (List.mem_of_getElem? (i := 1) rfl)) (fun _ h9 => h9) (mF.get hF_h0 0 rfl) dX15_bad_17 ?_
  refine lv_if_eq (tgt := 27) hx hb dX15_bad_20 (by decide) (fun hc => absurd hc (by decide)) (fun _ => ?_)
  refine lv_iconst (v := 1) hx hb dX15_bad_23 (by decide) ?_
  refine lv_goto (tgt := 28) hx hb dX15_bad_24 (by decide) ?_
  have hP9 := hP.sub (ws' := [(h0, .inr (15, fs_1))]) [0] rfl
  have hD9 := hD.sub (ws' := [(h0, .inr (15, fs_1))]) [0] (by decide) rfl
  have hK9 := hK.sub (tys' := []) [] rfl
  rw [← hAe] at hD9
  refine W.widen (k := 0) (n := 0) (Nat.le_of_ble_eq_true rfl) (Nat.le_of_ble_eq_true rfl) ?_
  subst hAe
  exact (W.zret (v := 1) hx hb hr (by decide) (fun t ht hW => ⟨⟨1, (), rfl, rfl, fs_1, by rw [ht]; exact hP9, va_K.moved hW.alike hK9, hD9, (mF.sub hF_h0 [0, 1, 2, 3, 4, 5, 6, 7, 8, 9, 10, 11, 12, 13, 14, 15, 16, 17, 18] rfl)⟩, hS.F ht⟩) hS.2.2 dX15_bad_28)
def wv_m_bad3 : List Cond := .code yX15_bad cX15_bad 3 (some .boolean) :: ([.fieldLink RX15 296 "MotionSignsModel" "thrown" "I"] ++ (wsX150 ++ ([])))
theorem gw_m_bad3 : wv_m_bad3.all goodWord = true := by decide +kernel
theorem in_m_bad3_X15 : ∀ w ∈ wsX150, w ∈ wv_m_bad3 := fun _ h => List.mem_cons_of_mem _ (List.mem_append_right _ (List.mem_append_left _ h))
set_option maxHeartbeats 4000000 in
set_option maxRecDepth 100000 in
/-- bad -/
theorem c_m_bad3 (l : Launch) (dC : Nat → ClassId) (dI : Nat → Nat → Nat) (h0 : Nat) (qfed : Nat) (qf : Nat) (qfd : Nat) (qs : Nat) (qk : Nat) (fs_h0 : List Value) (hF_h0 : mF 89 [(0, .int 0), (18, .int 0), (19, .int 0), (20, .int (-1)), (21, .int 0), (22, .int 0), (23, .int 0), (24, .int 0), (25, .int 0), (27, .int 0), (28, .int 0), (29, .int 0), (35, .int 0), (17, .int (-1)), (26, .ref qfed), (30, .ref qf), (31, .ref qfd), (33, .ref qs), (36, .ref qk)] fs_h0) (sz : Nat) : Met l yX15_bad wv_m_bad3 ({ frames := 0, cells := 0, slots := 0, locals := 0 }) (va_Pc [.ref h0, .int 1, .int 3] (fun U => U.heap.size = sz ∧ va_P (dC, dI) vwCl [(h0, .inr (15, fs_h0))] U.heap ∧ va_K (dC, dI) vwCl [] U ∧ va_D (fun _ => True) [(h0, .inr (15, fs_h0))] ∧ w_N U)) (va_Qi (fun (r : Int32) (_ : Unit) => r = 1) (fun _ t => ∃ (fs_h02 : List Value), va_P (dC, dI) vwCl [(h0, .inr (15, fs_h02))] t.heap ∧ va_K (dC, dI) vwCl [] t ∧ va_D (va_A [(h0, .inr (15, fs_h0))] sz) [(h0, .inr (15, fs_h02))] ∧ mF 89 [(0, .int 3), (18, .int 0), (19, .int 0), (20, .int (-1)), (21, .int 0), (22, .int 0), (23, .int 0), (24, .int 0), (25, .int 0), (27, .int 0), (28, .int 0), (29, .int 0), (35, .int 0), (17, .int (-1)), (26, .ref qfed), (30, .ref qf), (31, .ref qfd), (33, .ref qs), (36, .ref qk)] fs_h02) (va_A [(h0, .inr (15, fs_h0))] sz)) 0 0 (va_A [(h0, .inr (15, fs_h0))] sz) := by
  refine Met.ofW (cc := cX15_bad) (maxL := 3) (ret := (some .boolean)) (by decide) rfl ?_
  intro p e s m args below meth c s₁ B hml hv
  obtain ⟨rfl, hsz, hP, hK, hD0, hN⟩ := hv
  have hx := B.exec
  have hb := B.bytes
  have hr := B.returns
  have hts := atoms_spec (ws := wv_m_bad3) B.pre
  have hown : s.vm.findClass RX15 = some m.cls := findClass_of_methodNamed B.named
  have hlocks := B.notSynchronized
  subst hsz
  have hD := hD0.self (sz := s.heap.size)
  generalize hAe : va_A [(h0, .inr (15, fs_h0))] s.heap.size = A at hD ⊢
  have hA : ∀ q : Nat, s.heap.size ≤ q → A q := fun q h => by rw [← hAe]; exact Or.inr h
  obtain ⟨H, hHe, hP, hS⟩ : ∃ H : Heap, H = s.heap ∧ va_P (dC, dI) vwCl [(h0, .inr (15, fs_h0))] H ∧ va_S A s.heap H [] := ⟨s.heap, rfl, hP, va_S.rf⟩
  have hl := lv_entry ([.ref h0, .int 1, .int 3]) (n := 3) (Nat.le_of_ble_eq_true rfl)
  rw [lg_entry_eq]
  generalize (lg_sl ([.ref h0, .int 1, .int 3]) ++ List.replicate (3 - (lg_sl ([.ref h0, .int 1, .int 3])).length) Slot.unset).toArray = ls at hl ⊢
  have hl : lv_has ls 3 [(0, .ref h0), (1, .int 1), (2, .int 3)] := hl
  rw [← hHe]; clear hHe
  refine lv_iload_n hx hb dX15_bad_0 rfl (lv_at hl 1 rfl) ?_
  refine lv_if_eq (tgt := 16) hx hb dX15_bad_1 (by decide) (fun hc => absurd hc (by decide)) (fun _ => ?_)
  refine lv_aload_n hx hb dX15_bad_4 rfl (lv_at hl 0 rfl) ?_
  refine va_get (D := (dC, dI)) (ci := 15) (v := .int 0) (C := RX15) (T := TX15) (N := 89) hx hb hts (in_m_bad3_X15) hown hK hP 0 rfl rfl 0 (by decide) (hts (.fieldLink RX15 296 "MotionSignsModel" "thrown" "I") (List.mem_of_getElem? (i := 1) rfl)) (fun _ h9 => h9) (mF.get hF_h0 0 rfl) dX15_bad_5 ?_
  refine lv_if_ne (tgt := 16) hx hb dX15_bad_8 (by decide) (fun hc => absurd (by decide) hc) (fun _ => ?_)
  refine lv_aload_n hx hb dX15_bad_11 rfl (lv_at hl 0 rfl) ?_
  refine lv_iload_n hx hb dX15_bad_12 rfl (lv_at hl 2 rfl) ?_
  refine va_put (D := (dC, dI)) (ci := 15) (v := .int 3) (ty := .int) (C := RX15) (T := TX15) (N := 89) hx hb hts (in_m_bad3_X15) tyX15 tyX15_ok nmX15 hown hK hP hD hS 0 rfl rfl 0 (by decide) (hts (.fieldLink RX15 296 "MotionSignsModel" "thrown" "I") (List.mem_of_getElem? (i := 1) rfl)) (fun _ h9 => h9) rfl (tyX15_ok 0 (by decide)) rfl rfl (mF.lt hF_h0 (by decide)) dX15_bad_13 ?_
  clear hP hD hS; try clear H
  intro H locs hP hD hS
  have hF0 := mF.sub (L' := [(18, .int 0), (19, .int 0), (20, .int (-1)), (21, .int 0), (22, .int 0), (23, .int 0), (24, .int 0), (25, .int 0), (27, .int 0), (28, .int 0), (29, .int 0), (35, .int 0), (17, .int (-1)), (26, .ref qfed), (30, .ref qf), (31, .ref qfd), (33, .ref qs), (36, .ref qk)]) hF_h0 [1, 2, 3, 4, 5, 6, 7, 8, 9, 10, 11, 12, 13, 14, 15, 16, 17, 18] rfl
  have hF1 := mF.put hF0 0 (.int 3) (by decide) rfl
  replace hP : va_P (dC, dI) vwCl [(h0, .inr (15, (fs_h0.set 0 (.int 3))))] H := hP
  replace hD : va_D A [(h0, .inr (15, (fs_h0.set 0 (.int 3))))] := hD
  generalize fs_h0.set 0 (.int 3) = fs_1 at hP hD hF1
  replace hF_h0 : mF 89 [(0, .int 3), (18, .int 0), (19, .int 0), (20, .int (-1)), (21, .int 0), (22, .int 0), (23, .int 0), (24, .int 0), (25, .int 0), (27, .int 0), (28, .int 0), (29, .int 0), (35, .int 0), (17, .int (-1)), (26, .ref qfed), (30, .ref qf), (31, .ref qfd), (33, .ref qs), (36, .ref qk)] fs_1 := hF1
  clear hF1 hF0
  replace hP : va_P (dC, dI) vwCl [(h0, .inr (15, fs_1))] H := hP
  replace hD : va_D A [(h0, .inr (15, fs_1))] := hD
  refine lv_aload_n hx hb dX15_bad_16 rfl (lv_at hl 0 rfl) ?_
  refine va_get (D := (dC, dI)) (ci := 15) (v := .int 3) (C := RX15) (T := TX15) (N := 89) hx hb hts (in_m_bad3_X15) hown hK hP 0 rfl rfl 0 (by decide) (hts (.fieldLink RX15 296 "MotionSignsModel" "thrown" "I") (List.mem_of_getElem? (i := 1) rfl)) (fun _ h9 => h9) (mF.get hF_h0 0 rfl) dX15_bad_17 ?_
  refine lv_if_eq (tgt := 27) hx hb dX15_bad_20 (by decide) (fun hc => absurd hc (by decide)) (fun _ => ?_)
  refine lv_iconst (v := 1) hx hb dX15_bad_23 (by decide) ?_
  refine lv_goto (tgt := 28) hx hb dX15_bad_24 (by decide) ?_
  have hP9 := hP.sub (ws' := [(h0, .inr (15, fs_1))]) [0] rfl
  have hD9 := hD.sub (ws' := [(h0, .inr (15, fs_1))]) [0] (by decide) rfl
  have hK9 := hK.sub (tys' := []) [] rfl
  rw [← hAe] at hD9
  refine W.widen (k := 0) (n := 0) (Nat.le_of_ble_eq_true rfl) (Nat.le_of_ble_eq_true rfl) ?_
  subst hAe
  exact (W.zret (v := 1) hx hb hr (by decide) (fun t ht hW => ⟨⟨1, (), rfl, rfl, fs_1, by rw [ht]; exact hP9, va_K.moved hW.alike hK9, hD9, (mF.sub hF_h0 [0, 1, 2, 3, 4, 5, 6, 7, 8, 9, 10, 11, 12, 13, 14, 15, 16, 17, 18] rfl)⟩, hS.F ht⟩) hS.2.2 dX15_bad_28)
def wv_m_bad0 : List Cond := .code yX15_bad cX15_bad 3 (some .boolean) :: ([.fieldLink RX15 296 "MotionSignsModel" "thrown" "I"] ++ (wsX150 ++ ([])))
theorem gw_m_bad0 : wv_m_bad0.all goodWord = true := by decide +kernel
theorem in_m_bad0_X15 : ∀ w ∈ wsX150, w ∈ wv_m_bad0 := fun _ h => List.mem_cons_of_mem _ (List.mem_append_right _ (List.mem_append_left _ h))
set_option maxHeartbeats 4000000 in
set_option maxRecDepth 100000 in
/-- bad -/
theorem c_m_bad0 (l : Launch) (dC : Nat → ClassId) (dI : Nat → Nat → Nat) (h0 : Nat) (w : Int32) (fs_h0 : List Value) (hF_h0 : mF 89 [(0, .int 0)] fs_h0) (sz : Nat) : Met l yX15_bad wv_m_bad0 ({ frames := 0, cells := 0, slots := 0, locals := 0 }) (va_Pc [.ref h0, .int 0, .int w] (fun U => U.heap.size = sz ∧ va_P (dC, dI) vwCl [(h0, .inr (15, fs_h0))] U.heap ∧ va_K (dC, dI) vwCl [] U ∧ va_D (fun _ => True) [(h0, .inr (15, fs_h0))] ∧ w_N U)) (va_Qi (fun (r : Int32) (_ : Unit) => r = 0) (fun _ t => va_P (dC, dI) vwCl [(h0, .inr (15, fs_h0))] t.heap ∧ va_K (dC, dI) vwCl [] t ∧ va_D (va_A [(h0, .inr (15, fs_h0))] sz) [(h0, .inr (15, fs_h0))]) (va_A [(h0, .inr (15, fs_h0))] sz)) 0 0 (va_A [(h0, .inr (15, fs_h0))] sz) := by
  refine Met.ofW (cc := cX15_bad) (maxL := 3) (ret := (some .boolean)) (by decide) rfl ?_
  intro p e s m args below meth c s₁ B hml hv
  obtain ⟨rfl, hsz, hP, hK, hD0, hN⟩ := hv
  have hx := B.exec
  have hb := B.bytes
  have hr := B.returns
  have hts := atoms_spec (ws := wv_m_bad0) B.pre
  have hown : s.vm.findClass RX15 = some m.cls := findClass_of_methodNamed B.named
  have hlocks := B.notSynchronized
  subst hsz
  have hD := hD0.self (sz := s.heap.size)
  generalize hAe : va_A [(h0, .inr (15, fs_h0))] s.heap.size = A at hD ⊢
  have hA : ∀ q : Nat, s.heap.size ≤ q → A q := fun q h => by rw [← hAe]; exact Or.inr h
  obtain ⟨H, hHe, hP, hS⟩ : ∃ H : Heap, H = s.heap ∧ va_P (dC, dI) vwCl [(h0, .inr (15, fs_h0))] H ∧ va_S A s.heap H [] := ⟨s.heap, rfl, hP, va_S.rf⟩
  have hl := lv_entry ([.ref h0, .int 0, .int w]) (n := 3) (Nat.le_of_ble_eq_true rfl)
  rw [lg_entry_eq]
  generalize (lg_sl ([.ref h0, .int 0, .int w]) ++ List.replicate (3 - (lg_sl ([.ref h0, .int 0, .int w])).length) Slot.unset).toArray = ls at hl ⊢
  have hl : lv_has ls 3 [(0, .ref h0), (1, .int 0), (2, .int w)] := hl
  rw [← hHe]; clear hHe
  refine lv_iload_n hx hb dX15_bad_0 rfl (lv_at hl 1 rfl) ?_
  refine lv_if_eq (tgt := 16) hx hb dX15_bad_1 (by decide) (fun _ => ?_) (fun hc => absurd (by decide) hc)
  refine lv_aload_n hx hb dX15_bad_16 rfl (lv_at hl 0 rfl) ?_
  refine va_get (D := (dC, dI)) (ci := 15) (v := .int 0) (C := RX15) (T := TX15) (N := 89) hx hb hts (in_m_bad0_X15) hown hK hP 0 rfl rfl 0 (by decide) (hts (.fieldLink RX15 296 "MotionSignsModel" "thrown" "I") (List.mem_of_getElem? (i := 1) rfl)) (fun _ h9 => h9) (mF.get hF_h0 0 rfl) dX15_bad_17 ?_
  refine lv_if_eq (tgt := 27) hx hb dX15_bad_20 (by decide) (fun _ => ?_) (fun hc => absurd (by decide) hc)
  refine lv_iconst (v := 0) hx hb dX15_bad_27 (by decide) ?_
  have hP9 := hP.sub (ws' := [(h0, .inr (15, fs_h0))]) [0] rfl
  have hD9 := hD.sub (ws' := [(h0, .inr (15, fs_h0))]) [0] (by decide) rfl
  have hK9 := hK.sub (tys' := []) [] rfl
  rw [← hAe] at hD9
  refine W.widen (k := 0) (n := 0) (Nat.le_of_ble_eq_true rfl) (Nat.le_of_ble_eq_true rfl) ?_
  subst hAe
  exact (W.zret (v := 0) hx hb hr (by decide) (fun t ht hW => ⟨⟨0, (), rfl, rfl, by rw [ht]; exact hP9, va_K.moved hW.alike hK9, hD9⟩, hS.F ht⟩) hS.2.2 dX15_bad_28)
def wv_m_in : List Cond := .code yX15_in cX15_in 3 (some .boolean) :: ([] ++ ([]))
theorem gw_m_in : wv_m_in.all goodWord = true := by decide +kernel
set_option maxHeartbeats 4000000 in
set_option maxRecDepth 100000 in
/-- in -/
theorem c_m_in (l : Launch) (dC : Nat → ClassId) (dI : Nat → Nat → Nat) (v : Int32) (lo : Int32) (hi : Int32) (sz : Nat) : Met l yX15_in wv_m_in ({ frames := 0, cells := 0, slots := 0, locals := 0 }) (va_Pc [.int v, .int lo, .int hi] (fun U => U.heap.size = sz ∧ va_P (dC, dI) vwCl [] U.heap ∧ va_K (dC, dI) vwCl [] U ∧ va_D (fun _ => True) [] ∧ w_N U)) (va_Qi (fun (r : Int32) (_ : Unit) => (r = 1 ∧ kIn v lo hi) ∨ (r = 0 ∧ ¬ kIn v lo hi)) (fun _ t => va_P (dC, dI) vwCl [] t.heap ∧ va_K (dC, dI) vwCl [] t ∧ va_D (va_A [] sz) []) (va_A [] sz)) 0 0 (va_A [] sz) := by
  refine Met.ofW (cc := cX15_in) (maxL := 3) (ret := (some .boolean)) (by decide) rfl ?_
  intro p e s m args below meth c s₁ B hml hv
  obtain ⟨rfl, hsz, hP, hK, hD0, hN⟩ := hv
  have hx := B.exec
  have hb := B.bytes
  have hr := B.returns
  have hts := atoms_spec (ws := wv_m_in) B.pre
  have hown : s.vm.findClass RX15 = some m.cls := findClass_of_methodNamed B.named
  have hlocks := B.notSynchronized
  subst hsz
  have hD := hD0.self (sz := s.heap.size)
  generalize hAe : va_A [] s.heap.size = A at hD ⊢
  have hA : ∀ q : Nat, s.heap.size ≤ q → A q := fun q h => by rw [← hAe]; exact Or.inr h
  obtain ⟨H, hHe, hP, hS⟩ : ∃ H : Heap, H = s.heap ∧ va_P (dC, dI) vwCl [] H ∧ va_S A s.heap H [] := ⟨s.heap, rfl, hP, va_S.rf⟩
  have hl := lv_entry ([.int v, .int lo, .int hi]) (n := 3) (Nat.le_of_ble_eq_true rfl)
  rw [lg_entry_eq]
  generalize (lg_sl ([.int v, .int lo, .int hi]) ++ List.replicate (3 - (lg_sl ([.int v, .int lo, .int hi])).length) Slot.unset).toArray = ls at hl ⊢
  have hl : lv_has ls 3 [(0, .int v), (1, .int lo), (2, .int hi)] := hl
  rw [← hHe]; clear hHe
  refine lv_iload_n hx hb dX15_in_0 rfl (lv_at hl 0 rfl) ?_
  refine lv_iload_n hx hb dX15_in_1 rfl (lv_at hl 1 rfl) ?_
  refine lv_icmp_lt (tgt := 14) hx hb dX15_in_2 (by decide) (fun hc_1 => ?_) (fun hc_1 => ?_)
  · skip
    refine lv_iconst (v := 0) hx hb dX15_in_14 (by decide) ?_
    have hP9 := hP.sub (ws' := []) [] rfl
    have hD9 := hD.sub (ws' := []) [] (by decide) rfl
    have hK9 := hK.sub (tys' := []) [] rfl
    rw [← hAe] at hD9
    refine W.widen (k := 0) (n := 0) (Nat.le_of_ble_eq_true rfl) (Nat.le_of_ble_eq_true rfl) ?_
    subst hAe
    exact (W.zret (v := 0) hx hb hr (by decide) (fun t ht hW => ⟨⟨0, (), rfl, Or.inr ⟨rfl, fun h9 => h9.1 hc_1⟩, by rw [ht]; exact hP9, va_K.moved hW.alike hK9, hD9⟩, hS.F ht⟩) hS.2.2 dX15_in_15)
  · skip
    refine lv_iload_n hx hb dX15_in_5 rfl (lv_at hl 0 rfl) ?_
    refine lv_iload_n hx hb dX15_in_6 rfl (lv_at hl 2 rfl) ?_
    refine lv_icmp_gt (tgt := 14) hx hb dX15_in_7 (by decide) (fun hc_2 => ?_) (fun hc_2 => ?_)
    · skip
      refine lv_iconst (v := 0) hx hb dX15_in_14 (by decide) ?_
      have hP9 := hP.sub (ws' := []) [] rfl
      have hD9 := hD.sub (ws' := []) [] (by decide) rfl
      have hK9 := hK.sub (tys' := []) [] rfl
      rw [← hAe] at hD9
      refine W.widen (k := 0) (n := 0) (Nat.le_of_ble_eq_true rfl) (Nat.le_of_ble_eq_true rfl) ?_
      subst hAe
      exact (W.zret (v := 0) hx hb hr (by decide) (fun t ht hW => ⟨⟨0, (), rfl, Or.inr ⟨rfl, fun h9 => h9.2 hc_2⟩, by rw [ht]; exact hP9, va_K.moved hW.alike hK9, hD9⟩, hS.F ht⟩) hS.2.2 dX15_in_15)
    · skip
      refine lv_iconst (v := 1) hx hb dX15_in_10 (by decide) ?_
      refine lv_goto (tgt := 15) hx hb dX15_in_11 (by decide) ?_
      have hP9 := hP.sub (ws' := []) [] rfl
      have hD9 := hD.sub (ws' := []) [] (by decide) rfl
      have hK9 := hK.sub (tys' := []) [] rfl
      rw [← hAe] at hD9
      refine W.widen (k := 0) (n := 0) (Nat.le_of_ble_eq_true rfl) (Nat.le_of_ble_eq_true rfl) ?_
      subst hAe
      exact (W.zret (v := 1) hx hb hr (by decide) (fun t ht hW => ⟨⟨1, (), rfl, Or.inl ⟨rfl, hc_1, hc_2⟩, by rw [ht]; exact hP9, va_K.moved hW.alike hK9, hD9⟩, hS.F ht⟩) hS.2.2 dX15_in_15)
def wv_m_thrown : List Cond := .code yX15_thrown cX15_thrown 1 (some .int) :: ([.fieldLink RX15 296 "MotionSignsModel" "thrown" "I"] ++ (wsX150 ++ ([])))
theorem gw_m_thrown : wv_m_thrown.all goodWord = true := by decide +kernel
theorem in_m_thrown_X15 : ∀ w ∈ wsX150, w ∈ wv_m_thrown := fun _ h => List.mem_cons_of_mem _ (List.mem_append_right _ (List.mem_append_left _ h))
set_option maxHeartbeats 4000000 in
set_option maxRecDepth 100000 in
/-- thrown -/
theorem c_m_thrown (l : Launch) (dC : Nat → ClassId) (dI : Nat → Nat → Nat) (h0 : Nat) (th : Int32) (fs_h0 : List Value) (hF_h0 : mF 89 [(0, .int th)] fs_h0) (sz : Nat) : Met l yX15_thrown wv_m_thrown ({ frames := 0, cells := 0, slots := 0, locals := 0 }) (va_Pc [.ref h0] (fun U => U.heap.size = sz ∧ va_P (dC, dI) vwCl [(h0, .inr (15, fs_h0))] U.heap ∧ va_K (dC, dI) vwCl [] U ∧ va_D (fun _ => True) [(h0, .inr (15, fs_h0))] ∧ w_N U)) (va_Qi (fun (r : Int32) (_ : Unit) => r = th) (fun _ t => va_P (dC, dI) vwCl [] t.heap ∧ va_K (dC, dI) vwCl [] t ∧ va_D (va_A [(h0, .inr (15, fs_h0))] sz) []) (va_A [(h0, .inr (15, fs_h0))] sz)) 0 0 (va_A [(h0, .inr (15, fs_h0))] sz) := by
  refine Met.ofW (cc := cX15_thrown) (maxL := 1) (ret := (some .int)) (by decide) rfl ?_
  intro p e s m args below meth c s₁ B hml hv
  obtain ⟨rfl, hsz, hP, hK, hD0, hN⟩ := hv
  have hx := B.exec
  have hb := B.bytes
  have hr := B.returns
  have hts := atoms_spec (ws := wv_m_thrown) B.pre
  have hown : s.vm.findClass RX15 = some m.cls := findClass_of_methodNamed B.named
  have hlocks := B.notSynchronized
  subst hsz
  have hD := hD0.self (sz := s.heap.size)
  generalize hAe : va_A [(h0, .inr (15, fs_h0))] s.heap.size = A at hD ⊢
  have hA : ∀ q : Nat, s.heap.size ≤ q → A q := fun q h => by rw [← hAe]; exact Or.inr h
  obtain ⟨H, hHe, hP, hS⟩ : ∃ H : Heap, H = s.heap ∧ va_P (dC, dI) vwCl [(h0, .inr (15, fs_h0))] H ∧ va_S A s.heap H [] := ⟨s.heap, rfl, hP, va_S.rf⟩
  have hl := lv_entry ([.ref h0]) (n := 1) (Nat.le_of_ble_eq_true rfl)
  rw [lg_entry_eq]
  generalize (lg_sl ([.ref h0]) ++ List.replicate (1 - (lg_sl ([.ref h0])).length) Slot.unset).toArray = ls at hl ⊢
  have hl : lv_has ls 1 [(0, .ref h0)] := hl
  rw [← hHe]; clear hHe
  refine lv_aload_n hx hb dX15_thrown_0 rfl (lv_at hl 0 rfl) ?_
  refine va_get (D := (dC, dI)) (ci := 15) (v := .int th) (C := RX15) (T := TX15) (N := 89) hx hb hts (in_m_thrown_X15) hown hK hP 0 rfl rfl 0 (by decide) (hts (.fieldLink RX15 296 "MotionSignsModel" "thrown" "I") (List.mem_of_getElem? (i := 1) rfl)) (fun _ h9 => h9) (mF.get hF_h0 0 rfl) dX15_thrown_1 ?_
  have hP9 := hP.sub (ws' := []) [] rfl
  have hD9 := hD.sub (ws' := []) [] (by decide) rfl
  have hK9 := hK.sub (tys' := []) [] rfl
  rw [← hAe] at hD9
  refine W.widen (k := 0) (n := 0) (Nat.le_of_ble_eq_true rfl) (Nat.le_of_ble_eq_true rfl) ?_
  subst hAe
  exact (W.iret (v := th) hx hb hr (fun t ht hW => ⟨⟨th, (), rfl, rfl, by rw [ht]; exact hP9, va_K.moved hW.alike hK9, hD9⟩, hS.F ht⟩) hS.2.2 dX15_thrown_4)
def wv_m_rest : List Cond := .code yX15_rest cX15_rest 2 (some .int) :: ([.fieldLink RX15 296 "MotionSignsModel" "thrown" "I", .fieldLink RX15 443 "MotionSignsModel" "kind" "I", .methodLink RX15 424 yX15_bad, .instanceMethod yX15_bad, .selects RX15 yX15_bad yX15_bad, .initialized RX15] ++ (wsX150 ++ (wv_m_bad2 ++ ([]))))
theorem gw_m_rest : wv_m_rest.all goodWord = true := by decide +kernel
theorem in_m_rest_X15 : ∀ w ∈ wsX150, w ∈ wv_m_rest := fun _ h => List.mem_cons_of_mem _ (List.mem_append_right _ (List.mem_append_left _ h))
theorem g_m_rest_m_bad2_424 : GoodIn wv_m_rest (wsV RX15 424 RX15 yX15_bad wv_m_bad2) := goodIn_app (goodIn_of _ (by decide +kernel)) (goodIn_sub (fun _ h => List.mem_cons_of_mem _ (List.mem_append_right _ (List.mem_append_right _ (List.mem_append_left _ h)))) gw_m_bad2)
set_option maxHeartbeats 4000000 in
set_option maxRecDepth 100000 in
/-- the reference: rest on a fresh object -/
theorem c_m_rest (l : Launch) (dC : Nat → ClassId) (dI : Nat → Nat → Nat) (h0 : Nat) (qfed : Nat) (qf : Nat) (qfd : Nat) (qs : Nat) (qk : Nat) (x0 : Int32) (fs_h0 : List Value) (hF_h0 : mF 89 [(0, .int 0), (18, .int 0), (19, .int 0), (20, .int (-1)), (21, .int 0), (22, .int 0), (23, .int 0), (24, .int 0), (25, .int 0), (27, .int 0), (28, .int 0), (29, .int 0), (35, .int 0), (17, .int (-1)), (26, .ref qfed), (30, .ref qf), (31, .ref qfd), (33, .ref qs), (36, .ref qk)] fs_h0) (sz : Nat) : Met l yX15_rest wv_m_rest ({ frames := 1, cells := 0, slots := 0, locals := 22 }) (va_Pc [.ref h0, .int x0] (fun U => U.heap.size = sz ∧ va_P (dC, dI) vwCl [(h0, .inr (15, fs_h0))] U.heap ∧ va_K (dC, dI) vwCl [] U ∧ va_D (fun _ => True) [(h0, .inr (15, fs_h0))] ∧ w_N U)) (va_Qi (fun (r : Int32) (_ : Unit) => True) (fun _ t => ∃ (fs_e : List Value), va_P (dC, dI) vwCl [(h0, .inr (15, fs_e))] t.heap ∧ va_K (dC, dI) vwCl [] t ∧ va_D (va_A [(h0, .inr (15, fs_h0))] sz) [(h0, .inr (15, fs_e))] ∧ mF 89 [(0, .int 2)] fs_e) (va_A [(h0, .inr (15, fs_h0))] sz)) 0 0 (va_A [(h0, .inr (15, fs_h0))] sz) := by
  refine Met.ofW (cc := cX15_rest) (maxL := 2) (ret := (some .int)) (by decide) rfl ?_
  intro p e s m args below meth c s₁ B hml hv
  obtain ⟨rfl, hsz, hP, hK, hD0, hN⟩ := hv
  have hx := B.exec
  have hb := B.bytes
  have hr := B.returns
  have hts := atoms_spec (ws := wv_m_rest) B.pre
  have hown : s.vm.findClass RX15 = some m.cls := findClass_of_methodNamed B.named
  have hlocks := B.notSynchronized
  subst hsz
  have hD := hD0.self (sz := s.heap.size)
  generalize hAe : va_A [(h0, .inr (15, fs_h0))] s.heap.size = A at hD ⊢
  have hA : ∀ q : Nat, s.heap.size ≤ q → A q := fun q h => by rw [← hAe]; exact Or.inr h
  obtain ⟨H, hHe, hP, hS⟩ : ∃ H : Heap, H = s.heap ∧ va_P (dC, dI) vwCl [(h0, .inr (15, fs_h0))] H ∧ va_S A s.heap H [] := ⟨s.heap, rfl, hP, va_S.rf⟩
  have hl := lv_entry ([.ref h0, .int x0]) (n := 2) (Nat.le_of_ble_eq_true rfl)
  rw [lg_entry_eq]
  generalize (lg_sl ([.ref h0, .int x0]) ++ List.replicate (2 - (lg_sl ([.ref h0, .int x0])).length) Slot.unset).toArray = ls at hl ⊢
  have hl : lv_has ls 2 [(0, .ref h0), (1, .int x0)] := hl
  rw [← hHe]; clear hHe
  refine lv_aload_n hx hb dX15_rest_0 rfl (lv_at hl 0 rfl) ?_
  refine lv_iconst (v := 0) hx hb dX15_rest_1 (by decide) ?_
  refine va_put (D := (dC, dI)) (ci := 15) (v := .int 0) (ty := .int) (C := RX15) (T := TX15) (N := 89) hx hb hts (in_m_rest_X15) tyX15 tyX15_ok nmX15 hown hK hP hD hS 0 rfl rfl 0 (by decide) (hts (.fieldLink RX15 296 "MotionSignsModel" "thrown" "I") (List.mem_of_getElem? (i := 1) rfl)) (fun _ h9 => h9) rfl (tyX15_ok 0 (by decide)) rfl rfl (mF.lt hF_h0 (by decide)) dX15_rest_2 ?_
  clear hP hD hS; try clear H
  intro H locs hP hD hS
  have hF0 := mF.sub (L' := [(18, .int 0), (19, .int 0), (20, .int (-1)), (21, .int 0), (22, .int 0), (23, .int 0), (24, .int 0), (25, .int 0), (27, .int 0), (28, .int 0), (29, .int 0), (35, .int 0), (17, .int (-1)), (26, .ref qfed), (30, .ref qf), (31, .ref qfd), (33, .ref qs), (36, .ref qk)]) hF_h0 [1, 2, 3, 4, 5, 6, 7, 8, 9, 10, 11, 12, 13, 14, 15, 16, 17, 18] rfl
  have hF1 := mF.put hF0 0 (.int 0) (by decide) rfl
  replace hP : va_P (dC, dI) vwCl [(h0, .inr (15, (fs_h0.set 0 (.int 0))))] H := hP
  replace hD : va_D A [(h0, .inr (15, (fs_h0.set 0 (.int 0))))] := hD
  generalize fs_h0.set 0 (.int 0) = fs_1 at hP hD hF1
  replace hF_h0 : mF 89 [(0, .int 0), (18, .int 0), (19, .int 0), (20, .int (-1)), (21, .int 0), (22, .int 0), (23, .int 0), (24, .int 0), (25, .int 0), (27, .int 0), (28, .int 0), (29, .int 0), (35, .int 0), (17, .int (-1)), (26, .ref qfed), (30, .ref qf), (31, .ref qfd), (33, .ref qs), (36, .ref qk)] fs_1 := hF1
  clear hF1 hF0
  replace hP : va_P (dC, dI) vwCl [(h0, .inr (15, fs_1))] H := hP
  replace hD : va_D A [(h0, .inr (15, fs_1))] := hD
  refine lv_aload_n hx hb dX15_rest_5 rfl (lv_at hl 0 rfl) ?_
  refine lv_aload_n hx hb dX15_rest_6 rfl (lv_at hl 0 rfl) ?_
  refine va_get (D := (dC, dI)) (ci := 15) (v := .int 0) (C := RX15) (T := TX15) (N := 89) hx hb hts (in_m_rest_X15) hown hK hP 0 rfl rfl 28 (by decide) (hts (.fieldLink RX15 443 "MotionSignsModel" "kind" "I") (List.mem_of_getElem? (i := 2) rfl)) (fun _ h9 => h9) (mF.get hF_h0 10 rfl) dX15_rest_7 ?_
  refine lv_if_ne (tgt := 17) hx hb dX15_rest_10 (by decide) (fun hc => absurd (by decide) hc) (fun _ => ?_)
  refine lv_iconst (v := 1) hx hb dX15_rest_13 (by decide) ?_
  refine lv_goto (tgt := 18) hx hb dX15_rest_14 (by decide) ?_
  refine lv_iconst (v := 2) hx hb dX15_rest_18 (by decide) ?_
  have hPc := hP.sub (ws' := [(h0, .inr (15, fs_1))]) [0] rfl
  have hDc := hD.sub (ws' := [(h0, .inr (15, fs_1))]) [0] (by decide) rfl
  have hKc := hK.sub (tys' := []) [] rfl
  have hFc := va_free (wc := [(h0, .inr (15, fs_1))]) hD hS hA [0] rfl
  refine va_calli (va_runV (As := [.int 1, .int 2]) (rest := []) ⟨hx, hb, hml, hown, hts⟩ (c_m_bad2 l dC dI h0 qfed qf qfd qs qk fs_1 (mF.sub hF_h0 [0, 1, 2, 3, 4, 5, 6, 7, 8, 9, 10, 11, 12, 13, 14, 15, 16, 17, 18] rfl) H.size) (cwV 2 hts g_m_rest_m_bad2_424 rfl rfl rfl hv_X15_bad ⟨Nat.le_of_ble_eq_true rfl, Nat.le_of_ble_eq_true rfl⟩) ⟨fun a U g mk q => by obtain ⟨q0, q1, qP, qK, qD, qE0⟩ := q; exact ⟨q0, q1, qP, va_K.moved (u := U) (U := U.calling g mk a) (Vm.Alike.refl U.vm) qK, qD, w_N.same rfl qE0⟩, va_recv hKc hPc (ci := 15) (q0 := 0) rfl rfl, fun U hU hW => ⟨rfl, by rw [hU], by rw [hU]; exact hPc, va_K.moved hW.alike hKc, hDc.weaken (fun _ _ _ _ => trivial), w_N.warm hW hN⟩⟩ rfl rfl hl.1 rfl (lv_room (Nat.le_of_ble_eq_true rfl)) dX15_rest_19 ⟨(Nat.le_of_ble_eq_true rfl), (Nat.le_of_ble_eq_true rfl)⟩) hS (fun q _ h => hFc q h) hFc (fun r_2 u t H1 locs1 ht hvm hw hB hz1 hk1 hS1 => ?_)
  obtain ⟨fs_3, hP1, hK1, hD1, hp_4⟩ := hB
  rw [ht] at hP1
  have hK1 := va_K.moved hvm.symm hK1
  have hJ := va_join (wr := []) (w1 := [(h0, .inr (15, fs_3))]) hP hD [0] [] rfl rfl (by decide) (by decide) hk1 hFc hP1 hD1
  clear hP hD hPc hDc hKc hFc hz1; try clear hk1
  obtain ⟨hP, hD⟩ := hJ
  replace hK := (hK.sub (tys' := []) [] rfl).app (hK1.sub (tys' := []) [] rfl)
  clear hP1 hK1 hD1 hvm ht hS; try clear t
  try clear H
  revert hS1
  intro hS
  generalize H1 = H at hP hS ⊢; try clear H1
  replace hP : va_P (dC, dI) vwCl [(h0, .inr (15, fs_3))] H := hP
  replace hD : va_D A [(h0, .inr (15, fs_3))] := hD
  replace hK : va_K (dC, dI) vwCl [] s := hK
  have hw_5 : r_2 = 1 := hw; clear hw
  subst hw_5
  refine lv_if_ne (tgt := 47) hx hb dX15_rest_22 (by decide) (fun _ => ?_) (fun hc => absurd hc (by decide))
  refine lv_iconst (v := 0) hx hb dX15_rest_47 (by decide) ?_
  have hP9 := hP.sub (ws' := [(h0, .inr (15, fs_3))]) [0] rfl
  have hD9 := hD.sub (ws' := [(h0, .inr (15, fs_3))]) [0] (by decide) rfl
  have hK9 := hK.sub (tys' := []) [] rfl
  rw [← hAe] at hD9
  refine W.widen (k := 0) (n := 0) (Nat.le_of_ble_eq_true rfl) (Nat.le_of_ble_eq_true rfl) ?_
  subst hAe
  exact (W.iret (v := 0) hx hb hr (fun t ht hW => ⟨⟨0, (), rfl, trivial, fs_3, by rw [ht]; exact hP9, va_K.moved hW.alike hK9, hD9, (mF.sub hp_4 [0] rfl)⟩, hS.F ht⟩) hS.2.2 dX15_rest_48)
def wv_m_leaves : List Cond := .code yX15_leaves cX15_leaves 1 (some .boolean) :: ([.fieldLink RX15 296 "MotionSignsModel" "thrown" "I", .fieldLink RX15 443 "MotionSignsModel" "kind" "I", .methodLink RX15 424 yX15_bad, .instanceMethod yX15_bad, .selects RX15 yX15_bad yX15_bad, .initialized RX15] ++ (wsX150 ++ (wv_m_bad1 ++ ([]))))
theorem gw_m_leaves : wv_m_leaves.all goodWord = true := by decide +kernel
theorem in_m_leaves_X15 : ∀ w ∈ wsX150, w ∈ wv_m_leaves := fun _ h => List.mem_cons_of_mem _ (List.mem_append_right _ (List.mem_append_left _ h))
theorem g_m_leaves_m_bad1_424 : GoodIn wv_m_leaves (wsV RX15 424 RX15 yX15_bad wv_m_bad1) := goodIn_app (goodIn_of _ (by decide +kernel)) (goodIn_sub (fun _ h => List.mem_cons_of_mem _ (List.mem_append_right _ (List.mem_append_right _ (List.mem_append_left _ h)))) gw_m_bad1)
set_option maxHeartbeats 4000000 in
set_option maxRecDepth 100000 in
/-- the reference: leaves on a fresh object -/
theorem c_m_leaves (l : Launch) (dC : Nat → ClassId) (dI : Nat → Nat → Nat) (h0 : Nat) (qfed : Nat) (qf : Nat) (qfd : Nat) (qs : Nat) (qk : Nat) (fs_h0 : List Value) (hF_h0 : mF 89 [(0, .int 0), (18, .int 0), (19, .int 0), (20, .int (-1)), (21, .int 0), (22, .int 0), (23, .int 0), (24, .int 0), (25, .int 0), (27, .int 0), (28, .int 0), (29, .int 0), (35, .int 0), (17, .int (-1)), (26, .ref qfed), (30, .ref qf), (31, .ref qfd), (33, .ref qs), (36, .ref qk)] fs_h0) (sz : Nat) : Met l yX15_leaves wv_m_leaves ({ frames := 1, cells := 0, slots := 0, locals := 22 }) (va_Pc [.ref h0] (fun U => U.heap.size = sz ∧ va_P (dC, dI) vwCl [(h0, .inr (15, fs_h0))] U.heap ∧ va_K (dC, dI) vwCl [] U ∧ va_D (fun _ => True) [(h0, .inr (15, fs_h0))] ∧ w_N U)) (va_Qi (fun (r : Int32) (_ : Unit) => True) (fun _ t => ∃ (fs_e : List Value), va_P (dC, dI) vwCl [(h0, .inr (15, fs_e))] t.heap ∧ va_K (dC, dI) vwCl [] t ∧ va_D (va_A [(h0, .inr (15, fs_h0))] sz) [(h0, .inr (15, fs_e))] ∧ mF 89 [(0, .int 1)] fs_e) (va_A [(h0, .inr (15, fs_h0))] sz)) 0 0 (va_A [(h0, .inr (15, fs_h0))] sz) := by
  refine Met.ofW (cc := cX15_leaves) (maxL := 1) (ret := (some .boolean)) (by decide) rfl ?_
  intro p e s m args below meth c s₁ B hml hv
  obtain ⟨rfl, hsz, hP, hK, hD0, hN⟩ := hv
  have hx := B.exec
  have hb := B.bytes
  have hr := B.returns
  have hts := atoms_spec (ws := wv_m_leaves) B.pre
  have hown : s.vm.findClass RX15 = some m.cls := findClass_of_methodNamed B.named
  have hlocks := B.notSynchronized
  subst hsz
  have hD := hD0.self (sz := s.heap.size)
  generalize hAe : va_A [(h0, .inr (15, fs_h0))] s.heap.size = A at hD ⊢
  have hA : ∀ q : Nat, s.heap.size ≤ q → A q := fun q h => by rw [← hAe]; exact Or.inr h
  obtain ⟨H, hHe, hP, hS⟩ : ∃ H : Heap, H = s.heap ∧ va_P (dC, dI) vwCl [(h0, .inr (15, fs_h0))] H ∧ va_S A s.heap H [] := ⟨s.heap, rfl, hP, va_S.rf⟩
  have hl := lv_entry ([.ref h0]) (n := 1) (Nat.le_of_ble_eq_true rfl)
  rw [lg_entry_eq]
  generalize (lg_sl ([.ref h0]) ++ List.replicate (1 - (lg_sl ([.ref h0])).length) Slot.unset).toArray = ls at hl ⊢
  have hl : lv_has ls 1 [(0, .ref h0)] := hl
  rw [← hHe]; clear hHe
  refine lv_aload_n hx hb dX15_leaves_0 rfl (lv_at hl 0 rfl) ?_
  refine lv_iconst (v := 0) hx hb dX15_leaves_1 (by decide) ?_
  refine va_put (D := (dC, dI)) (ci := 15) (v := .int 0) (ty := .int) (C := RX15) (T := TX15) (N := 89) hx hb hts (in_m_leaves_X15) tyX15 tyX15_ok nmX15 hown hK hP hD hS 0 rfl rfl 0 (by decide) (hts (.fieldLink RX15 296 "MotionSignsModel" "thrown" "I") (List.mem_of_getElem? (i := 1) rfl)) (fun _ h9 => h9) rfl (tyX15_ok 0 (by decide)) rfl rfl (mF.lt hF_h0 (by decide)) dX15_leaves_2 ?_
  clear hP hD hS; try clear H
  intro H locs hP hD hS
  have hF0 := mF.sub (L' := [(18, .int 0), (19, .int 0), (20, .int (-1)), (21, .int 0), (22, .int 0), (23, .int 0), (24, .int 0), (25, .int 0), (27, .int 0), (28, .int 0), (29, .int 0), (35, .int 0), (17, .int (-1)), (26, .ref qfed), (30, .ref qf), (31, .ref qfd), (33, .ref qs), (36, .ref qk)]) hF_h0 [1, 2, 3, 4, 5, 6, 7, 8, 9, 10, 11, 12, 13, 14, 15, 16, 17, 18] rfl
  have hF1 := mF.put hF0 0 (.int 0) (by decide) rfl
  replace hP : va_P (dC, dI) vwCl [(h0, .inr (15, (fs_h0.set 0 (.int 0))))] H := hP
  replace hD : va_D A [(h0, .inr (15, (fs_h0.set 0 (.int 0))))] := hD
  generalize fs_h0.set 0 (.int 0) = fs_1 at hP hD hF1
  replace hF_h0 : mF 89 [(0, .int 0), (18, .int 0), (19, .int 0), (20, .int (-1)), (21, .int 0), (22, .int 0), (23, .int 0), (24, .int 0), (25, .int 0), (27, .int 0), (28, .int 0), (29, .int 0), (35, .int 0), (17, .int (-1)), (26, .ref qfed), (30, .ref qf), (31, .ref qfd), (33, .ref qs), (36, .ref qk)] fs_1 := hF1
  clear hF1 hF0
  replace hP : va_P (dC, dI) vwCl [(h0, .inr (15, fs_1))] H := hP
  replace hD : va_D A [(h0, .inr (15, fs_1))] := hD
  refine lv_aload_n hx hb dX15_leaves_5 rfl (lv_at hl 0 rfl) ?_
  refine lv_aload_n hx hb dX15_leaves_6 rfl (lv_at hl 0 rfl) ?_
  refine va_get (D := (dC, dI)) (ci := 15) (v := .int 0) (C := RX15) (T := TX15) (N := 89) hx hb hts (in_m_leaves_X15) hown hK hP 0 rfl rfl 28 (by decide) (hts (.fieldLink RX15 443 "MotionSignsModel" "kind" "I") (List.mem_of_getElem? (i := 2) rfl)) (fun _ h9 => h9) (mF.get hF_h0 10 rfl) dX15_leaves_7 ?_
  refine lv_if_ne (tgt := 17) hx hb dX15_leaves_10 (by decide) (fun hc => absurd (by decide) hc) (fun _ => ?_)
  refine lv_iconst (v := 1) hx hb dX15_leaves_13 (by decide) ?_
  refine lv_goto (tgt := 18) hx hb dX15_leaves_14 (by decide) ?_
  refine lv_iconst (v := 1) hx hb dX15_leaves_18 (by decide) ?_
  have hPc := hP.sub (ws' := [(h0, .inr (15, fs_1))]) [0] rfl
  have hDc := hD.sub (ws' := [(h0, .inr (15, fs_1))]) [0] (by decide) rfl
  have hKc := hK.sub (tys' := []) [] rfl
  have hFc := va_free (wc := [(h0, .inr (15, fs_1))]) hD hS hA [0] rfl
  refine va_calli (va_runV (As := [.int 1, .int 1]) (rest := []) ⟨hx, hb, hml, hown, hts⟩ (c_m_bad1 l dC dI h0 qfed qf qfd qs qk fs_1 (mF.sub hF_h0 [0, 1, 2, 3, 4, 5, 6, 7, 8, 9, 10, 11, 12, 13, 14, 15, 16, 17, 18] rfl) H.size) (cwV 2 hts g_m_leaves_m_bad1_424 rfl rfl rfl hv_X15_bad ⟨Nat.le_of_ble_eq_true rfl, Nat.le_of_ble_eq_true rfl⟩) ⟨fun a U g mk q => by obtain ⟨q0, q1, qP, qK, qD, qE0⟩ := q; exact ⟨q0, q1, qP, va_K.moved (u := U) (U := U.calling g mk a) (Vm.Alike.refl U.vm) qK, qD, w_N.same rfl qE0⟩, va_recv hKc hPc (ci := 15) (q0 := 0) rfl rfl, fun U hU hW => ⟨rfl, by rw [hU], by rw [hU]; exact hPc, va_K.moved hW.alike hKc, hDc.weaken (fun _ _ _ _ => trivial), w_N.warm hW hN⟩⟩ rfl rfl hl.1 rfl (lv_room (Nat.le_of_ble_eq_true rfl)) dX15_leaves_19 ⟨(Nat.le_of_ble_eq_true rfl), (Nat.le_of_ble_eq_true rfl)⟩) hS (fun q _ h => hFc q h) hFc (fun r_2 u t H1 locs1 ht hvm hw hB hz1 hk1 hS1 => ?_)
  obtain ⟨fs_3, hP1, hK1, hD1, hp_4⟩ := hB
  rw [ht] at hP1
  have hK1 := va_K.moved hvm.symm hK1
  have hJ := va_join (wr := []) (w1 := [(h0, .inr (15, fs_3))]) hP hD [0] [] rfl rfl (by decide) (by decide) hk1 hFc hP1 hD1
  clear hP hD hPc hDc hKc hFc hz1; try clear hk1
  obtain ⟨hP, hD⟩ := hJ
  replace hK := (hK.sub (tys' := []) [] rfl).app (hK1.sub (tys' := []) [] rfl)
  clear hP1 hK1 hD1 hvm ht hS; try clear t
  try clear H
  revert hS1
  intro hS
  generalize H1 = H at hP hS ⊢; try clear H1
  replace hP : va_P (dC, dI) vwCl [(h0, .inr (15, fs_3))] H := hP
  replace hD : va_D A [(h0, .inr (15, fs_3))] := hD
  replace hK : va_K (dC, dI) vwCl [] s := hK
  have hw_5 : r_2 = 1 := hw; clear hw
  subst hw_5
  refine lv_if_eq (tgt := 27) hx hb dX15_leaves_22 (by decide) (fun hc => absurd hc (by decide)) (fun _ => ?_)
  refine lv_iconst (v := 0) hx hb dX15_leaves_25 (by decide) ?_
  have hP9 := hP.sub (ws' := [(h0, .inr (15, fs_3))]) [0] rfl
  have hD9 := hD.sub (ws' := [(h0, .inr (15, fs_3))]) [0] (by decide) rfl
  have hK9 := hK.sub (tys' := []) [] rfl
  rw [← hAe] at hD9
  refine W.widen (k := 0) (n := 0) (Nat.le_of_ble_eq_true rfl) (Nat.le_of_ble_eq_true rfl) ?_
  subst hAe
  exact (W.zret (v := 0) hx hb hr (by decide) (fun t ht hW => ⟨⟨0, (), rfl, trivial, fs_3, by rw [ht]; exact hP9, va_K.moved hW.alike hK9, hD9, (mF.sub hp_4 [0] rfl)⟩, hS.F ht⟩) hS.2.2 dX15_leaves_26)
def wv_m_fields : List Cond := .code yX15_fields cX15_fields 2 (some .int) :: ([.fieldLink RX15 296 "MotionSignsModel" "thrown" "I", .fieldLink RX15 443 "MotionSignsModel" "kind" "I", .methodLink RX15 424 yX15_bad, .instanceMethod yX15_bad, .selects RX15 yX15_bad yX15_bad, .initialized RX15] ++ (wsX150 ++ (wv_m_bad2 ++ ([]))))
theorem gw_m_fields : wv_m_fields.all goodWord = true := by decide +kernel
theorem in_m_fields_X15 : ∀ w ∈ wsX150, w ∈ wv_m_fields := fun _ h => List.mem_cons_of_mem _ (List.mem_append_right _ (List.mem_append_left _ h))
theorem g_m_fields_m_bad2_424 : GoodIn wv_m_fields (wsV RX15 424 RX15 yX15_bad wv_m_bad2) := goodIn_app (goodIn_of _ (by decide +kernel)) (goodIn_sub (fun _ h => List.mem_cons_of_mem _ (List.mem_append_right _ (List.mem_append_right _ (List.mem_append_left _ h)))) gw_m_bad2)
set_option maxHeartbeats 4000000 in
set_option maxRecDepth 100000 in
/-- the reference: fields on a fresh object -/
theorem c_m_fields (l : Launch) (dC : Nat → ClassId) (dI : Nat → Nat → Nat) (h0 : Nat) (qfed : Nat) (qf : Nat) (qfd : Nat) (qs : Nat) (qk : Nat) (x0 : Int32) (fs_h0 : List Value) (hF_h0 : mF 89 [(0, .int 0), (18, .int 0), (19, .int 0), (20, .int (-1)), (21, .int 0), (22, .int 0), (23, .int 0), (24, .int 0), (25, .int 0), (27, .int 0), (28, .int 0), (29, .int 0), (35, .int 0), (17, .int (-1)), (26, .ref qfed), (30, .ref qf), (31, .ref qfd), (33, .ref qs), (36, .ref qk)] fs_h0) (sz : Nat) : Met l yX15_fields wv_m_fields ({ frames := 1, cells := 0, slots := 0, locals := 22 }) (va_Pc [.ref h0, .int x0] (fun U => U.heap.size = sz ∧ va_P (dC, dI) vwCl [(h0, .inr (15, fs_h0))] U.heap ∧ va_K (dC, dI) vwCl [] U ∧ va_D (fun _ => True) [(h0, .inr (15, fs_h0))] ∧ w_N U)) (va_Qi (fun (r : Int32) (_ : Unit) => True) (fun _ t => ∃ (fs_e : List Value), va_P (dC, dI) vwCl [(h0, .inr (15, fs_e))] t.heap ∧ va_K (dC, dI) vwCl [] t ∧ va_D (va_A [(h0, .inr (15, fs_h0))] sz) [(h0, .inr (15, fs_e))] ∧ mF 89 [(0, .int 2)] fs_e) (va_A [(h0, .inr (15, fs_h0))] sz)) 0 0 (va_A [(h0, .inr (15, fs_h0))] sz) := by
  refine Met.ofW (cc := cX15_fields) (maxL := 2) (ret := (some .int)) (by decide) rfl ?_
  intro p e s m args below meth c s₁ B hml hv
  obtain ⟨rfl, hsz, hP, hK, hD0, hN⟩ := hv
  have hx := B.exec
  have hb := B.bytes
  have hr := B.returns
  have hts := atoms_spec (ws := wv_m_fields) B.pre
  have hown : s.vm.findClass RX15 = some m.cls := findClass_of_methodNamed B.named
  have hlocks := B.notSynchronized
  subst hsz
  have hD := hD0.self (sz := s.heap.size)
  generalize hAe : va_A [(h0, .inr (15, fs_h0))] s.heap.size = A at hD ⊢
  have hA : ∀ q : Nat, s.heap.size ≤ q → A q := fun q h => by rw [← hAe]; exact Or.inr h
  obtain ⟨H, hHe, hP, hS⟩ : ∃ H : Heap, H = s.heap ∧ va_P (dC, dI) vwCl [(h0, .inr (15, fs_h0))] H ∧ va_S A s.heap H [] := ⟨s.heap, rfl, hP, va_S.rf⟩
  have hl := lv_entry ([.ref h0, .int x0]) (n := 2) (Nat.le_of_ble_eq_true rfl)
  rw [lg_entry_eq]
  generalize (lg_sl ([.ref h0, .int x0]) ++ List.replicate (2 - (lg_sl ([.ref h0, .int x0])).length) Slot.unset).toArray = ls at hl ⊢
  have hl : lv_has ls 2 [(0, .ref h0), (1, .int x0)] := hl
  rw [← hHe]; clear hHe
  refine lv_aload_n hx hb dX15_fields_0 rfl (lv_at hl 0 rfl) ?_
  refine lv_iconst (v := 0) hx hb dX15_fields_1 (by decide) ?_
  refine va_put (D := (dC, dI)) (ci := 15) (v := .int 0) (ty := .int) (C := RX15) (T := TX15) (N := 89) hx hb hts (in_m_fields_X15) tyX15 tyX15_ok nmX15 hown hK hP hD hS 0 rfl rfl 0 (by decide) (hts (.fieldLink RX15 296 "MotionSignsModel" "thrown" "I") (List.mem_of_getElem? (i := 1) rfl)) (fun _ h9 => h9) rfl (tyX15_ok 0 (by decide)) rfl rfl (mF.lt hF_h0 (by decide)) dX15_fields_2 ?_
  clear hP hD hS; try clear H
  intro H locs hP hD hS
  have hF0 := mF.sub (L' := [(18, .int 0), (19, .int 0), (20, .int (-1)), (21, .int 0), (22, .int 0), (23, .int 0), (24, .int 0), (25, .int 0), (27, .int 0), (28, .int 0), (29, .int 0), (35, .int 0), (17, .int (-1)), (26, .ref qfed), (30, .ref qf), (31, .ref qfd), (33, .ref qs), (36, .ref qk)]) hF_h0 [1, 2, 3, 4, 5, 6, 7, 8, 9, 10, 11, 12, 13, 14, 15, 16, 17, 18] rfl
  have hF1 := mF.put hF0 0 (.int 0) (by decide) rfl
  replace hP : va_P (dC, dI) vwCl [(h0, .inr (15, (fs_h0.set 0 (.int 0))))] H := hP
  replace hD : va_D A [(h0, .inr (15, (fs_h0.set 0 (.int 0))))] := hD
  generalize fs_h0.set 0 (.int 0) = fs_1 at hP hD hF1
  replace hF_h0 : mF 89 [(0, .int 0), (18, .int 0), (19, .int 0), (20, .int (-1)), (21, .int 0), (22, .int 0), (23, .int 0), (24, .int 0), (25, .int 0), (27, .int 0), (28, .int 0), (29, .int 0), (35, .int 0), (17, .int (-1)), (26, .ref qfed), (30, .ref qf), (31, .ref qfd), (33, .ref qs), (36, .ref qk)] fs_1 := hF1
  clear hF1 hF0
  replace hP : va_P (dC, dI) vwCl [(h0, .inr (15, fs_1))] H := hP
  replace hD : va_D A [(h0, .inr (15, fs_1))] := hD
  refine lv_aload_n hx hb dX15_fields_5 rfl (lv_at hl 0 rfl) ?_
  refine lv_aload_n hx hb dX15_fields_6 rfl (lv_at hl 0 rfl) ?_
  refine va_get (D := (dC, dI)) (ci := 15) (v := .int 0) (C := RX15) (T := TX15) (N := 89) hx hb hts (in_m_fields_X15) hown hK hP 0 rfl rfl 28 (by decide) (hts (.fieldLink RX15 443 "MotionSignsModel" "kind" "I") (List.mem_of_getElem? (i := 2) rfl)) (fun _ h9 => h9) (mF.get hF_h0 10 rfl) dX15_fields_7 ?_
  refine lv_if_ne (tgt := 17) hx hb dX15_fields_10 (by decide) (fun hc => absurd (by decide) hc) (fun _ => ?_)
  refine lv_iconst (v := 1) hx hb dX15_fields_13 (by decide) ?_
  refine lv_goto (tgt := 18) hx hb dX15_fields_14 (by decide) ?_
  refine lv_iconst (v := 2) hx hb dX15_fields_18 (by decide) ?_
  have hPc := hP.sub (ws' := [(h0, .inr (15, fs_1))]) [0] rfl
  have hDc := hD.sub (ws' := [(h0, .inr (15, fs_1))]) [0] (by decide) rfl
  have hKc := hK.sub (tys' := []) [] rfl
  have hFc := va_free (wc := [(h0, .inr (15, fs_1))]) hD hS hA [0] rfl
  refine va_calli (va_runV (As := [.int 1, .int 2]) (rest := []) ⟨hx, hb, hml, hown, hts⟩ (c_m_bad2 l dC dI h0 qfed qf qfd qs qk fs_1 (mF.sub hF_h0 [0, 1, 2, 3, 4, 5, 6, 7, 8, 9, 10, 11, 12, 13, 14, 15, 16, 17, 18] rfl) H.size) (cwV 2 hts g_m_fields_m_bad2_424 rfl rfl rfl hv_X15_bad ⟨Nat.le_of_ble_eq_true rfl, Nat.le_of_ble_eq_true rfl⟩) ⟨fun a U g mk q => by obtain ⟨q0, q1, qP, qK, qD, qE0⟩ := q; exact ⟨q0, q1, qP, va_K.moved (u := U) (U := U.calling g mk a) (Vm.Alike.refl U.vm) qK, qD, w_N.same rfl qE0⟩, va_recv hKc hPc (ci := 15) (q0 := 0) rfl rfl, fun U hU hW => ⟨rfl, by rw [hU], by rw [hU]; exact hPc, va_K.moved hW.alike hKc, hDc.weaken (fun _ _ _ _ => trivial), w_N.warm hW hN⟩⟩ rfl rfl hl.1 rfl (lv_room (Nat.le_of_ble_eq_true rfl)) dX15_fields_19 ⟨(Nat.le_of_ble_eq_true rfl), (Nat.le_of_ble_eq_true rfl)⟩) hS (fun q _ h => hFc q h) hFc (fun r_2 u t H1 locs1 ht hvm hw hB hz1 hk1 hS1 => ?_)
  obtain ⟨fs_3, hP1, hK1, hD1, hp_4⟩ := hB
  rw [ht] at hP1
  have hK1 := va_K.moved hvm.symm hK1
  have hJ := va_join (wr := []) (w1 := [(h0, .inr (15, fs_3))]) hP hD [0] [] rfl rfl (by decide) (by decide) hk1 hFc hP1 hD1
  clear hP hD hPc hDc hKc hFc hz1; try clear hk1
  obtain ⟨hP, hD⟩ := hJ
  replace hK := (hK.sub (tys' := []) [] rfl).app (hK1.sub (tys' := []) [] rfl)
  clear hP1 hK1 hD1 hvm ht hS; try clear t
  try clear H
  revert hS1
  intro hS
  generalize H1 = H at hP hS ⊢; try clear H1
  replace hP : va_P (dC, dI) vwCl [(h0, .inr (15, fs_3))] H := hP
  replace hD : va_D A [(h0, .inr (15, fs_3))] := hD
  replace hK : va_K (dC, dI) vwCl [] s := hK
  have hw_5 : r_2 = 1 := hw; clear hw
  subst hw_5
  refine lv_if_ne (tgt := 46) hx hb dX15_fields_22 (by decide) (fun _ => ?_) (fun hc => absurd hc (by decide))
  refine lv_iconst (v := 0) hx hb dX15_fields_46 (by decide) ?_
  have hP9 := hP.sub (ws' := [(h0, .inr (15, fs_3))]) [0] rfl
  have hD9 := hD.sub (ws' := [(h0, .inr (15, fs_3))]) [0] (by decide) rfl
  have hK9 := hK.sub (tys' := []) [] rfl
  rw [← hAe] at hD9
  refine W.widen (k := 0) (n := 0) (Nat.le_of_ble_eq_true rfl) (Nat.le_of_ble_eq_true rfl) ?_
  subst hAe
  exact (W.iret (v := 0) hx hb hr (fun t ht hW => ⟨⟨0, (), rfl, trivial, fs_3, by rw [ht]; exact hP9, va_K.moved hW.alike hK9, hD9, (mF.sub hp_4 [0] rfl)⟩, hS.F ht⟩) hS.2.2 dX15_fields_47)
def wv_m_number : List Cond := .code yX15_number cX15_number 8 (some .long) :: ([.fieldLink RX15 296 "MotionSignsModel" "thrown" "I", .fieldLink RX15 443 "MotionSignsModel" "kind" "I", .methodLink RX15 424 yX15_bad, .instanceMethod yX15_bad, .selects RX15 yX15_bad yX15_bad, .initialized RX15] ++ (wsX150 ++ (wv_m_bad3 ++ ([]))))
theorem gw_m_number : wv_m_number.all goodWord = true := by decide +kernel
theorem in_m_number_X15 : ∀ w ∈ wsX150, w ∈ wv_m_number := fun _ h => List.mem_cons_of_mem _ (List.mem_append_right _ (List.mem_append_left _ h))
theorem g_m_number_m_bad3_424 : GoodIn wv_m_number (wsV RX15 424 RX15 yX15_bad wv_m_bad3) := goodIn_app (goodIn_of _ (by decide +kernel)) (goodIn_sub (fun _ h => List.mem_cons_of_mem _ (List.mem_append_right _ (List.mem_append_right _ (List.mem_append_left _ h)))) gw_m_bad3)
set_option maxHeartbeats 4000000 in
set_option maxRecDepth 100000 in
/-- the reference: number on a fresh object -/
theorem c_m_number (l : Launch) (dC : Nat → ClassId) (dI : Nat → Nat → Nat) (h0 : Nat) (qfed : Nat) (qf : Nat) (qfd : Nat) (qs : Nat) (qk : Nat) (x0 : Int32) (x1 : Int32) (x2 : Int32) (x3 : Int32) (fs_h0 : List Value) (hF_h0 : mF 89 [(0, .int 0), (18, .int 0), (19, .int 0), (20, .int (-1)), (21, .int 0), (22, .int 0), (23, .int 0), (24, .int 0), (25, .int 0), (27, .int 0), (28, .int 0), (29, .int 0), (35, .int 0), (17, .int (-1)), (26, .ref qfed), (30, .ref qf), (31, .ref qfd), (33, .ref qs), (36, .ref qk)] fs_h0) (sz : Nat) : Met l yX15_number wv_m_number ({ frames := 1, cells := 0, slots := 0, locals := 22 }) (va_Pc [.ref h0, .int x0, .int x1, .int x2, .int x3] (fun U => U.heap.size = sz ∧ va_P (dC, dI) vwCl [(h0, .inr (15, fs_h0))] U.heap ∧ va_K (dC, dI) vwCl [] U ∧ va_D (fun _ => True) [(h0, .inr (15, fs_h0))] ∧ w_N U)) (va_Ql (fun (r : Int64) (_ : Unit) => True) (fun _ t => ∃ (fs_e : List Value), va_P (dC, dI) vwCl [(h0, .inr (15, fs_e))] t.heap ∧ va_K (dC, dI) vwCl [] t ∧ va_D (va_A [(h0, .inr (15, fs_h0))] sz) [(h0, .inr (15, fs_e))] ∧ mF 89 [(0, .int 3)] fs_e) (va_A [(h0, .inr (15, fs_h0))] sz)) 0 0 (va_A [(h0, .inr (15, fs_h0))] sz) := by
  refine Met.ofW (cc := cX15_number) (maxL := 8) (ret := (some .long)) (by decide) rfl ?_
  intro p e s m args below meth c s₁ B hml hv
  obtain ⟨rfl, hsz, hP, hK, hD0, hN⟩ := hv
  have hx := B.exec
  have hb := B.bytes
  have hr := B.returns
  have hts := atoms_spec (ws := wv_m_number) B.pre
  have hown : s.vm.findClass RX15 = some m.cls := findClass_of_methodNamed B.named
  have hlocks := B.notSynchronized
  subst hsz
  have hD := hD0.self (sz := s.heap.size)
  generalize hAe : va_A [(h0, .inr (15, fs_h0))] s.heap.size = A at hD ⊢
  have hA : ∀ q : Nat, s.heap.size ≤ q → A q := fun q h => by rw [← hAe]; exact Or.inr h
  obtain ⟨H, hHe, hP, hS⟩ : ∃ H : Heap, H = s.heap ∧ va_P (dC, dI) vwCl [(h0, .inr (15, fs_h0))] H ∧ va_S A s.heap H [] := ⟨s.heap, rfl, hP, va_S.rf⟩
  have hl := lv_entry ([.ref h0, .int x0, .int x1, .int x2, .int x3]) (n := 8) (Nat.le_of_ble_eq_true rfl)
  rw [lg_entry_eq]
  generalize (lg_sl ([.ref h0, .int x0, .int x1, .int x2, .int x3]) ++ List.replicate (8 - (lg_sl ([.ref h0, .int x0, .int x1, .int x2, .int x3])).length) Slot.unset).toArray = ls at hl ⊢
  have hl : lv_has ls 8 [(0, .ref h0), (1, .int x0), (2, .int x1), (3, .int x2), (4, .int x3)] := hl
  rw [← hHe]; clear hHe
  refine lv_aload_n hx hb dX15_number_0 rfl (lv_at hl 0 rfl) ?_
  refine lv_iconst (v := 0) hx hb dX15_number_1 (by decide) ?_
  refine va_put (D := (dC, dI)) (ci := 15) (v := .int 0) (ty := .int) (C := RX15) (T := TX15) (N := 89) hx hb hts (in_m_number_X15) tyX15 tyX15_ok nmX15 hown hK hP hD hS 0 rfl rfl 0 (by decide) (hts (.fieldLink RX15 296 "MotionSignsModel" "thrown" "I") (List.mem_of_getElem? (i := 1) rfl)) (fun _ h9 => h9) rfl (tyX15_ok 0 (by decide)) rfl rfl (mF.lt hF_h0 (by decide)) dX15_number_2 ?_
  clear hP hD hS; try clear H
  intro H locs hP hD hS
  have hF0 := mF.sub (L' := [(18, .int 0), (19, .int 0), (20, .int (-1)), (21, .int 0), (22, .int 0), (23, .int 0), (24, .int 0), (25, .int 0), (27, .int 0), (28, .int 0), (29, .int 0), (35, .int 0), (17, .int (-1)), (26, .ref qfed), (30, .ref qf), (31, .ref qfd), (33, .ref qs), (36, .ref qk)]) hF_h0 [1, 2, 3, 4, 5, 6, 7, 8, 9, 10, 11, 12, 13, 14, 15, 16, 17, 18] rfl
  have hF1 := mF.put hF0 0 (.int 0) (by decide) rfl
  replace hP : va_P (dC, dI) vwCl [(h0, .inr (15, (fs_h0.set 0 (.int 0))))] H := hP
  replace hD : va_D A [(h0, .inr (15, (fs_h0.set 0 (.int 0))))] := hD
  generalize fs_h0.set 0 (.int 0) = fs_1 at hP hD hF1
  replace hF_h0 : mF 89 [(0, .int 0), (18, .int 0), (19, .int 0), (20, .int (-1)), (21, .int 0), (22, .int 0), (23, .int 0), (24, .int 0), (25, .int 0), (27, .int 0), (28, .int 0), (29, .int 0), (35, .int 0), (17, .int (-1)), (26, .ref qfed), (30, .ref qf), (31, .ref qfd), (33, .ref qs), (36, .ref qk)] fs_1 := hF1
  clear hF1 hF0
  replace hP : va_P (dC, dI) vwCl [(h0, .inr (15, fs_1))] H := hP
  replace hD : va_D A [(h0, .inr (15, fs_1))] := hD
  refine lv_aload_n hx hb dX15_number_5 rfl (lv_at hl 0 rfl) ?_
  refine lv_aload_n hx hb dX15_number_6 rfl (lv_at hl 0 rfl) ?_
  refine va_get (D := (dC, dI)) (ci := 15) (v := .int 0) (C := RX15) (T := TX15) (N := 89) hx hb hts (in_m_number_X15) hown hK hP 0 rfl rfl 28 (by decide) (hts (.fieldLink RX15 443 "MotionSignsModel" "kind" "I") (List.mem_of_getElem? (i := 2) rfl)) (fun _ h9 => h9) (mF.get hF_h0 10 rfl) dX15_number_7 ?_
  refine lv_if_ne (tgt := 17) hx hb dX15_number_10 (by decide) (fun hc => absurd (by decide) hc) (fun _ => ?_)
  refine lv_iconst (v := 1) hx hb dX15_number_13 (by decide) ?_
  refine lv_goto (tgt := 18) hx hb dX15_number_14 (by decide) ?_
  refine lv_iconst (v := 3) hx hb dX15_number_18 (by decide) ?_
  have hPc := hP.sub (ws' := [(h0, .inr (15, fs_1))]) [0] rfl
  have hDc := hD.sub (ws' := [(h0, .inr (15, fs_1))]) [0] (by decide) rfl
  have hKc := hK.sub (tys' := []) [] rfl
  have hFc := va_free (wc := [(h0, .inr (15, fs_1))]) hD hS hA [0] rfl
  refine va_calli (va_runV (As := [.int 1, .int 3]) (rest := []) ⟨hx, hb, hml, hown, hts⟩ (c_m_bad3 l dC dI h0 qfed qf qfd qs qk fs_1 (mF.sub hF_h0 [0, 1, 2, 3, 4, 5, 6, 7, 8, 9, 10, 11, 12, 13, 14, 15, 16, 17, 18] rfl) H.size) (cwV 2 hts g_m_number_m_bad3_424 rfl rfl rfl hv_X15_bad ⟨Nat.le_of_ble_eq_true rfl, Nat.le_of_ble_eq_true rfl⟩) ⟨fun a U g mk q => by obtain ⟨q0, q1, qP, qK, qD, qE0⟩ := q; exact ⟨q0, q1, qP, va_K.moved (u := U) (U := U.calling g mk a) (Vm.Alike.refl U.vm) qK, qD, w_N.same rfl qE0⟩, va_recv hKc hPc (ci := 15) (q0 := 0) rfl rfl, fun U hU hW => ⟨rfl, by rw [hU], by rw [hU]; exact hPc, va_K.moved hW.alike hKc, hDc.weaken (fun _ _ _ _ => trivial), w_N.warm hW hN⟩⟩ rfl rfl hl.1 rfl (lv_room (Nat.le_of_ble_eq_true rfl)) dX15_number_19 ⟨(Nat.le_of_ble_eq_true rfl), (Nat.le_of_ble_eq_true rfl)⟩) hS (fun q _ h => hFc q h) hFc (fun r_2 u t H1 locs1 ht hvm hw hB hz1 hk1 hS1 => ?_)
  obtain ⟨fs_3, hP1, hK1, hD1, hp_4⟩ := hB
  rw [ht] at hP1
  have hK1 := va_K.moved hvm.symm hK1
  have hJ := va_join (wr := []) (w1 := [(h0, .inr (15, fs_3))]) hP hD [0] [] rfl rfl (by decide) (by decide) hk1 hFc hP1 hD1
  clear hP hD hPc hDc hKc hFc hz1; try clear hk1
  obtain ⟨hP, hD⟩ := hJ
  replace hK := (hK.sub (tys' := []) [] rfl).app (hK1.sub (tys' := []) [] rfl)
  clear hP1 hK1 hD1 hvm ht hS; try clear t
  try clear H
  revert hS1
  intro hS
  generalize H1 = H at hP hS ⊢; try clear H1
  replace hP : va_P (dC, dI) vwCl [(h0, .inr (15, fs_3))] H := hP
  replace hD : va_D A [(h0, .inr (15, fs_3))] := hD
  replace hK : va_K (dC, dI) vwCl [] s := hK
  have hw_5 : r_2 = 1 := hw; clear hw
  subst hw_5
  refine lv_if_ne (tgt := 46) hx hb dX15_number_22 (by decide) (fun _ => ?_) (fun hc => absurd hc (by decide))
  refine lv_lconst (v := 0) hx hb dX15_number_46 (by decide) ?_
  have hP9 := hP.sub (ws' := [(h0, .inr (15, fs_3))]) [0] rfl
  have hD9 := hD.sub (ws' := [(h0, .inr (15, fs_3))]) [0] (by decide) rfl
  have hK9 := hK.sub (tys' := []) [] rfl
  rw [← hAe] at hD9
  refine W.widen (k := 0) (n := 0) (Nat.le_of_ble_eq_true rfl) (Nat.le_of_ble_eq_true rfl) ?_
  subst hAe
  exact (W.lret (v := 0) hx hb hr (fun t ht hW => ⟨⟨0, (), rfl, trivial, fs_3, by rw [ht]; exact hP9, va_K.moved hW.alike hK9, hD9, (mF.sub hp_4 [0] rfl)⟩, hS.F ht⟩) hS.2.2 dX15_number_47)
def wv_m_within : List Cond := .code yX15_within cX15_within 4 (some .boolean) :: ([.fieldLink RX15 296 "MotionSignsModel" "thrown" "I", .fieldLink RX15 443 "MotionSignsModel" "kind" "I", .methodLink RX15 424 yX15_bad, .instanceMethod yX15_bad, .selects RX15 yX15_bad yX15_bad, .initialized RX15] ++ (wsX150 ++ (wv_m_bad2 ++ ([]))))
theorem gw_m_within : wv_m_within.all goodWord = true := by decide +kernel
theorem in_m_within_X15 : ∀ w ∈ wsX150, w ∈ wv_m_within := fun _ h => List.mem_cons_of_mem _ (List.mem_append_right _ (List.mem_append_left _ h))
theorem g_m_within_m_bad2_424 : GoodIn wv_m_within (wsV RX15 424 RX15 yX15_bad wv_m_bad2) := goodIn_app (goodIn_of _ (by decide +kernel)) (goodIn_sub (fun _ h => List.mem_cons_of_mem _ (List.mem_append_right _ (List.mem_append_right _ (List.mem_append_left _ h)))) gw_m_bad2)
set_option maxHeartbeats 4000000 in
set_option maxRecDepth 100000 in
/-- the reference: within on a fresh object -/
theorem c_m_within (l : Launch) (dC : Nat → ClassId) (dI : Nat → Nat → Nat) (h0 : Nat) (qfed : Nat) (qf : Nat) (qfd : Nat) (qs : Nat) (qk : Nat) (x0 : Int32) (fs_h0 : List Value) (hF_h0 : mF 89 [(0, .int 0), (18, .int 0), (19, .int 0), (20, .int (-1)), (21, .int 0), (22, .int 0), (23, .int 0), (24, .int 0), (25, .int 0), (27, .int 0), (28, .int 0), (29, .int 0), (35, .int 0), (17, .int (-1)), (26, .ref qfed), (30, .ref qf), (31, .ref qfd), (33, .ref qs), (36, .ref qk)] fs_h0) (sz : Nat) : Met l yX15_within wv_m_within ({ frames := 1, cells := 0, slots := 0, locals := 22 }) (va_Pc [.ref h0, .int x0] (fun U => U.heap.size = sz ∧ va_P (dC, dI) vwCl [(h0, .inr (15, fs_h0))] U.heap ∧ va_K (dC, dI) vwCl [] U ∧ va_D (fun _ => True) [(h0, .inr (15, fs_h0))] ∧ w_N U)) (va_Qi (fun (r : Int32) (_ : Unit) => True) (fun _ t => ∃ (fs_e : List Value), va_P (dC, dI) vwCl [(h0, .inr (15, fs_e))] t.heap ∧ va_K (dC, dI) vwCl [] t ∧ va_D (va_A [(h0, .inr (15, fs_h0))] sz) [(h0, .inr (15, fs_e))] ∧ mF 89 [(0, .int 2)] fs_e) (va_A [(h0, .inr (15, fs_h0))] sz)) 0 0 (va_A [(h0, .inr (15, fs_h0))] sz) := by
  refine Met.ofW (cc := cX15_within) (maxL := 4) (ret := (some .boolean)) (by decide) rfl ?_
  intro p e s m args below meth c s₁ B hml hv
  obtain ⟨rfl, hsz, hP, hK, hD0, hN⟩ := hv
  have hx := B.exec
  have hb := B.bytes
  have hr := B.returns
  have hts := atoms_spec (ws := wv_m_within) B.pre
  have hown : s.vm.findClass RX15 = some m.cls := findClass_of_methodNamed B.named
  have hlocks := B.notSynchronized
  subst hsz
  have hD := hD0.self (sz := s.heap.size)
  generalize hAe : va_A [(h0, .inr (15, fs_h0))] s.heap.size = A at hD ⊢
  have hA : ∀ q : Nat, s.heap.size ≤ q → A q := fun q h => by rw [← hAe]; exact Or.inr h
  obtain ⟨H, hHe, hP, hS⟩ : ∃ H : Heap, H = s.heap ∧ va_P (dC, dI) vwCl [(h0, .inr (15, fs_h0))] H ∧ va_S A s.heap H [] := ⟨s.heap, rfl, hP, va_S.rf⟩
  have hl := lv_entry ([.ref h0, .int x0]) (n := 4) (Nat.le_of_ble_eq_true rfl)
  rw [lg_entry_eq]
  generalize (lg_sl ([.ref h0, .int x0]) ++ List.replicate (4 - (lg_sl ([.ref h0, .int x0])).length) Slot.unset).toArray = ls at hl ⊢
  have hl : lv_has ls 4 [(0, .ref h0), (1, .int x0)] := hl
  rw [← hHe]; clear hHe
  refine lv_aload_n hx hb dX15_within_0 rfl (lv_at hl 0 rfl) ?_
  refine lv_iconst (v := 0) hx hb dX15_within_1 (by decide) ?_
  refine va_put (D := (dC, dI)) (ci := 15) (v := .int 0) (ty := .int) (C := RX15) (T := TX15) (N := 89) hx hb hts (in_m_within_X15) tyX15 tyX15_ok nmX15 hown hK hP hD hS 0 rfl rfl 0 (by decide) (hts (.fieldLink RX15 296 "MotionSignsModel" "thrown" "I") (List.mem_of_getElem? (i := 1) rfl)) (fun _ h9 => h9) rfl (tyX15_ok 0 (by decide)) rfl rfl (mF.lt hF_h0 (by decide)) dX15_within_2 ?_
  clear hP hD hS; try clear H
  intro H locs hP hD hS
  have hF0 := mF.sub (L' := [(18, .int 0), (19, .int 0), (20, .int (-1)), (21, .int 0), (22, .int 0), (23, .int 0), (24, .int 0), (25, .int 0), (27, .int 0), (28, .int 0), (29, .int 0), (35, .int 0), (17, .int (-1)), (26, .ref qfed), (30, .ref qf), (31, .ref qfd), (33, .ref qs), (36, .ref qk)]) hF_h0 [1, 2, 3, 4, 5, 6, 7, 8, 9, 10, 11, 12, 13, 14, 15, 16, 17, 18] rfl
  have hF1 := mF.put hF0 0 (.int 0) (by decide) rfl
  replace hP : va_P (dC, dI) vwCl [(h0, .inr (15, (fs_h0.set 0 (.int 0))))] H := hP
  replace hD : va_D A [(h0, .inr (15, (fs_h0.set 0 (.int 0))))] := hD
  generalize fs_h0.set 0 (.int 0) = fs_1 at hP hD hF1
  replace hF_h0 : mF 89 [(0, .int 0), (18, .int 0), (19, .int 0), (20, .int (-1)), (21, .int 0), (22, .int 0), (23, .int 0), (24, .int 0), (25, .int 0), (27, .int 0), (28, .int 0), (29, .int 0), (35, .int 0), (17, .int (-1)), (26, .ref qfed), (30, .ref qf), (31, .ref qfd), (33, .ref qs), (36, .ref qk)] fs_1 := hF1
  clear hF1 hF0
  replace hP : va_P (dC, dI) vwCl [(h0, .inr (15, fs_1))] H := hP
  replace hD : va_D A [(h0, .inr (15, fs_1))] := hD
  refine lv_aload_n hx hb dX15_within_5 rfl (lv_at hl 0 rfl) ?_
  refine lv_aload_n hx hb dX15_within_6 rfl (lv_at hl 0 rfl) ?_
  refine va_get (D := (dC, dI)) (ci := 15) (v := .int 0) (C := RX15) (T := TX15) (N := 89) hx hb hts (in_m_within_X15) hown hK hP 0 rfl rfl 28 (by decide) (hts (.fieldLink RX15 443 "MotionSignsModel" "kind" "I") (List.mem_of_getElem? (i := 2) rfl)) (fun _ h9 => h9) (mF.get hF_h0 10 rfl) dX15_within_7 ?_
  refine lv_if_ne (tgt := 17) hx hb dX15_within_10 (by decide) (fun hc => absurd (by decide) hc) (fun _ => ?_)
  refine lv_iconst (v := 1) hx hb dX15_within_13 (by decide) ?_
  refine lv_goto (tgt := 18) hx hb dX15_within_14 (by decide) ?_
  refine lv_iconst (v := 2) hx hb dX15_within_18 (by decide) ?_
  have hPc := hP.sub (ws' := [(h0, .inr (15, fs_1))]) [0] rfl
  have hDc := hD.sub (ws' := [(h0, .inr (15, fs_1))]) [0] (by decide) rfl
  have hKc := hK.sub (tys' := []) [] rfl
  have hFc := va_free (wc := [(h0, .inr (15, fs_1))]) hD hS hA [0] rfl
  refine va_calli (va_runV (As := [.int 1, .int 2]) (rest := []) ⟨hx, hb, hml, hown, hts⟩ (c_m_bad2 l dC dI h0 qfed qf qfd qs qk fs_1 (mF.sub hF_h0 [0, 1, 2, 3, 4, 5, 6, 7, 8, 9, 10, 11, 12, 13, 14, 15, 16, 17, 18] rfl) H.size) (cwV 2 hts g_m_within_m_bad2_424 rfl rfl rfl hv_X15_bad ⟨Nat.le_of_ble_eq_true rfl, Nat.le_of_ble_eq_true rfl⟩) ⟨fun a U g mk q => by obtain ⟨q0, q1, qP, qK, qD, qE0⟩ := q; exact ⟨q0, q1, qP, va_K.moved (u := U) (U := U.calling g mk a) (Vm.Alike.refl U.vm) qK, qD, w_N.same rfl qE0⟩, va_recv hKc hPc (ci := 15) (q0 := 0) rfl rfl, fun U hU hW => ⟨rfl, by rw [hU], by rw [hU]; exact hPc, va_K.moved hW.alike hKc, hDc.weaken (fun _ _ _ _ => trivial), w_N.warm hW hN⟩⟩ rfl rfl hl.1 rfl (lv_room (Nat.le_of_ble_eq_true rfl)) dX15_within_19 ⟨(Nat.le_of_ble_eq_true rfl), (Nat.le_of_ble_eq_true rfl)⟩) hS (fun q _ h => hFc q h) hFc (fun r_2 u t H1 locs1 ht hvm hw hB hz1 hk1 hS1 => ?_)
  obtain ⟨fs_3, hP1, hK1, hD1, hp_4⟩ := hB
  rw [ht] at hP1
  have hK1 := va_K.moved hvm.symm hK1
  have hJ := va_join (wr := []) (w1 := [(h0, .inr (15, fs_3))]) hP hD [0] [] rfl rfl (by decide) (by decide) hk1 hFc hP1 hD1
  clear hP hD hPc hDc hKc hFc hz1; try clear hk1
  obtain ⟨hP, hD⟩ := hJ
  replace hK := (hK.sub (tys' := []) [] rfl).app (hK1.sub (tys' := []) [] rfl)
  clear hP1 hK1 hD1 hvm ht hS; try clear t
  try clear H
  revert hS1
  intro hS
  generalize H1 = H at hP hS ⊢; try clear H1
  replace hP : va_P (dC, dI) vwCl [(h0, .inr (15, fs_3))] H := hP
  replace hD : va_D A [(h0, .inr (15, fs_3))] := hD
  replace hK : va_K (dC, dI) vwCl [] s := hK
  have hw_5 : r_2 = 1 := hw; clear hw
  subst hw_5
  refine lv_if_ne (tgt := 46) hx hb dX15_within_22 (by decide) (fun _ => ?_) (fun hc => absurd hc (by decide))
  refine lv_iconst (v := 0) hx hb dX15_within_46 (by decide) ?_
  have hP9 := hP.sub (ws' := [(h0, .inr (15, fs_3))]) [0] rfl
  have hD9 := hD.sub (ws' := [(h0, .inr (15, fs_3))]) [0] (by decide) rfl
  have hK9 := hK.sub (tys' := []) [] rfl
  rw [← hAe] at hD9
  refine W.widen (k := 0) (n := 0) (Nat.le_of_ble_eq_true rfl) (Nat.le_of_ble_eq_true rfl) ?_
  subst hAe
  exact (W.zret (v := 0) hx hb hr (by decide) (fun t ht hW => ⟨⟨0, (), rfl, trivial, fs_3, by rw [ht]; exact hP9, va_K.moved hW.alike hK9, hD9, (mF.sub hp_4 [0] rfl)⟩, hS.F ht⟩) hS.2.2 dX15_within_47)
def wv_m_closed : List Cond := .code yX15_closed cX15_closed 2 (some .boolean) :: ([.fieldLink RX15 296 "MotionSignsModel" "thrown" "I", .fieldLink RX15 443 "MotionSignsModel" "kind" "I", .methodLink RX15 424 yX15_bad, .instanceMethod yX15_bad, .selects RX15 yX15_bad yX15_bad, .initialized RX15] ++ (wsX150 ++ (wv_m_bad2 ++ ([]))))
theorem gw_m_closed : wv_m_closed.all goodWord = true := by decide +kernel
theorem in_m_closed_X15 : ∀ w ∈ wsX150, w ∈ wv_m_closed := fun _ h => List.mem_cons_of_mem _ (List.mem_append_right _ (List.mem_append_left _ h))
theorem g_m_closed_m_bad2_424 : GoodIn wv_m_closed (wsV RX15 424 RX15 yX15_bad wv_m_bad2) := goodIn_app (goodIn_of _ (by decide +kernel)) (goodIn_sub (fun _ h => List.mem_cons_of_mem _ (List.mem_append_right _ (List.mem_append_right _ (List.mem_append_left _ h)))) gw_m_bad2)
set_option maxHeartbeats 4000000 in
set_option maxRecDepth 100000 in
/-- the reference: closed on a fresh object -/
theorem c_m_closed (l : Launch) (dC : Nat → ClassId) (dI : Nat → Nat → Nat) (h0 : Nat) (qfed : Nat) (qf : Nat) (qfd : Nat) (qs : Nat) (qk : Nat) (x0 : Int32) (fs_h0 : List Value) (hF_h0 : mF 89 [(0, .int 0), (18, .int 0), (19, .int 0), (20, .int (-1)), (21, .int 0), (22, .int 0), (23, .int 0), (24, .int 0), (25, .int 0), (27, .int 0), (28, .int 0), (29, .int 0), (35, .int 0), (17, .int (-1)), (26, .ref qfed), (30, .ref qf), (31, .ref qfd), (33, .ref qs), (36, .ref qk)] fs_h0) (sz : Nat) : Met l yX15_closed wv_m_closed ({ frames := 1, cells := 0, slots := 0, locals := 22 }) (va_Pc [.ref h0, .int x0] (fun U => U.heap.size = sz ∧ va_P (dC, dI) vwCl [(h0, .inr (15, fs_h0))] U.heap ∧ va_K (dC, dI) vwCl [] U ∧ va_D (fun _ => True) [(h0, .inr (15, fs_h0))] ∧ w_N U)) (va_Qi (fun (r : Int32) (_ : Unit) => True) (fun _ t => ∃ (fs_e : List Value), va_P (dC, dI) vwCl [(h0, .inr (15, fs_e))] t.heap ∧ va_K (dC, dI) vwCl [] t ∧ va_D (va_A [(h0, .inr (15, fs_h0))] sz) [(h0, .inr (15, fs_e))] ∧ mF 89 [(0, .int 2)] fs_e) (va_A [(h0, .inr (15, fs_h0))] sz)) 0 0 (va_A [(h0, .inr (15, fs_h0))] sz) := by
  refine Met.ofW (cc := cX15_closed) (maxL := 2) (ret := (some .boolean)) (by decide) rfl ?_
  intro p e s m args below meth c s₁ B hml hv
  obtain ⟨rfl, hsz, hP, hK, hD0, hN⟩ := hv
  have hx := B.exec
  have hb := B.bytes
  have hr := B.returns
  have hts := atoms_spec (ws := wv_m_closed) B.pre
  have hown : s.vm.findClass RX15 = some m.cls := findClass_of_methodNamed B.named
  have hlocks := B.notSynchronized
  subst hsz
  have hD := hD0.self (sz := s.heap.size)
  generalize hAe : va_A [(h0, .inr (15, fs_h0))] s.heap.size = A at hD ⊢
  have hA : ∀ q : Nat, s.heap.size ≤ q → A q := fun q h => by rw [← hAe]; exact Or.inr h
  obtain ⟨H, hHe, hP, hS⟩ : ∃ H : Heap, H = s.heap ∧ va_P (dC, dI) vwCl [(h0, .inr (15, fs_h0))] H ∧ va_S A s.heap H [] := ⟨s.heap, rfl, hP, va_S.rf⟩
  have hl := lv_entry ([.ref h0, .int x0]) (n := 2) (Nat.le_of_ble_eq_true rfl)
  rw [lg_entry_eq]
  generalize (lg_sl ([.ref h0, .int x0]) ++ List.replicate (2 - (lg_sl ([.ref h0, .int x0])).length) Slot.unset).toArray = ls at hl ⊢
  have hl : lv_has ls 2 [(0, .ref h0), (1, .int x0)] := hl
  rw [← hHe]; clear hHe
  refine lv_aload_n hx hb dX15_closed_0 rfl (lv_at hl 0 rfl) ?_
  refine lv_iconst (v := 0) hx hb dX15_closed_1 (by decide) ?_
  refine va_put (D := (dC, dI)) (ci := 15) (v := .int 0) (ty := .int) (C := RX15) (T := TX15) (N := 89) hx hb hts (in_m_closed_X15) tyX15 tyX15_ok nmX15 hown hK hP hD hS 0 rfl rfl 0 (by decide) (hts (.fieldLink RX15 296 "MotionSignsModel" "thrown" "I") (List.mem_of_getElem? (i := 1) rfl)) (fun _ h9 => h9) rfl (tyX15_ok 0 (by decide)) rfl rfl (mF.lt hF_h0 (by decide)) dX15_closed_2 ?_
  clear hP hD hS; try clear H
  intro H locs hP hD hS
  have hF0 := mF.sub (L' := [(18, .int 0), (19, .int 0), (20, .int (-1)), (21, .int 0), (22, .int 0), (23, .int 0), (24, .int 0), (25, .int 0), (27, .int 0), (28, .int 0), (29, .int 0), (35, .int 0), (17, .int (-1)), (26, .ref qfed), (30, .ref qf), (31, .ref qfd), (33, .ref qs), (36, .ref qk)]) hF_h0 [1, 2, 3, 4, 5, 6, 7, 8, 9, 10, 11, 12, 13, 14, 15, 16, 17, 18] rfl
  have hF1 := mF.put hF0 0 (.int 0) (by decide) rfl
  replace hP : va_P (dC, dI) vwCl [(h0, .inr (15, (fs_h0.set 0 (.int 0))))] H := hP
  replace hD : va_D A [(h0, .inr (15, (fs_h0.set 0 (.int 0))))] := hD
  generalize fs_h0.set 0 (.int 0) = fs_1 at hP hD hF1
  replace hF_h0 : mF 89 [(0, .int 0), (18, .int 0), (19, .int 0), (20, .int (-1)), (21, .int 0), (22, .int 0), (23, .int 0), (24, .int 0), (25, .int 0), (27, .int 0), (28, .int 0), (29, .int 0), (35, .int 0), (17, .int (-1)), (26, .ref qfed), (30, .ref qf), (31, .ref qfd), (33, .ref qs), (36, .ref qk)] fs_1 := hF1
  clear hF1 hF0
  replace hP : va_P (dC, dI) vwCl [(h0, .inr (15, fs_1))] H := hP
  replace hD : va_D A [(h0, .inr (15, fs_1))] := hD
  refine lv_aload_n hx hb dX15_closed_5 rfl (lv_at hl 0 rfl) ?_
  refine lv_aload_n hx hb dX15_closed_6 rfl (lv_at hl 0 rfl) ?_
  refine va_get (D := (dC, dI)) (ci := 15) (v := .int 0) (C := RX15) (T := TX15) (N := 89) hx hb hts (in_m_closed_X15) hown hK hP 0 rfl rfl 28 (by decide) (hts (.fieldLink RX15 443 "MotionSignsModel" "kind" "I") (List.mem_of_getElem? (i := 2) rfl)) (fun _ h9 => h9) (mF.get hF_h0 10 rfl) dX15_closed_7 ?_
  refine lv_if_ne (tgt := 17) hx hb dX15_closed_10 (by decide) (fun hc => absurd (by decide) hc) (fun _ => ?_)
  refine lv_iconst (v := 1) hx hb dX15_closed_13 (by decide) ?_
  refine lv_goto (tgt := 18) hx hb dX15_closed_14 (by decide) ?_
  refine lv_iconst (v := 2) hx hb dX15_closed_18 (by decide) ?_
  have hPc := hP.sub (ws' := [(h0, .inr (15, fs_1))]) [0] rfl
  have hDc := hD.sub (ws' := [(h0, .inr (15, fs_1))]) [0] (by decide) rfl
  have hKc := hK.sub (tys' := []) [] rfl
  have hFc := va_free (wc := [(h0, .inr (15, fs_1))]) hD hS hA [0] rfl
  refine va_calli (va_runV (As := [.int 1, .int 2]) (rest := []) ⟨hx, hb, hml, hown, hts⟩ (c_m_bad2 l dC dI h0 qfed qf qfd qs qk fs_1 (mF.sub hF_h0 [0, 1, 2, 3, 4, 5, 6, 7, 8, 9, 10, 11, 12, 13, 14, 15, 16, 17, 18] rfl) H.size) (cwV 2 hts g_m_closed_m_bad2_424 rfl rfl rfl hv_X15_bad ⟨Nat.le_of_ble_eq_true rfl, Nat.le_of_ble_eq_true rfl⟩) ⟨fun a U g mk q => by obtain ⟨q0, q1, qP, qK, qD, qE0⟩ := q; exact ⟨q0, q1, qP, va_K.moved (u := U) (U := U.calling g mk a) (Vm.Alike.refl U.vm) qK, qD, w_N.same rfl qE0⟩, va_recv hKc hPc (ci := 15) (q0 := 0) rfl rfl, fun U hU hW => ⟨rfl, by rw [hU], by rw [hU]; exact hPc, va_K.moved hW.alike hKc, hDc.weaken (fun _ _ _ _ => trivial), w_N.warm hW hN⟩⟩ rfl rfl hl.1 rfl (lv_room (Nat.le_of_ble_eq_true rfl)) dX15_closed_19 ⟨(Nat.le_of_ble_eq_true rfl), (Nat.le_of_ble_eq_true rfl)⟩) hS (fun q _ h => hFc q h) hFc (fun r_2 u t H1 locs1 ht hvm hw hB hz1 hk1 hS1 => ?_)
  obtain ⟨fs_3, hP1, hK1, hD1, hp_4⟩ := hB
  rw [ht] at hP1
  have hK1 := va_K.moved hvm.symm hK1
  have hJ := va_join (wr := []) (w1 := [(h0, .inr (15, fs_3))]) hP hD [0] [] rfl rfl (by decide) (by decide) hk1 hFc hP1 hD1
  clear hP hD hPc hDc hKc hFc hz1; try clear hk1
  obtain ⟨hP, hD⟩ := hJ
  replace hK := (hK.sub (tys' := []) [] rfl).app (hK1.sub (tys' := []) [] rfl)
  clear hP1 hK1 hD1 hvm ht hS; try clear t
  try clear H
  revert hS1
  intro hS
  generalize H1 = H at hP hS ⊢; try clear H1
  replace hP : va_P (dC, dI) vwCl [(h0, .inr (15, fs_3))] H := hP
  replace hD : va_D A [(h0, .inr (15, fs_3))] := hD
  replace hK : va_K (dC, dI) vwCl [] s := hK
  have hw_5 : r_2 = 1 := hw; clear hw
  subst hw_5
  refine lv_if_ne (tgt := 46) hx hb dX15_closed_22 (by decide) (fun _ => ?_) (fun hc => absurd hc (by decide))
  refine lv_iconst (v := 0) hx hb dX15_closed_46 (by decide) ?_
  have hP9 := hP.sub (ws' := [(h0, .inr (15, fs_3))]) [0] rfl
  have hD9 := hD.sub (ws' := [(h0, .inr (15, fs_3))]) [0] (by decide) rfl
  have hK9 := hK.sub (tys' := []) [] rfl
  rw [← hAe] at hD9
  refine W.widen (k := 0) (n := 0) (Nat.le_of_ble_eq_true rfl) (Nat.le_of_ble_eq_true rfl) ?_
  subst hAe
  exact (W.zret (v := 0) hx hb hr (by decide) (fun t ht hW => ⟨⟨0, (), rfl, trivial, fs_3, by rw [ht]; exact hP9, va_K.moved hW.alike hK9, hD9, (mF.sub hp_4 [0] rfl)⟩, hS.F ht⟩) hS.2.2 dX15_closed_47)
def wv_m_constant : List Cond := .code yX15_constant cX15_constant 6 (some .long) :: ([.fieldLink RX15 296 "MotionSignsModel" "thrown" "I", .fieldLink RX15 443 "MotionSignsModel" "kind" "I", .methodLink RX15 424 yX15_bad, .instanceMethod yX15_bad, .selects RX15 yX15_bad yX15_bad, .initialized RX15] ++ (wsX150 ++ (wv_m_bad3 ++ ([]))))
theorem gw_m_constant : wv_m_constant.all goodWord = true := by decide +kernel
theorem in_m_constant_X15 : ∀ w ∈ wsX150, w ∈ wv_m_constant := fun _ h => List.mem_cons_of_mem _ (List.mem_append_right _ (List.mem_append_left _ h))
theorem g_m_constant_m_bad3_424 : GoodIn wv_m_constant (wsV RX15 424 RX15 yX15_bad wv_m_bad3) := goodIn_app (goodIn_of _ (by decide +kernel)) (goodIn_sub (fun _ h => List.mem_cons_of_mem _ (List.mem_append_right _ (List.mem_append_right _ (List.mem_append_left _ h)))) gw_m_bad3)
set_option maxHeartbeats 4000000 in
set_option maxRecDepth 100000 in
/-- the reference: constant on a fresh object -/
theorem c_m_constant (l : Launch) (dC : Nat → ClassId) (dI : Nat → Nat → Nat) (h0 : Nat) (qfed : Nat) (qf : Nat) (qfd : Nat) (qs : Nat) (qk : Nat) (x0 : Int32) (x1 : Int32) (x2 : Int32) (x3 : Int32) (x4 : Int32) (fs_h0 : List Value) (hF_h0 : mF 89 [(0, .int 0), (18, .int 0), (19, .int 0), (20, .int (-1)), (21, .int 0), (22, .int 0), (23, .int 0), (24, .int 0), (25, .int 0), (27, .int 0), (28, .int 0), (29, .int 0), (35, .int 0), (17, .int (-1)), (26, .ref qfed), (30, .ref qf), (31, .ref qfd), (33, .ref qs), (36, .ref qk)] fs_h0) (sz : Nat) : Met l yX15_constant wv_m_constant ({ frames := 1, cells := 0, slots := 0, locals := 22 }) (va_Pc [.ref h0, .int x0, .int x1, .int x2, .int x3, .int x4] (fun U => U.heap.size = sz ∧ va_P (dC, dI) vwCl [(h0, .inr (15, fs_h0))] U.heap ∧ va_K (dC, dI) vwCl [] U ∧ va_D (fun _ => True) [(h0, .inr (15, fs_h0))] ∧ w_N U)) (va_Ql (fun (r : Int64) (_ : Unit) => True) (fun _ t => ∃ (fs_e : List Value), va_P (dC, dI) vwCl [(h0, .inr (15, fs_e))] t.heap ∧ va_K (dC, dI) vwCl [] t ∧ va_D (va_A [(h0, .inr (15, fs_h0))] sz) [(h0, .inr (15, fs_e))] ∧ mF 89 [(0, .int 3)] fs_e) (va_A [(h0, .inr (15, fs_h0))] sz)) 0 0 (va_A [(h0, .inr (15, fs_h0))] sz) := by
  refine Met.ofW (cc := cX15_constant) (maxL := 6) (ret := (some .long)) (by decide) rfl ?_
  intro p e s m args below meth c s₁ B hml hv
  obtain ⟨rfl, hsz, hP, hK, hD0, hN⟩ := hv
  have hx := B.exec
  have hb := B.bytes
  have hr := B.returns
  have hts := atoms_spec (ws := wv_m_constant) B.pre
  have hown : s.vm.findClass RX15 = some m.cls := findClass_of_methodNamed B.named
  have hlocks := B.notSynchronized
  subst hsz
  have hD := hD0.self (sz := s.heap.size)
  generalize hAe : va_A [(h0, .inr (15, fs_h0))] s.heap.size = A at hD ⊢
  have hA : ∀ q : Nat, s.heap.size ≤ q → A q := fun q h => by rw [← hAe]; exact Or.inr h
  obtain ⟨H, hHe, hP, hS⟩ : ∃ H : Heap, H = s.heap ∧ va_P (dC, dI) vwCl [(h0, .inr (15, fs_h0))] H ∧ va_S A s.heap H [] := ⟨s.heap, rfl, hP, va_S.rf⟩
  have hl := lv_entry ([.ref h0, .int x0, .int x1, .int x2, .int x3, .int x4]) (n := 6) (Nat.le_of_ble_eq_true rfl)
  rw [lg_entry_eq]
  generalize (lg_sl ([.ref h0, .int x0, .int x1, .int x2, .int x3, .int x4]) ++ List.replicate (6 - (lg_sl ([.ref h0, .int x0, .int x1, .int x2, .int x3, .int x4])).length) Slot.unset).toArray = ls at hl ⊢
  have hl : lv_has ls 6 [(0, .ref h0), (1, .int x0), (2, .int x1), (3, .int x2), (4, .int x3), (5, .int x4)] := hl
  rw [← hHe]; clear hHe
  refine lv_aload_n hx hb dX15_constant_0 rfl (lv_at hl 0 rfl) ?_
  refine lv_iconst (v := 0) hx hb dX15_constant_1 (by decide) ?_
  refine va_put (D := (dC, dI)) (ci := 15) (v := .int 0) (ty := .int) (C := RX15) (T := TX15) (N := 89) hx hb hts (in_m_constant_X15) tyX15 tyX15_ok nmX15 hown hK hP hD hS 0 rfl rfl 0 (by decide) (hts (.fieldLink RX15 296 "MotionSignsModel" "thrown" "I") (List.mem_of_getElem? (i := 1) rfl)) (fun _ h9 => h9) rfl (tyX15_ok 0 (by decide)) rfl rfl (mF.lt hF_h0 (by decide)) dX15_constant_2 ?_
  clear hP hD hS; try clear H
  intro H locs hP hD hS
  have hF0 := mF.sub (L' := [(18, .int 0), (19, .int 0), (20, .int (-1)), (21, .int 0), (22, .int 0), (23, .int 0), (24, .int 0), (25, .int 0), (27, .int 0), (28, .int 0), (29, .int 0), (35, .int 0), (17, .int (-1)), (26, .ref qfed), (30, .ref qf), (31, .ref qfd), (33, .ref qs), (36, .ref qk)]) hF_h0 [1, 2, 3, 4, 5, 6, 7, 8, 9, 10, 11, 12, 13, 14, 15, 16, 17, 18] rfl
  have hF1 := mF.put hF0 0 (.int 0) (by decide) rfl
  replace hP : va_P (dC, dI) vwCl [(h0, .inr (15, (fs_h0.set 0 (.int 0))))] H := hP
  replace hD : va_D A [(h0, .inr (15, (fs_h0.set 0 (.int 0))))] := hD
  generalize fs_h0.set 0 (.int 0) = fs_1 at hP hD hF1
  replace hF_h0 : mF 89 [(0, .int 0), (18, .int 0), (19, .int 0), (20, .int (-1)), (21, .int 0), (22, .int 0), (23, .int 0), (24, .int 0), (25, .int 0), (27, .int 0), (28, .int 0), (29, .int 0), (35, .int 0), (17, .int (-1)), (26, .ref qfed), (30, .ref qf), (31, .ref qfd), (33, .ref qs), (36, .ref qk)] fs_1 := hF1
  clear hF1 hF0
  replace hP : va_P (dC, dI) vwCl [(h0, .inr (15, fs_1))] H := hP
  replace hD : va_D A [(h0, .inr (15, fs_1))] := hD
  refine lv_aload_n hx hb dX15_constant_5 rfl (lv_at hl 0 rfl) ?_
  refine lv_aload_n hx hb dX15_constant_6 rfl (lv_at hl 0 rfl) ?_
  refine va_get (D := (dC, dI)) (ci := 15) (v := .int 0) (C := RX15) (T := TX15) (N := 89) hx hb hts (in_m_constant_X15) hown hK hP 0 rfl rfl 28 (by decide) (hts (.fieldLink RX15 443 "MotionSignsModel" "kind" "I") (List.mem_of_getElem? (i := 2) rfl)) (fun _ h9 => h9) (mF.get hF_h0 10 rfl) dX15_constant_7 ?_
  refine lv_if_ne (tgt := 17) hx hb dX15_constant_10 (by decide) (fun hc => absurd (by decide) hc) (fun _ => ?_)
  refine lv_iconst (v := 1) hx hb dX15_constant_13 (by decide) ?_
  refine lv_goto (tgt := 18) hx hb dX15_constant_14 (by decide) ?_
  refine lv_iconst (v := 3) hx hb dX15_constant_18 (by decide) ?_
  have hPc := hP.sub (ws' := [(h0, .inr (15, fs_1))]) [0] rfl
  have hDc := hD.sub (ws' := [(h0, .inr (15, fs_1))]) [0] (by decide) rfl
  have hKc := hK.sub (tys' := []) [] rfl
  have hFc := va_free (wc := [(h0, .inr (15, fs_1))]) hD hS hA [0] rfl
  refine va_calli (va_runV (As := [.int 1, .int 3]) (rest := []) ⟨hx, hb, hml, hown, hts⟩ (c_m_bad3 l dC dI h0 qfed qf qfd qs qk fs_1 (mF.sub hF_h0 [0, 1, 2, 3, 4, 5, 6, 7, 8, 9, 10, 11, 12, 13, 14, 15, 16, 17, 18] rfl) H.size) (cwV 2 hts g_m_constant_m_bad3_424 rfl rfl rfl hv_X15_bad ⟨Nat.le_of_ble_eq_true rfl, Nat.le_of_ble_eq_true rfl⟩) ⟨fun a U g mk q => by obtain ⟨q0, q1, qP, qK, qD, qE0⟩ := q; exact ⟨q0, q1, qP, va_K.moved (u := U) (U := U.calling g mk a) (Vm.Alike.refl U.vm) qK, qD, w_N.same rfl qE0⟩, va_recv hKc hPc (ci := 15) (q0 := 0) rfl rfl, fun U hU hW => ⟨rfl, by rw [hU], by rw [hU]; exact hPc, va_K.moved hW.alike hKc, hDc.weaken (fun _ _ _ _ => trivial), w_N.warm hW hN⟩⟩ rfl rfl hl.1 rfl (lv_room (Nat.le_of_ble_eq_true rfl)) dX15_constant_19 ⟨(Nat.le_of_ble_eq_true rfl), (Nat.le_of_ble_eq_true rfl)⟩) hS (fun q _ h => hFc q h) hFc (fun r_2 u t H1 locs1 ht hvm hw hB hz1 hk1 hS1 => ?_)
  obtain ⟨fs_3, hP1, hK1, hD1, hp_4⟩ := hB
  rw [ht] at hP1
  have hK1 := va_K.moved hvm.symm hK1
  have hJ := va_join (wr := []) (w1 := [(h0, .inr (15, fs_3))]) hP hD [0] [] rfl rfl (by decide) (by decide) hk1 hFc hP1 hD1
  clear hP hD hPc hDc hKc hFc hz1; try clear hk1
  obtain ⟨hP, hD⟩ := hJ
  replace hK := (hK.sub (tys' := []) [] rfl).app (hK1.sub (tys' := []) [] rfl)
  clear hP1 hK1 hD1 hvm ht hS; try clear t
  try clear H
  revert hS1
  intro hS
  generalize H1 = H at hP hS ⊢; try clear H1
  replace hP : va_P (dC, dI) vwCl [(h0, .inr (15, fs_3))] H := hP
  replace hD : va_D A [(h0, .inr (15, fs_3))] := hD
  replace hK : va_K (dC, dI) vwCl [] s := hK
  have hw_5 : r_2 = 1 := hw; clear hw
  subst hw_5
  refine lv_if_ne (tgt := 46) hx hb dX15_constant_22 (by decide) (fun _ => ?_) (fun hc => absurd hc (by decide))
  refine lv_lconst (v := 0) hx hb dX15_constant_46 (by decide) ?_
  have hP9 := hP.sub (ws' := [(h0, .inr (15, fs_3))]) [0] rfl
  have hD9 := hD.sub (ws' := [(h0, .inr (15, fs_3))]) [0] (by decide) rfl
  have hK9 := hK.sub (tys' := []) [] rfl
  rw [← hAe] at hD9
  refine W.widen (k := 0) (n := 0) (Nat.le_of_ble_eq_true rfl) (Nat.le_of_ble_eq_true rfl) ?_
  subst hAe
  exact (W.lret (v := 0) hx hb hr (fun t ht hW => ⟨⟨0, (), rfl, trivial, fs_3, by rw [ht]; exact hP9, va_K.moved hW.alike hK9, hD9, (mF.sub hp_4 [0] rfl)⟩, hS.F ht⟩) hS.2.2 dX15_constant_47)
def wv_m_kind : List Cond := .code yX15_kind cX15_kind 3 (some .int) :: ([.fieldLink RX15 296 "MotionSignsModel" "thrown" "I", .fieldLink RX15 443 "MotionSignsModel" "kind" "I", .methodLink RX15 424 yX15_bad, .instanceMethod yX15_bad, .selects RX15 yX15_bad yX15_bad, .initialized RX15] ++ (wsX150 ++ (wv_m_bad2 ++ ([]))))
theorem gw_m_kind : wv_m_kind.all goodWord = true := by decide +kernel
theorem in_m_kind_X15 : ∀ w ∈ wsX150, w ∈ wv_m_kind := fun _ h => List.mem_cons_of_mem _ (List.mem_append_right _ (List.mem_append_left _ h))
theorem g_m_kind_m_bad2_424 : GoodIn wv_m_kind (wsV RX15 424 RX15 yX15_bad wv_m_bad2) := goodIn_app (goodIn_of _ (by decide +kernel)) (goodIn_sub (fun _ h => List.mem_cons_of_mem _ (List.mem_append_right _ (List.mem_append_right _ (List.mem_append_left _ h)))) gw_m_bad2)
set_option maxHeartbeats 4000000 in
set_option maxRecDepth 100000 in
/-- the reference: kind on a fresh object -/
theorem c_m_kind (l : Launch) (dC : Nat → ClassId) (dI : Nat → Nat → Nat) (h0 : Nat) (qfed : Nat) (qf : Nat) (qfd : Nat) (qs : Nat) (qk : Nat) (x0 : Int32) (x1 : Int32) (fs_h0 : List Value) (hF_h0 : mF 89 [(0, .int 0), (18, .int 0), (19, .int 0), (20, .int (-1)), (21, .int 0), (22, .int 0), (23, .int 0), (24, .int 0), (25, .int 0), (27, .int 0), (28, .int 0), (29, .int 0), (35, .int 0), (17, .int (-1)), (26, .ref qfed), (30, .ref qf), (31, .ref qfd), (33, .ref qs), (36, .ref qk)] fs_h0) (sz : Nat) : Met l yX15_kind wv_m_kind ({ frames := 1, cells := 0, slots := 0, locals := 22 }) (va_Pc [.ref h0, .int x0, .int x1] (fun U => U.heap.size = sz ∧ va_P (dC, dI) vwCl [(h0, .inr (15, fs_h0))] U.heap ∧ va_K (dC, dI) vwCl [] U ∧ va_D (fun _ => True) [(h0, .inr (15, fs_h0))] ∧ w_N U)) (va_Qi (fun (r : Int32) (_ : Unit) => True) (fun _ t => ∃ (fs_e : List Value), va_P (dC, dI) vwCl [(h0, .inr (15, fs_e))] t.heap ∧ va_K (dC, dI) vwCl [] t ∧ va_D (va_A [(h0, .inr (15, fs_h0))] sz) [(h0, .inr (15, fs_e))] ∧ mF 89 [(0, .int 2)] fs_e) (va_A [(h0, .inr (15, fs_h0))] sz)) 0 0 (va_A [(h0, .inr (15, fs_h0))] sz) := by
  refine Met.ofW (cc := cX15_kind) (maxL := 3) (ret := (some .int)) (by decide) rfl ?_
  intro p e s m args below meth c s₁ B hml hv
  obtain ⟨rfl, hsz, hP, hK, hD0, hN⟩ := hv
  have hx := B.exec
  have hb := B.bytes
  have hr := B.returns
  have hts := atoms_spec (ws := wv_m_kind) B.pre
  have hown : s.vm.findClass RX15 = some m.cls := findClass_of_methodNamed B.named
  have hlocks := B.notSynchronized
  subst hsz
  have hD := hD0.self (sz := s.heap.size)
  generalize hAe : va_A [(h0, .inr (15, fs_h0))] s.heap.size = A at hD ⊢
  have hA : ∀ q : Nat, s.heap.size ≤ q → A q := fun q h => by rw [← hAe]; exact Or.inr h
  obtain ⟨H, hHe, hP, hS⟩ : ∃ H : Heap, H = s.heap ∧ va_P (dC, dI) vwCl [(h0, .inr (15, fs_h0))] H ∧ va_S A s.heap H [] := ⟨s.heap, rfl, hP, va_S.rf⟩
  have hl := lv_entry ([.ref h0, .int x0, .int x1]) (n := 3) (Nat.le_of_ble_eq_true rfl)
  rw [lg_entry_eq]
  generalize (lg_sl ([.ref h0, .int x0, .int x1]) ++ List.replicate (3 - (lg_sl ([.ref h0, .int x0, .int x1])).length) Slot.unset).toArray = ls at hl ⊢
  have hl : lv_has ls 3 [(0, .ref h0), (1, .int x0), (2, .int x1)] := hl
  rw [← hHe]; clear hHe
  refine lv_aload_n hx hb dX15_kind_0 rfl (lv_at hl 0 rfl) ?_
  refine lv_iconst (v := 0) hx hb dX15_kind_1 (by decide) ?_
  refine va_put (D := (dC, dI)) (ci := 15) (v := .int 0) (ty := .int) (C := RX15) (T := TX15) (N := 89) hx hb hts (in_m_kind_X15) tyX15 tyX15_ok nmX15 hown hK hP hD hS 0 rfl rfl 0 (by decide) (hts (.fieldLink RX15 296 "MotionSignsModel" "thrown" "I") (List.mem_of_getElem? (i := 1) rfl)) (fun _ h9 => h9) rfl (tyX15_ok 0 (by decide)) rfl rfl (mF.lt hF_h0 (by decide)) dX15_kind_2 ?_
  clear hP hD hS; try clear H
  intro H locs hP hD hS
  have hF0 := mF.sub (L' := [(18, .int 0), (19, .int 0), (20, .int (-1)), (21, .int 0), (22, .int 0), (23, .int 0), (24, .int 0), (25, .int 0), (27, .int 0), (28, .int 0), (29, .int 0), (35, .int 0), (17, .int (-1)), (26, .ref qfed), (30, .ref qf), (31, .ref qfd), (33, .ref qs), (36, .ref qk)]) hF_h0 [1, 2, 3, 4, 5, 6, 7, 8, 9, 10, 11, 12, 13, 14, 15, 16, 17, 18] rfl
  have hF1 := mF.put hF0 0 (.int 0) (by decide) rfl
  replace hP : va_P (dC, dI) vwCl [(h0, .inr (15, (fs_h0.set 0 (.int 0))))] H := hP
  replace hD : va_D A [(h0, .inr (15, (fs_h0.set 0 (.int 0))))] := hD
  generalize fs_h0.set 0 (.int 0) = fs_1 at hP hD hF1
  replace hF_h0 : mF 89 [(0, .int 0), (18, .int 0), (19, .int 0), (20, .int (-1)), (21, .int 0), (22, .int 0), (23, .int 0), (24, .int 0), (25, .int 0), (27, .int 0), (28, .int 0), (29, .int 0), (35, .int 0), (17, .int (-1)), (26, .ref qfed), (30, .ref qf), (31, .ref qfd), (33, .ref qs), (36, .ref qk)] fs_1 := hF1
  clear hF1 hF0
  replace hP : va_P (dC, dI) vwCl [(h0, .inr (15, fs_1))] H := hP
  replace hD : va_D A [(h0, .inr (15, fs_1))] := hD
  refine lv_aload_n hx hb dX15_kind_5 rfl (lv_at hl 0 rfl) ?_
  refine lv_aload_n hx hb dX15_kind_6 rfl (lv_at hl 0 rfl) ?_
  refine va_get (D := (dC, dI)) (ci := 15) (v := .int 0) (C := RX15) (T := TX15) (N := 89) hx hb hts (in_m_kind_X15) hown hK hP 0 rfl rfl 28 (by decide) (hts (.fieldLink RX15 443 "MotionSignsModel" "kind" "I") (List.mem_of_getElem? (i := 2) rfl)) (fun _ h9 => h9) (mF.get hF_h0 10 rfl) dX15_kind_7 ?_
  refine lv_if_ne (tgt := 17) hx hb dX15_kind_10 (by decide) (fun hc => absurd (by decide) hc) (fun _ => ?_)
  refine lv_iconst (v := 1) hx hb dX15_kind_13 (by decide) ?_
  refine lv_goto (tgt := 18) hx hb dX15_kind_14 (by decide) ?_
  refine lv_iconst (v := 2) hx hb dX15_kind_18 (by decide) ?_
  have hPc := hP.sub (ws' := [(h0, .inr (15, fs_1))]) [0] rfl
  have hDc := hD.sub (ws' := [(h0, .inr (15, fs_1))]) [0] (by decide) rfl
  have hKc := hK.sub (tys' := []) [] rfl
  have hFc := va_free (wc := [(h0, .inr (15, fs_1))]) hD hS hA [0] rfl
  refine va_calli (va_runV (As := [.int 1, .int 2]) (rest := []) ⟨hx, hb, hml, hown, hts⟩ (c_m_bad2 l dC dI h0 qfed qf qfd qs qk fs_1 (mF.sub hF_h0 [0, 1, 2, 3, 4, 5, 6, 7, 8, 9, 10, 11, 12, 13, 14, 15, 16, 17, 18] rfl) H.size) (cwV 2 hts g_m_kind_m_bad2_424 rfl rfl rfl hv_X15_bad ⟨Nat.le_of_ble_eq_true rfl, Nat.le_of_ble_eq_true rfl⟩) ⟨fun a U g mk q => by obtain ⟨q0, q1, qP, qK, qD, qE0⟩ := q; exact ⟨q0, q1, qP, va_K.moved (u := U) (U := U.calling g mk a) (Vm.Alike.refl U.vm) qK, qD, w_N.same rfl qE0⟩, va_recv hKc hPc (ci := 15) (q0 := 0) rfl rfl, fun U hU hW => ⟨rfl, by rw [hU], by rw [hU]; exact hPc, va_K.moved hW.alike hKc, hDc.weaken (fun _ _ _ _ => trivial), w_N.warm hW hN⟩⟩ rfl rfl hl.1 rfl (lv_room (Nat.le_of_ble_eq_true rfl)) dX15_kind_19 ⟨(Nat.le_of_ble_eq_true rfl), (Nat.le_of_ble_eq_true rfl)⟩) hS (fun q _ h => hFc q h) hFc (fun r_2 u t H1 locs1 ht hvm hw hB hz1 hk1 hS1 => ?_)
  obtain ⟨fs_3, hP1, hK1, hD1, hp_4⟩ := hB
  rw [ht] at hP1
  have hK1 := va_K.moved hvm.symm hK1
  have hJ := va_join (wr := []) (w1 := [(h0, .inr (15, fs_3))]) hP hD [0] [] rfl rfl (by decide) (by decide) hk1 hFc hP1 hD1
  clear hP hD hPc hDc hKc hFc hz1; try clear hk1
  obtain ⟨hP, hD⟩ := hJ
  replace hK := (hK.sub (tys' := []) [] rfl).app (hK1.sub (tys' := []) [] rfl)
  clear hP1 hK1 hD1 hvm ht hS; try clear t
  try clear H
  revert hS1
  intro hS
  generalize H1 = H at hP hS ⊢; try clear H1
  replace hP : va_P (dC, dI) vwCl [(h0, .inr (15, fs_3))] H := hP
  replace hD : va_D A [(h0, .inr (15, fs_3))] := hD
  replace hK : va_K (dC, dI) vwCl [] s := hK
  have hw_5 : r_2 = 1 := hw; clear hw
  subst hw_5
  refine lv_if_ne (tgt := 55) hx hb dX15_kind_22 (by decide) (fun _ => ?_) (fun hc => absurd hc (by decide))
  refine lv_iconst (v := 0) hx hb dX15_kind_55 (by decide) ?_
  have hP9 := hP.sub (ws' := [(h0, .inr (15, fs_3))]) [0] rfl
  have hD9 := hD.sub (ws' := [(h0, .inr (15, fs_3))]) [0] (by decide) rfl
  have hK9 := hK.sub (tys' := []) [] rfl
  rw [← hAe] at hD9
  refine W.widen (k := 0) (n := 0) (Nat.le_of_ble_eq_true rfl) (Nat.le_of_ble_eq_true rfl) ?_
  subst hAe
  exact (W.iret (v := 0) hx hb hr (fun t ht hW => ⟨⟨0, (), rfl, trivial, fs_3, by rw [ht]; exact hP9, va_K.moved hW.alike hK9, hD9, (mF.sub hp_4 [0] rfl)⟩, hS.F ht⟩) hS.2.2 dX15_kind_56)
def wv_m_steps : List Cond := .code yX15_steps cX15_steps 8 (some .int) :: ([.fieldLink RX15 296 "MotionSignsModel" "thrown" "I", .fieldLink RX15 443 "MotionSignsModel" "kind" "I", .methodLink RX15 424 yX15_bad, .instanceMethod yX15_bad, .selects RX15 yX15_bad yX15_bad, .initialized RX15] ++ (wsX150 ++ (wv_m_bad3 ++ ([]))))
theorem gw_m_steps : wv_m_steps.all goodWord = true := by decide +kernel
theorem in_m_steps_X15 : ∀ w ∈ wsX150, w ∈ wv_m_steps := fun _ h => List.mem_cons_of_mem _ (List.mem_append_right _ (List.mem_append_left _ h))
theorem g_m_steps_m_bad3_424 : GoodIn wv_m_steps (wsV RX15 424 RX15 yX15_bad wv_m_bad3) := goodIn_app (goodIn_of _ (by decide +kernel)) (goodIn_sub (fun _ h => List.mem_cons_of_mem _ (List.mem_append_right _ (List.mem_append_right _ (List.mem_append_left _ h)))) gw_m_bad3)
set_option maxHeartbeats 4000000 in
set_option maxRecDepth 100000 in
/-- the reference: steps on a fresh object -/
theorem c_m_steps (l : Launch) (dC : Nat → ClassId) (dI : Nat → Nat → Nat) (h0 : Nat) (qfed : Nat) (qf : Nat) (qfd : Nat) (qs : Nat) (qk : Nat) (x0 : Int32) (x1 : Int32) (x2 : Int32) (fs_h0 : List Value) (hF_h0 : mF 89 [(0, .int 0), (18, .int 0), (19, .int 0), (20, .int (-1)), (21, .int 0), (22, .int 0), (23, .int 0), (24, .int 0), (25, .int 0), (27, .int 0), (28, .int 0), (29, .int 0), (35, .int 0), (17, .int (-1)), (26, .ref qfed), (30, .ref qf), (31, .ref qfd), (33, .ref qs), (36, .ref qk)] fs_h0) (sz : Nat) : Met l yX15_steps wv_m_steps ({ frames := 1, cells := 0, slots := 0, locals := 22 }) (va_Pc [.ref h0, .int x0, .int x1, .int x2] (fun U => U.heap.size = sz ∧ va_P (dC, dI) vwCl [(h0, .inr (15, fs_h0))] U.heap ∧ va_K (dC, dI) vwCl [] U ∧ va_D (fun _ => True) [(h0, .inr (15, fs_h0))] ∧ w_N U)) (va_Qi (fun (r : Int32) (_ : Unit) => True) (fun _ t => ∃ (fs_e : List Value), va_P (dC, dI) vwCl [(h0, .inr (15, fs_e))] t.heap ∧ va_K (dC, dI) vwCl [] t ∧ va_D (va_A [(h0, .inr (15, fs_h0))] sz) [(h0, .inr (15, fs_e))] ∧ mF 89 [(0, .int 3)] fs_e) (va_A [(h0, .inr (15, fs_h0))] sz)) 0 0 (va_A [(h0, .inr (15, fs_h0))] sz) := by
  refine Met.ofW (cc := cX15_steps) (maxL := 8) (ret := (some .int)) (by decide) rfl ?_
  intro p e s m args below meth c s₁ B hml hv
  obtain ⟨rfl, hsz, hP, hK, hD0, hN⟩ := hv
  have hx := B.exec
  have hb := B.bytes
  have hr := B.returns
  have hts := atoms_spec (ws := wv_m_steps) B.pre
  have hown : s.vm.findClass RX15 = some m.cls := findClass_of_methodNamed B.named
  have hlocks := B.notSynchronized
  subst hsz
  have hD := hD0.self (sz := s.heap.size)
  generalize hAe : va_A [(h0, .inr (15, fs_h0))] s.heap.size = A at hD ⊢
  have hA : ∀ q : Nat, s.heap.size ≤ q → A q := fun q h => by rw [← hAe]; exact Or.inr h
  obtain ⟨H, hHe, hP, hS⟩ : ∃ H : Heap, H = s.heap ∧ va_P (dC, dI) vwCl [(h0, .inr (15, fs_h0))] H ∧ va_S A s.heap H [] := ⟨s.heap, rfl, hP, va_S.rf⟩
  have hl := lv_entry ([.ref h0, .int x0, .int x1, .int x2]) (n := 8) (Nat.le_of_ble_eq_true rfl)
  rw [lg_entry_eq]
  generalize (lg_sl ([.ref h0, .int x0, .int x1, .int x2]) ++ List.replicate (8 - (lg_sl ([.ref h0, .int x0, .int x1, .int x2])).length) Slot.unset).toArray = ls at hl ⊢
  have hl : lv_has ls 8 [(0, .ref h0), (1, .int x0), (2, .int x1), (3, .int x2)] := hl
  rw [← hHe]; clear hHe
  refine lv_aload_n hx hb dX15_steps_0 rfl (lv_at hl 0 rfl) ?_
  refine lv_iconst (v := 0) hx hb dX15_steps_1 (by decide) ?_
  refine va_put (D := (dC, dI)) (ci := 15) (v := .int 0) (ty := .int) (C := RX15) (T := TX15) (N := 89) hx hb hts (in_m_steps_X15) tyX15 tyX15_ok nmX15 hown hK hP hD hS 0 rfl rfl 0 (by decide) (hts (.fieldLink RX15 296 "MotionSignsModel" "thrown" "I") (List.mem_of_getElem? (i := 1) rfl)) (fun _ h9 => h9) rfl (tyX15_ok 0 (by decide)) rfl rfl (mF.lt hF_h0 (by decide)) dX15_steps_2 ?_
  clear hP hD hS; try clear H
  intro H locs hP hD hS
  have hF0 := mF.sub (L' := [(18, .int 0), (19, .int 0), (20, .int (-1)), (21, .int 0), (22, .int 0), (23, .int 0), (24, .int 0), (25, .int 0), (27, .int 0), (28, .int 0), (29, .int 0), (35, .int 0), (17, .int (-1)), (26, .ref qfed), (30, .ref qf), (31, .ref qfd), (33, .ref qs), (36, .ref qk)]) hF_h0 [1, 2, 3, 4, 5, 6, 7, 8, 9, 10, 11, 12, 13, 14, 15, 16, 17, 18] rfl
  have hF1 := mF.put hF0 0 (.int 0) (by decide) rfl
  replace hP : va_P (dC, dI) vwCl [(h0, .inr (15, (fs_h0.set 0 (.int 0))))] H := hP
  replace hD : va_D A [(h0, .inr (15, (fs_h0.set 0 (.int 0))))] := hD
  generalize fs_h0.set 0 (.int 0) = fs_1 at hP hD hF1
  replace hF_h0 : mF 89 [(0, .int 0), (18, .int 0), (19, .int 0), (20, .int (-1)), (21, .int 0), (22, .int 0), (23, .int 0), (24, .int 0), (25, .int 0), (27, .int 0), (28, .int 0), (29, .int 0), (35, .int 0), (17, .int (-1)), (26, .ref qfed), (30, .ref qf), (31, .ref qfd), (33, .ref qs), (36, .ref qk)] fs_1 := hF1
  clear hF1 hF0
  replace hP : va_P (dC, dI) vwCl [(h0, .inr (15, fs_1))] H := hP
  replace hD : va_D A [(h0, .inr (15, fs_1))] := hD
  refine lv_aload_n hx hb dX15_steps_5 rfl (lv_at hl 0 rfl) ?_
  refine lv_aload_n hx hb dX15_steps_6 rfl (lv_at hl 0 rfl) ?_
  refine va_get (D := (dC, dI)) (ci := 15) (v := .int 0) (C := RX15) (T := TX15) (N := 89) hx hb hts (in_m_steps_X15) hown hK hP 0 rfl rfl 28 (by decide) (hts (.fieldLink RX15 443 "MotionSignsModel" "kind" "I") (List.mem_of_getElem? (i := 2) rfl)) (fun _ h9 => h9) (mF.get hF_h0 10 rfl) dX15_steps_7 ?_
  refine lv_if_ne (tgt := 17) hx hb dX15_steps_10 (by decide) (fun hc => absurd (by decide) hc) (fun _ => ?_)
  refine lv_iconst (v := 1) hx hb dX15_steps_13 (by decide) ?_
  refine lv_goto (tgt := 18) hx hb dX15_steps_14 (by decide) ?_
  refine lv_iconst (v := 3) hx hb dX15_steps_18 (by decide) ?_
  have hPc := hP.sub (ws' := [(h0, .inr (15, fs_1))]) [0] rfl
  have hDc := hD.sub (ws' := [(h0, .inr (15, fs_1))]) [0] (by decide) rfl
  have hKc := hK.sub (tys' := []) [] rfl
  have hFc := va_free (wc := [(h0, .inr (15, fs_1))]) hD hS hA [0] rfl
  refine va_calli (va_runV (As := [.int 1, .int 3]) (rest := []) ⟨hx, hb, hml, hown, hts⟩ (c_m_bad3 l dC dI h0 qfed qf qfd qs qk fs_1 (mF.sub hF_h0 [0, 1, 2, 3, 4, 5, 6, 7, 8, 9, 10, 11, 12, 13, 14, 15, 16, 17, 18] rfl) H.size) (cwV 2 hts g_m_steps_m_bad3_424 rfl rfl rfl hv_X15_bad ⟨Nat.le_of_ble_eq_true rfl, Nat.le_of_ble_eq_true rfl⟩) ⟨fun a U g mk q => by obtain ⟨q0, q1, qP, qK, qD, qE0⟩ := q; exact ⟨q0, q1, qP, va_K.moved (u := U) (U := U.calling g mk a) (Vm.Alike.refl U.vm) qK, qD, w_N.same rfl qE0⟩, va_recv hKc hPc (ci := 15) (q0 := 0) rfl rfl, fun U hU hW => ⟨rfl, by rw [hU], by rw [hU]; exact hPc, va_K.moved hW.alike hKc, hDc.weaken (fun _ _ _ _ => trivial), w_N.warm hW hN⟩⟩ rfl rfl hl.1 rfl (lv_room (Nat.le_of_ble_eq_true rfl)) dX15_steps_19 ⟨(Nat.le_of_ble_eq_true rfl), (Nat.le_of_ble_eq_true rfl)⟩) hS (fun q _ h => hFc q h) hFc (fun r_2 u t H1 locs1 ht hvm hw hB hz1 hk1 hS1 => ?_)
  obtain ⟨fs_3, hP1, hK1, hD1, hp_4⟩ := hB
  rw [ht] at hP1
  have hK1 := va_K.moved hvm.symm hK1
  have hJ := va_join (wr := []) (w1 := [(h0, .inr (15, fs_3))]) hP hD [0] [] rfl rfl (by decide) (by decide) hk1 hFc hP1 hD1
  clear hP hD hPc hDc hKc hFc hz1; try clear hk1
  obtain ⟨hP, hD⟩ := hJ
  replace hK := (hK.sub (tys' := []) [] rfl).app (hK1.sub (tys' := []) [] rfl)
  clear hP1 hK1 hD1 hvm ht hS; try clear t
  try clear H
  revert hS1
  intro hS
  generalize H1 = H at hP hS ⊢; try clear H1
  replace hP : va_P (dC, dI) vwCl [(h0, .inr (15, fs_3))] H := hP
  replace hD : va_D A [(h0, .inr (15, fs_3))] := hD
  replace hK : va_K (dC, dI) vwCl [] s := hK
  have hw_5 : r_2 = 1 := hw; clear hw
  subst hw_5
  refine lv_if_ne (tgt := 46) hx hb dX15_steps_22 (by decide) (fun _ => ?_) (fun hc => absurd hc (by decide))
  refine lv_iconst (v := 0) hx hb dX15_steps_46 (by decide) ?_
  have hP9 := hP.sub (ws' := [(h0, .inr (15, fs_3))]) [0] rfl
  have hD9 := hD.sub (ws' := [(h0, .inr (15, fs_3))]) [0] (by decide) rfl
  have hK9 := hK.sub (tys' := []) [] rfl
  rw [← hAe] at hD9
  refine W.widen (k := 0) (n := 0) (Nat.le_of_ble_eq_true rfl) (Nat.le_of_ble_eq_true rfl) ?_
  subst hAe
  exact (W.iret (v := 0) hx hb hr (fun t ht hW => ⟨⟨0, (), rfl, trivial, fs_3, by rw [ht]; exact hP9, va_K.moved hW.alike hK9, hD9, (mF.sub hp_4 [0] rfl)⟩, hS.F ht⟩) hS.2.2 dX15_steps_47)
def wv_m_bracket : List Cond := .code yX15_bracket cX15_bracket 4 (some .int) :: ([.fieldLink RX15 296 "MotionSignsModel" "thrown" "I", .fieldLink RX15 443 "MotionSignsModel" "kind" "I", .methodLink RX15 424 yX15_bad, .instanceMethod yX15_bad, .selects RX15 yX15_bad yX15_bad, .initialized RX15] ++ (wsX150 ++ (wv_m_bad3 ++ ([]))))
theorem gw_m_bracket : wv_m_bracket.all goodWord = true := by decide +kernel
theorem in_m_bracket_X15 : ∀ w ∈ wsX150, w ∈ wv_m_bracket := fun _ h => List.mem_cons_of_mem _ (List.mem_append_right _ (List.mem_append_left _ h))
theorem g_m_bracket_m_bad3_424 : GoodIn wv_m_bracket (wsV RX15 424 RX15 yX15_bad wv_m_bad3) := goodIn_app (goodIn_of _ (by decide +kernel)) (goodIn_sub (fun _ h => List.mem_cons_of_mem _ (List.mem_append_right _ (List.mem_append_right _ (List.mem_append_left _ h)))) gw_m_bad3)
set_option maxHeartbeats 4000000 in
set_option maxRecDepth 100000 in
/-- the reference: bracket on a fresh object -/
theorem c_m_bracket (l : Launch) (dC : Nat → ClassId) (dI : Nat → Nat → Nat) (h0 : Nat) (qfed : Nat) (qf : Nat) (qfd : Nat) (qs : Nat) (qk : Nat) (x0 : Int32) (x1 : Int32) (x2 : Int32) (fs_h0 : List Value) (hF_h0 : mF 89 [(0, .int 0), (18, .int 0), (19, .int 0), (20, .int (-1)), (21, .int 0), (22, .int 0), (23, .int 0), (24, .int 0), (25, .int 0), (27, .int 0), (28, .int 0), (29, .int 0), (35, .int 0), (17, .int (-1)), (26, .ref qfed), (30, .ref qf), (31, .ref qfd), (33, .ref qs), (36, .ref qk)] fs_h0) (sz : Nat) : Met l yX15_bracket wv_m_bracket ({ frames := 1, cells := 0, slots := 0, locals := 22 }) (va_Pc [.ref h0, .int x0, .int x1, .int x2] (fun U => U.heap.size = sz ∧ va_P (dC, dI) vwCl [(h0, .inr (15, fs_h0))] U.heap ∧ va_K (dC, dI) vwCl [] U ∧ va_D (fun _ => True) [(h0, .inr (15, fs_h0))] ∧ w_N U)) (va_Qi (fun (r : Int32) (_ : Unit) => True) (fun _ t => ∃ (fs_e : List Value), va_P (dC, dI) vwCl [(h0, .inr (15, fs_e))] t.heap ∧ va_K (dC, dI) vwCl [] t ∧ va_D (va_A [(h0, .inr (15, fs_h0))] sz) [(h0, .inr (15, fs_e))] ∧ mF 89 [(0, .int 3)] fs_e) (va_A [(h0, .inr (15, fs_h0))] sz)) 0 0 (va_A [(h0, .inr (15, fs_h0))] sz) := by
  refine Met.ofW (cc := cX15_bracket) (maxL := 4) (ret := (some .int)) (by decide) rfl ?_
  intro p e s m args below meth c s₁ B hml hv
  obtain ⟨rfl, hsz, hP, hK, hD0, hN⟩ := hv
  have hx := B.exec
  have hb := B.bytes
  have hr := B.returns
  have hts := atoms_spec (ws := wv_m_bracket) B.pre
  have hown : s.vm.findClass RX15 = some m.cls := findClass_of_methodNamed B.named
  have hlocks := B.notSynchronized
  subst hsz
  have hD := hD0.self (sz := s.heap.size)
  generalize hAe : va_A [(h0, .inr (15, fs_h0))] s.heap.size = A at hD ⊢
  have hA : ∀ q : Nat, s.heap.size ≤ q → A q := fun q h => by rw [← hAe]; exact Or.inr h
  obtain ⟨H, hHe, hP, hS⟩ : ∃ H : Heap, H = s.heap ∧ va_P (dC, dI) vwCl [(h0, .inr (15, fs_h0))] H ∧ va_S A s.heap H [] := ⟨s.heap, rfl, hP, va_S.rf⟩
  have hl := lv_entry ([.ref h0, .int x0, .int x1, .int x2]) (n := 4) (Nat.le_of_ble_eq_true rfl)
  rw [lg_entry_eq]
  generalize (lg_sl ([.ref h0, .int x0, .int x1, .int x2]) ++ List.replicate (4 - (lg_sl ([.ref h0, .int x0, .int x1, .int x2])).length) Slot.unset).toArray = ls at hl ⊢
  have hl : lv_has ls 4 [(0, .ref h0), (1, .int x0), (2, .int x1), (3, .int x2)] := hl
  rw [← hHe]; clear hHe
  refine lv_aload_n hx hb dX15_bracket_0 rfl (lv_at hl 0 rfl) ?_
  refine lv_iconst (v := 0) hx hb dX15_bracket_1 (by decide) ?_
  refine va_put (D := (dC, dI)) (ci := 15) (v := .int 0) (ty := .int) (C := RX15) (T := TX15) (N := 89) hx hb hts (in_m_bracket_X15) tyX15 tyX15_ok nmX15 hown hK hP hD hS 0 rfl rfl 0 (by decide) (hts (.fieldLink RX15 296 "MotionSignsModel" "thrown" "I") (List.mem_of_getElem? (i := 1) rfl)) (fun _ h9 => h9) rfl (tyX15_ok 0 (by decide)) rfl rfl (mF.lt hF_h0 (by decide)) dX15_bracket_2 ?_
  clear hP hD hS; try clear H
  intro H locs hP hD hS
  have hF0 := mF.sub (L' := [(18, .int 0), (19, .int 0), (20, .int (-1)), (21, .int 0), (22, .int 0), (23, .int 0), (24, .int 0), (25, .int 0), (27, .int 0), (28, .int 0), (29, .int 0), (35, .int 0), (17, .int (-1)), (26, .ref qfed), (30, .ref qf), (31, .ref qfd), (33, .ref qs), (36, .ref qk)]) hF_h0 [1, 2, 3, 4, 5, 6, 7, 8, 9, 10, 11, 12, 13, 14, 15, 16, 17, 18] rfl
  have hF1 := mF.put hF0 0 (.int 0) (by decide) rfl
  replace hP : va_P (dC, dI) vwCl [(h0, .inr (15, (fs_h0.set 0 (.int 0))))] H := hP
  replace hD : va_D A [(h0, .inr (15, (fs_h0.set 0 (.int 0))))] := hD
  generalize fs_h0.set 0 (.int 0) = fs_1 at hP hD hF1
  replace hF_h0 : mF 89 [(0, .int 0), (18, .int 0), (19, .int 0), (20, .int (-1)), (21, .int 0), (22, .int 0), (23, .int 0), (24, .int 0), (25, .int 0), (27, .int 0), (28, .int 0), (29, .int 0), (35, .int 0), (17, .int (-1)), (26, .ref qfed), (30, .ref qf), (31, .ref qfd), (33, .ref qs), (36, .ref qk)] fs_1 := hF1
  clear hF1 hF0
  replace hP : va_P (dC, dI) vwCl [(h0, .inr (15, fs_1))] H := hP
  replace hD : va_D A [(h0, .inr (15, fs_1))] := hD
  refine lv_aload_n hx hb dX15_bracket_5 rfl (lv_at hl 0 rfl) ?_
  refine lv_aload_n hx hb dX15_bracket_6 rfl (lv_at hl 0 rfl) ?_
  refine va_get (D := (dC, dI)) (ci := 15) (v := .int 0) (C := RX15) (T := TX15) (N := 89) hx hb hts (in_m_bracket_X15) hown hK hP 0 rfl rfl 28 (by decide) (hts (.fieldLink RX15 443 "MotionSignsModel" "kind" "I") (List.mem_of_getElem? (i := 2) rfl)) (fun _ h9 => h9) (mF.get hF_h0 10 rfl) dX15_bracket_7 ?_
  refine lv_if_ne (tgt := 17) hx hb dX15_bracket_10 (by decide) (fun hc => absurd (by decide) hc) (fun _ => ?_)
  refine lv_iconst (v := 1) hx hb dX15_bracket_13 (by decide) ?_
  refine lv_goto (tgt := 18) hx hb dX15_bracket_14 (by decide) ?_
  refine lv_iconst (v := 3) hx hb dX15_bracket_18 (by decide) ?_
  have hPc := hP.sub (ws' := [(h0, .inr (15, fs_1))]) [0] rfl
  have hDc := hD.sub (ws' := [(h0, .inr (15, fs_1))]) [0] (by decide) rfl
  have hKc := hK.sub (tys' := []) [] rfl
  have hFc := va_free (wc := [(h0, .inr (15, fs_1))]) hD hS hA [0] rfl
  refine va_calli (va_runV (As := [.int 1, .int 3]) (rest := []) ⟨hx, hb, hml, hown, hts⟩ (c_m_bad3 l dC dI h0 qfed qf qfd qs qk fs_1 (mF.sub hF_h0 [0, 1, 2, 3, 4, 5, 6, 7, 8, 9, 10, 11, 12, 13, 14, 15, 16, 17, 18] rfl) H.size) (cwV 2 hts g_m_bracket_m_bad3_424 rfl rfl rfl hv_X15_bad ⟨Nat.le_of_ble_eq_true rfl, Nat.le_of_ble_eq_true rfl⟩) ⟨fun a U g mk q => by obtain ⟨q0, q1, qP, qK, qD, qE0⟩ := q; exact ⟨q0, q1, qP, va_K.moved (u := U) (U := U.calling g mk a) (Vm.Alike.refl U.vm) qK, qD, w_N.same rfl qE0⟩, va_recv hKc hPc (ci := 15) (q0 := 0) rfl rfl, fun U hU hW => ⟨rfl, by rw [hU], by rw [hU]; exact hPc, va_K.moved hW.alike hKc, hDc.weaken (fun _ _ _ _ => trivial), w_N.warm hW hN⟩⟩ rfl rfl hl.1 rfl (lv_room (Nat.le_of_ble_eq_true rfl)) dX15_bracket_19 ⟨(Nat.le_of_ble_eq_true rfl), (Nat.le_of_ble_eq_true rfl)⟩) hS (fun q _ h => hFc q h) hFc (fun r_2 u t H1 locs1 ht hvm hw hB hz1 hk1 hS1 => ?_)
  obtain ⟨fs_3, hP1, hK1, hD1, hp_4⟩ := hB
  rw [ht] at hP1
  have hK1 := va_K.moved hvm.symm hK1
  have hJ := va_join (wr := []) (w1 := [(h0, .inr (15, fs_3))]) hP hD [0] [] rfl rfl (by decide) (by decide) hk1 hFc hP1 hD1
  clear hP hD hPc hDc hKc hFc hz1; try clear hk1
  obtain ⟨hP, hD⟩ := hJ
  replace hK := (hK.sub (tys' := []) [] rfl).app (hK1.sub (tys' := []) [] rfl)
  clear hP1 hK1 hD1 hvm ht hS; try clear t
  try clear H
  revert hS1
  intro hS
  generalize H1 = H at hP hS ⊢; try clear H1
  replace hP : va_P (dC, dI) vwCl [(h0, .inr (15, fs_3))] H := hP
  replace hD : va_D A [(h0, .inr (15, fs_3))] := hD
  replace hK : va_K (dC, dI) vwCl [] s := hK
  have hw_5 : r_2 = 1 := hw; clear hw
  subst hw_5
  refine lv_if_ne (tgt := 46) hx hb dX15_bracket_22 (by decide) (fun _ => ?_) (fun hc => absurd hc (by decide))
  refine lv_iconst (v := 0) hx hb dX15_bracket_46 (by decide) ?_
  have hP9 := hP.sub (ws' := [(h0, .inr (15, fs_3))]) [0] rfl
  have hD9 := hD.sub (ws' := [(h0, .inr (15, fs_3))]) [0] (by decide) rfl
  have hK9 := hK.sub (tys' := []) [] rfl
  rw [← hAe] at hD9
  refine W.widen (k := 0) (n := 0) (Nat.le_of_ble_eq_true rfl) (Nat.le_of_ble_eq_true rfl) ?_
  subst hAe
  exact (W.iret (v := 0) hx hb hr (fun t ht hW => ⟨⟨0, (), rfl, trivial, fs_3, by rw [ht]; exact hP9, va_K.moved hW.alike hK9, hD9, (mF.sub hp_4 [0] rfl)⟩, hS.F ht⟩) hS.2.2 dX15_bracket_47)
def wv_m_stretches : List Cond := .code yX15_stretches cX15_stretches 1 (some .int) :: ([.fieldLink RX15 296 "MotionSignsModel" "thrown" "I", .fieldLink RX15 443 "MotionSignsModel" "kind" "I", .methodLink RX15 424 yX15_bad, .instanceMethod yX15_bad, .selects RX15 yX15_bad yX15_bad, .initialized RX15] ++ (wsX150 ++ (wv_m_bad1 ++ ([]))))
theorem gw_m_stretches : wv_m_stretches.all goodWord = true := by decide +kernel
theorem in_m_stretches_X15 : ∀ w ∈ wsX150, w ∈ wv_m_stretches := fun _ h => List.mem_cons_of_mem _ (List.mem_append_right _ (List.mem_append_left _ h))
theorem g_m_stretches_m_bad1_424 : GoodIn wv_m_stretches (wsV RX15 424 RX15 yX15_bad wv_m_bad1) := goodIn_app (goodIn_of _ (by decide +kernel)) (goodIn_sub (fun _ h => List.mem_cons_of_mem _ (List.mem_append_right _ (List.mem_append_right _ (List.mem_append_left _ h)))) gw_m_bad1)
set_option maxHeartbeats 4000000 in
set_option maxRecDepth 100000 in
/-- the reference: stretches on a fresh object -/
theorem c_m_stretches (l : Launch) (dC : Nat → ClassId) (dI : Nat → Nat → Nat) (h0 : Nat) (qfed : Nat) (qf : Nat) (qfd : Nat) (qs : Nat) (qk : Nat) (fs_h0 : List Value) (hF_h0 : mF 89 [(0, .int 0), (18, .int 0), (19, .int 0), (20, .int (-1)), (21, .int 0), (22, .int 0), (23, .int 0), (24, .int 0), (25, .int 0), (27, .int 0), (28, .int 0), (29, .int 0), (35, .int 0), (17, .int (-1)), (26, .ref qfed), (30, .ref qf), (31, .ref qfd), (33, .ref qs), (36, .ref qk)] fs_h0) (sz : Nat) : Met l yX15_stretches wv_m_stretches ({ frames := 1, cells := 0, slots := 0, locals := 22 }) (va_Pc [.ref h0] (fun U => U.heap.size = sz ∧ va_P (dC, dI) vwCl [(h0, .inr (15, fs_h0))] U.heap ∧ va_K (dC, dI) vwCl [] U ∧ va_D (fun _ => True) [(h0, .inr (15, fs_h0))] ∧ w_N U)) (va_Qi (fun (r : Int32) (_ : Unit) => True) (fun _ t => ∃ (fs_e : List Value), va_P (dC, dI) vwCl [(h0, .inr (15, fs_e))] t.heap ∧ va_K (dC, dI) vwCl [] t ∧ va_D (va_A [(h0, .inr (15, fs_h0))] sz) [(h0, .inr (15, fs_e))] ∧ mF 89 [(0, .int 1)] fs_e) (va_A [(h0, .inr (15, fs_h0))] sz)) 0 0 (va_A [(h0, .inr (15, fs_h0))] sz) := by
  refine Met.ofW (cc := cX15_stretches) (maxL := 1) (ret := (some .int)) (by decide) rfl ?_
  intro p e s m args below meth c s₁ B hml hv
  obtain ⟨rfl, hsz, hP, hK, hD0, hN⟩ := hv
  have hx := B.exec
  have hb := B.bytes
  have hr := B.returns
  have hts := atoms_spec (ws := wv_m_stretches) B.pre
  have hown : s.vm.findClass RX15 = some m.cls := findClass_of_methodNamed B.named
  have hlocks := B.notSynchronized
  subst hsz
  have hD := hD0.self (sz := s.heap.size)
  generalize hAe : va_A [(h0, .inr (15, fs_h0))] s.heap.size = A at hD ⊢
  have hA : ∀ q : Nat, s.heap.size ≤ q → A q := fun q h => by rw [← hAe]; exact Or.inr h
  obtain ⟨H, hHe, hP, hS⟩ : ∃ H : Heap, H = s.heap ∧ va_P (dC, dI) vwCl [(h0, .inr (15, fs_h0))] H ∧ va_S A s.heap H [] := ⟨s.heap, rfl, hP, va_S.rf⟩
  have hl := lv_entry ([.ref h0]) (n := 1) (Nat.le_of_ble_eq_true rfl)
  rw [lg_entry_eq]
  generalize (lg_sl ([.ref h0]) ++ List.replicate (1 - (lg_sl ([.ref h0])).length) Slot.unset).toArray = ls at hl ⊢
  have hl : lv_has ls 1 [(0, .ref h0)] := hl
  rw [← hHe]; clear hHe
  refine lv_aload_n hx hb dX15_stretches_0 rfl (lv_at hl 0 rfl) ?_
  refine lv_iconst (v := 0) hx hb dX15_stretches_1 (by decide) ?_
  refine va_put (D := (dC, dI)) (ci := 15) (v := .int 0) (ty := .int) (C := RX15) (T := TX15) (N := 89) hx hb hts (in_m_stretches_X15) tyX15 tyX15_ok nmX15 hown hK hP hD hS 0 rfl rfl 0 (by decide) (hts (.fieldLink RX15 296 "MotionSignsModel" "thrown" "I") (List.mem_of_getElem? (i := 1) rfl)) (fun _ h9 => h9) rfl (tyX15_ok 0 (by decide)) rfl rfl (mF.lt hF_h0 (by decide)) dX15_stretches_2 ?_
  clear hP hD hS; try clear H
  intro H locs hP hD hS
  have hF0 := mF.sub (L' := [(18, .int 0), (19, .int 0), (20, .int (-1)), (21, .int 0), (22, .int 0), (23, .int 0), (24, .int 0), (25, .int 0), (27, .int 0), (28, .int 0), (29, .int 0), (35, .int 0), (17, .int (-1)), (26, .ref qfed), (30, .ref qf), (31, .ref qfd), (33, .ref qs), (36, .ref qk)]) hF_h0 [1, 2, 3, 4, 5, 6, 7, 8, 9, 10, 11, 12, 13, 14, 15, 16, 17, 18] rfl
  have hF1 := mF.put hF0 0 (.int 0) (by decide) rfl
  replace hP : va_P (dC, dI) vwCl [(h0, .inr (15, (fs_h0.set 0 (.int 0))))] H := hP
  replace hD : va_D A [(h0, .inr (15, (fs_h0.set 0 (.int 0))))] := hD
  generalize fs_h0.set 0 (.int 0) = fs_1 at hP hD hF1
  replace hF_h0 : mF 89 [(0, .int 0), (18, .int 0), (19, .int 0), (20, .int (-1)), (21, .int 0), (22, .int 0), (23, .int 0), (24, .int 0), (25, .int 0), (27, .int 0), (28, .int 0), (29, .int 0), (35, .int 0), (17, .int (-1)), (26, .ref qfed), (30, .ref qf), (31, .ref qfd), (33, .ref qs), (36, .ref qk)] fs_1 := hF1
  clear hF1 hF0
  replace hP : va_P (dC, dI) vwCl [(h0, .inr (15, fs_1))] H := hP
  replace hD : va_D A [(h0, .inr (15, fs_1))] := hD
  refine lv_aload_n hx hb dX15_stretches_5 rfl (lv_at hl 0 rfl) ?_
  refine lv_aload_n hx hb dX15_stretches_6 rfl (lv_at hl 0 rfl) ?_
  refine va_get (D := (dC, dI)) (ci := 15) (v := .int 0) (C := RX15) (T := TX15) (N := 89) hx hb hts (in_m_stretches_X15) hown hK hP 0 rfl rfl 28 (by decide) (hts (.fieldLink RX15 443 "MotionSignsModel" "kind" "I") (List.mem_of_getElem? (i := 2) rfl)) (fun _ h9 => h9) (mF.get hF_h0 10 rfl) dX15_stretches_7 ?_
  refine lv_if_ne (tgt := 17) hx hb dX15_stretches_10 (by decide) (fun hc => absurd (by decide) hc) (fun _ => ?_)
  refine lv_iconst (v := 1) hx hb dX15_stretches_13 (by decide) ?_
  refine lv_goto (tgt := 18) hx hb dX15_stretches_14 (by decide) ?_
  refine lv_iconst (v := 1) hx hb dX15_stretches_18 (by decide) ?_
  have hPc := hP.sub (ws' := [(h0, .inr (15, fs_1))]) [0] rfl
  have hDc := hD.sub (ws' := [(h0, .inr (15, fs_1))]) [0] (by decide) rfl
  have hKc := hK.sub (tys' := []) [] rfl
  have hFc := va_free (wc := [(h0, .inr (15, fs_1))]) hD hS hA [0] rfl
  refine va_calli (va_runV (As := [.int 1, .int 1]) (rest := []) ⟨hx, hb, hml, hown, hts⟩ (c_m_bad1 l dC dI h0 qfed qf qfd qs qk fs_1 (mF.sub hF_h0 [0, 1, 2, 3, 4, 5, 6, 7, 8, 9, 10, 11, 12, 13, 14, 15, 16, 17, 18] rfl) H.size) (cwV 2 hts g_m_stretches_m_bad1_424 rfl rfl rfl hv_X15_bad ⟨Nat.le_of_ble_eq_true rfl, Nat.le_of_ble_eq_true rfl⟩) ⟨fun a U g mk q => by obtain ⟨q0, q1, qP, qK, qD, qE0⟩ := q; exact ⟨q0, q1, qP, va_K.moved (u := U) (U := U.calling g mk a) (Vm.Alike.refl U.vm) qK, qD, w_N.same rfl qE0⟩, va_recv hKc hPc (ci := 15) (q0 := 0) rfl rfl, fun U hU hW => ⟨rfl, by rw [hU], by rw [hU]; exact hPc, va_K.moved hW.alike hKc, hDc.weaken (fun _ _ _ _ => trivial), w_N.warm hW hN⟩⟩ rfl rfl hl.1 rfl (lv_room (Nat.le_of_ble_eq_true rfl)) dX15_stretches_19 ⟨(Nat.le_of_ble_eq_true rfl), (Nat.le_of_ble_eq_true rfl)⟩) hS (fun q _ h => hFc q h) hFc (fun r_2 u t H1 locs1 ht hvm hw hB hz1 hk1 hS1 => ?_)
  obtain ⟨fs_3, hP1, hK1, hD1, hp_4⟩ := hB
  rw [ht] at hP1
  have hK1 := va_K.moved hvm.symm hK1
  have hJ := va_join (wr := []) (w1 := [(h0, .inr (15, fs_3))]) hP hD [0] [] rfl rfl (by decide) (by decide) hk1 hFc hP1 hD1
  clear hP hD hPc hDc hKc hFc hz1; try clear hk1
  obtain ⟨hP, hD⟩ := hJ
  replace hK := (hK.sub (tys' := []) [] rfl).app (hK1.sub (tys' := []) [] rfl)
  clear hP1 hK1 hD1 hvm ht hS; try clear t
  try clear H
  revert hS1
  intro hS
  generalize H1 = H at hP hS ⊢; try clear H1
  replace hP : va_P (dC, dI) vwCl [(h0, .inr (15, fs_3))] H := hP
  replace hD : va_D A [(h0, .inr (15, fs_3))] := hD
  replace hK : va_K (dC, dI) vwCl [] s := hK
  have hw_5 : r_2 = 1 := hw; clear hw
  subst hw_5
  refine lv_if_eq (tgt := 27) hx hb dX15_stretches_22 (by decide) (fun hc => absurd hc (by decide)) (fun _ => ?_)
  refine lv_iconst (v := 0) hx hb dX15_stretches_25 (by decide) ?_
  have hP9 := hP.sub (ws' := [(h0, .inr (15, fs_3))]) [0] rfl
  have hD9 := hD.sub (ws' := [(h0, .inr (15, fs_3))]) [0] (by decide) rfl
  have hK9 := hK.sub (tys' := []) [] rfl
  rw [← hAe] at hD9
  refine W.widen (k := 0) (n := 0) (Nat.le_of_ble_eq_true rfl) (Nat.le_of_ble_eq_true rfl) ?_
  subst hAe
  exact (W.iret (v := 0) hx hb hr (fun t ht hW => ⟨⟨0, (), rfl, trivial, fs_3, by rw [ht]; exact hP9, va_K.moved hW.alike hK9, hD9, (mF.sub hp_4 [0] rfl)⟩, hS.F ht⟩) hS.2.2 dX15_stretches_26)
def wv_m_stretch : List Cond := .code yX15_stretch cX15_stretch 3 (some .int) :: ([.fieldLink RX15 296 "MotionSignsModel" "thrown" "I", .fieldLink RX15 443 "MotionSignsModel" "kind" "I", .methodLink RX15 424 yX15_bad, .instanceMethod yX15_bad, .selects RX15 yX15_bad yX15_bad, .initialized RX15] ++ (wsX150 ++ (wv_m_bad3 ++ ([]))))
theorem gw_m_stretch : wv_m_stretch.all goodWord = true := by decide +kernel
theorem in_m_stretch_X15 : ∀ w ∈ wsX150, w ∈ wv_m_stretch := fun _ h => List.mem_cons_of_mem _ (List.mem_append_right _ (List.mem_append_left _ h))
theorem g_m_stretch_m_bad3_424 : GoodIn wv_m_stretch (wsV RX15 424 RX15 yX15_bad wv_m_bad3) := goodIn_app (goodIn_of _ (by decide +kernel)) (goodIn_sub (fun _ h => List.mem_cons_of_mem _ (List.mem_append_right _ (List.mem_append_right _ (List.mem_append_left _ h)))) gw_m_bad3)
set_option maxHeartbeats 4000000 in
set_option maxRecDepth 100000 in
/-- the reference: stretch on a fresh object -/
theorem c_m_stretch (l : Launch) (dC : Nat → ClassId) (dI : Nat → Nat → Nat) (h0 : Nat) (qfed : Nat) (qf : Nat) (qfd : Nat) (qs : Nat) (qk : Nat) (x0 : Int32) (x1 : Int32) (fs_h0 : List Value) (hF_h0 : mF 89 [(0, .int 0), (18, .int 0), (19, .int 0), (20, .int (-1)), (21, .int 0), (22, .int 0), (23, .int 0), (24, .int 0), (25, .int 0), (27, .int 0), (28, .int 0), (29, .int 0), (35, .int 0), (17, .int (-1)), (26, .ref qfed), (30, .ref qf), (31, .ref qfd), (33, .ref qs), (36, .ref qk)] fs_h0) (sz : Nat) : Met l yX15_stretch wv_m_stretch ({ frames := 1, cells := 0, slots := 0, locals := 22 }) (va_Pc [.ref h0, .int x0, .int x1] (fun U => U.heap.size = sz ∧ va_P (dC, dI) vwCl [(h0, .inr (15, fs_h0))] U.heap ∧ va_K (dC, dI) vwCl [] U ∧ va_D (fun _ => True) [(h0, .inr (15, fs_h0))] ∧ w_N U)) (va_Qi (fun (r : Int32) (_ : Unit) => True) (fun _ t => ∃ (fs_e : List Value), va_P (dC, dI) vwCl [(h0, .inr (15, fs_e))] t.heap ∧ va_K (dC, dI) vwCl [] t ∧ va_D (va_A [(h0, .inr (15, fs_h0))] sz) [(h0, .inr (15, fs_e))] ∧ mF 89 [(0, .int 3)] fs_e) (va_A [(h0, .inr (15, fs_h0))] sz)) 0 0 (va_A [(h0, .inr (15, fs_h0))] sz) := by
  refine Met.ofW (cc := cX15_stretch) (maxL := 3) (ret := (some .int)) (by decide) rfl ?_
  intro p e s m args below meth c s₁ B hml hv
  obtain ⟨rfl, hsz, hP, hK, hD0, hN⟩ := hv
  have hx := B.exec
  have hb := B.bytes
  have hr := B.returns
  have hts := atoms_spec (ws := wv_m_stretch) B.pre
  have hown : s.vm.findClass RX15 = some m.cls := findClass_of_methodNamed B.named
  have hlocks := B.notSynchronized
  subst hsz
  have hD := hD0.self (sz := s.heap.size)
  generalize hAe : va_A [(h0, .inr (15, fs_h0))] s.heap.size = A at hD ⊢
  have hA : ∀ q : Nat, s.heap.size ≤ q → A q := fun q h => by rw [← hAe]; exact Or.inr h
  obtain ⟨H, hHe, hP, hS⟩ : ∃ H : Heap, H = s.heap ∧ va_P (dC, dI) vwCl [(h0, .inr (15, fs_h0))] H ∧ va_S A s.heap H [] := ⟨s.heap, rfl, hP, va_S.rf⟩
  have hl := lv_entry ([.ref h0, .int x0, .int x1]) (n := 3) (Nat.le_of_ble_eq_true rfl)
  rw [lg_entry_eq]
  generalize (lg_sl ([.ref h0, .int x0, .int x1]) ++ List.replicate (3 - (lg_sl ([.ref h0, .int x0, .int x1])).length) Slot.unset).toArray = ls at hl ⊢
  have hl : lv_has ls 3 [(0, .ref h0), (1, .int x0), (2, .int x1)] := hl
  rw [← hHe]; clear hHe
  refine lv_aload_n hx hb dX15_stretch_0 rfl (lv_at hl 0 rfl) ?_
  refine lv_iconst (v := 0) hx hb dX15_stretch_1 (by decide) ?_
  refine va_put (D := (dC, dI)) (ci := 15) (v := .int 0) (ty := .int) (C := RX15) (T := TX15) (N := 89) hx hb hts (in_m_stretch_X15) tyX15 tyX15_ok nmX15 hown hK hP hD hS 0 rfl rfl 0 (by decide) (hts (.fieldLink RX15 296 "MotionSignsModel" "thrown" "I") (List.mem_of_getElem? (i := 1) rfl)) (fun _ h9 => h9) rfl (tyX15_ok 0 (by decide)) rfl rfl (mF.lt hF_h0 (by decide)) dX15_stretch_2 ?_
  clear hP hD hS; try clear H
  intro H locs hP hD hS
  have hF0 := mF.sub (L' := [(18, .int 0), (19, .int 0), (20, .int (-1)), (21, .int 0), (22, .int 0), (23, .int 0), (24, .int 0), (25, .int 0), (27, .int 0), (28, .int 0), (29, .int 0), (35, .int 0), (17, .int (-1)), (26, .ref qfed), (30, .ref qf), (31, .ref qfd), (33, .ref qs), (36, .ref qk)]) hF_h0 [1, 2, 3, 4, 5, 6, 7, 8, 9, 10, 11, 12, 13, 14, 15, 16, 17, 18] rfl
  have hF1 := mF.put hF0 0 (.int 0) (by decide) rfl
  replace hP : va_P (dC, dI) vwCl [(h0, .inr (15, (fs_h0.set 0 (.int 0))))] H := hP
  replace hD : va_D A [(h0, .inr (15, (fs_h0.set 0 (.int 0))))] := hD
  generalize fs_h0.set 0 (.int 0) = fs_1 at hP hD hF1
  replace hF_h0 : mF 89 [(0, .int 0), (18, .int 0), (19, .int 0), (20, .int (-1)), (21, .int 0), (22, .int 0), (23, .int 0), (24, .int 0), (25, .int 0), (27, .int 0), (28, .int 0), (29, .int 0), (35, .int 0), (17, .int (-1)), (26, .ref qfed), (30, .ref qf), (31, .ref qfd), (33, .ref qs), (36, .ref qk)] fs_1 := hF1
  clear hF1 hF0
  replace hP : va_P (dC, dI) vwCl [(h0, .inr (15, fs_1))] H := hP
  replace hD : va_D A [(h0, .inr (15, fs_1))] := hD
  refine lv_aload_n hx hb dX15_stretch_5 rfl (lv_at hl 0 rfl) ?_
  refine lv_aload_n hx hb dX15_stretch_6 rfl (lv_at hl 0 rfl) ?_
  refine va_get (D := (dC, dI)) (ci := 15) (v := .int 0) (C := RX15) (T := TX15) (N := 89) hx hb hts (in_m_stretch_X15) hown hK hP 0 rfl rfl 28 (by decide) (hts (.fieldLink RX15 443 "MotionSignsModel" "kind" "I") (List.mem_of_getElem? (i := 2) rfl)) (fun _ h9 => h9) (mF.get hF_h0 10 rfl) dX15_stretch_7 ?_
  refine lv_if_ne (tgt := 17) hx hb dX15_stretch_10 (by decide) (fun hc => absurd (by decide) hc) (fun _ => ?_)
  refine lv_iconst (v := 1) hx hb dX15_stretch_13 (by decide) ?_
  refine lv_goto (tgt := 18) hx hb dX15_stretch_14 (by decide) ?_
  refine lv_iconst (v := 3) hx hb dX15_stretch_18 (by decide) ?_
  have hPc := hP.sub (ws' := [(h0, .inr (15, fs_1))]) [0] rfl
  have hDc := hD.sub (ws' := [(h0, .inr (15, fs_1))]) [0] (by decide) rfl
  have hKc := hK.sub (tys' := []) [] rfl
  have hFc := va_free (wc := [(h0, .inr (15, fs_1))]) hD hS hA [0] rfl
  refine va_calli (va_runV (As := [.int 1, .int 3]) (rest := []) ⟨hx, hb, hml, hown, hts⟩ (c_m_bad3 l dC dI h0 qfed qf qfd qs qk fs_1 (mF.sub hF_h0 [0, 1, 2, 3, 4, 5, 6, 7, 8, 9, 10, 11, 12, 13, 14, 15, 16, 17, 18] rfl) H.size) (cwV 2 hts g_m_stretch_m_bad3_424 rfl rfl rfl hv_X15_bad ⟨Nat.le_of_ble_eq_true rfl, Nat.le_of_ble_eq_true rfl⟩) ⟨fun a U g mk q => by obtain ⟨q0, q1, qP, qK, qD, qE0⟩ := q; exact ⟨q0, q1, qP, va_K.moved (u := U) (U := U.calling g mk a) (Vm.Alike.refl U.vm) qK, qD, w_N.same rfl qE0⟩, va_recv hKc hPc (ci := 15) (q0 := 0) rfl rfl, fun U hU hW => ⟨rfl, by rw [hU], by rw [hU]; exact hPc, va_K.moved hW.alike hKc, hDc.weaken (fun _ _ _ _ => trivial), w_N.warm hW hN⟩⟩ rfl rfl hl.1 rfl (lv_room (Nat.le_of_ble_eq_true rfl)) dX15_stretch_19 ⟨(Nat.le_of_ble_eq_true rfl), (Nat.le_of_ble_eq_true rfl)⟩) hS (fun q _ h => hFc q h) hFc (fun r_2 u t H1 locs1 ht hvm hw hB hz1 hk1 hS1 => ?_)
  obtain ⟨fs_3, hP1, hK1, hD1, hp_4⟩ := hB
  rw [ht] at hP1
  have hK1 := va_K.moved hvm.symm hK1
  have hJ := va_join (wr := []) (w1 := [(h0, .inr (15, fs_3))]) hP hD [0] [] rfl rfl (by decide) (by decide) hk1 hFc hP1 hD1
  clear hP hD hPc hDc hKc hFc hz1; try clear hk1
  obtain ⟨hP, hD⟩ := hJ
  replace hK := (hK.sub (tys' := []) [] rfl).app (hK1.sub (tys' := []) [] rfl)
  clear hP1 hK1 hD1 hvm ht hS; try clear t
  try clear H
  revert hS1
  intro hS
  generalize H1 = H at hP hS ⊢; try clear H1
  replace hP : va_P (dC, dI) vwCl [(h0, .inr (15, fs_3))] H := hP
  replace hD : va_D A [(h0, .inr (15, fs_3))] := hD
  replace hK : va_K (dC, dI) vwCl [] s := hK
  have hw_5 : r_2 = 1 := hw; clear hw
  subst hw_5
  refine lv_if_eq (tgt := 27) hx hb dX15_stretch_22 (by decide) (fun hc => absurd hc (by decide)) (fun _ => ?_)
  refine lv_iconst (v := 0) hx hb dX15_stretch_25 (by decide) ?_
  have hP9 := hP.sub (ws' := [(h0, .inr (15, fs_3))]) [0] rfl
  have hD9 := hD.sub (ws' := [(h0, .inr (15, fs_3))]) [0] (by decide) rfl
  have hK9 := hK.sub (tys' := []) [] rfl
  rw [← hAe] at hD9
  refine W.widen (k := 0) (n := 0) (Nat.le_of_ble_eq_true rfl) (Nat.le_of_ble_eq_true rfl) ?_
  subst hAe
  exact (W.iret (v := 0) hx hb hr (fun t ht hW => ⟨⟨0, (), rfl, trivial, fs_3, by rw [ht]; exact hP9, va_K.moved hW.alike hK9, hD9, (mF.sub hp_4 [0] rfl)⟩, hS.F ht⟩) hS.2.2 dX15_stretch_26)
def wv_m_keeps : List Cond := .code yX15_keeps cX15_keeps 4 (some .int) :: ([.fieldLink RX15 296 "MotionSignsModel" "thrown" "I", .fieldLink RX15 443 "MotionSignsModel" "kind" "I", .methodLink RX15 424 yX15_bad, .instanceMethod yX15_bad, .selects RX15 yX15_bad yX15_bad, .initialized RX15] ++ (wsX150 ++ (wv_m_bad3 ++ ([]))))
theorem gw_m_keeps : wv_m_keeps.all goodWord = true := by decide +kernel
theorem in_m_keeps_X15 : ∀ w ∈ wsX150, w ∈ wv_m_keeps := fun _ h => List.mem_cons_of_mem _ (List.mem_append_right _ (List.mem_append_left _ h))
theorem g_m_keeps_m_bad3_424 : GoodIn wv_m_keeps (wsV RX15 424 RX15 yX15_bad wv_m_bad3) := goodIn_app (goodIn_of _ (by decide +kernel)) (goodIn_sub (fun _ h => List.mem_cons_of_mem _ (List.mem_append_right _ (List.mem_append_right _ (List.mem_append_left _ h)))) gw_m_bad3)
set_option maxHeartbeats 4000000 in
set_option maxRecDepth 100000 in
/-- the reference: keeps on a fresh object -/
theorem c_m_keeps (l : Launch) (dC : Nat → ClassId) (dI : Nat → Nat → Nat) (h0 : Nat) (qfed : Nat) (qf : Nat) (qfd : Nat) (qs : Nat) (qk : Nat) (x0 : Int32) (x1 : Int32) (x2 : Int32) (fs_h0 : List Value) (hF_h0 : mF 89 [(0, .int 0), (18, .int 0), (19, .int 0), (20, .int (-1)), (21, .int 0), (22, .int 0), (23, .int 0), (24, .int 0), (25, .int 0), (27, .int 0), (28, .int 0), (29, .int 0), (35, .int 0), (17, .int (-1)), (26, .ref qfed), (30, .ref qf), (31, .ref qfd), (33, .ref qs), (36, .ref qk)] fs_h0) (sz : Nat) : Met l yX15_keeps wv_m_keeps ({ frames := 1, cells := 0, slots := 0, locals := 22 }) (va_Pc [.ref h0, .int x0, .int x1, .int x2] (fun U => U.heap.size = sz ∧ va_P (dC, dI) vwCl [(h0, .inr (15, fs_h0))] U.heap ∧ va_K (dC, dI) vwCl [] U ∧ va_D (fun _ => True) [(h0, .inr (15, fs_h0))] ∧ w_N U)) (va_Qi (fun (r : Int32) (_ : Unit) => True) (fun _ t => ∃ (fs_e : List Value), va_P (dC, dI) vwCl [(h0, .inr (15, fs_e))] t.heap ∧ va_K (dC, dI) vwCl [] t ∧ va_D (va_A [(h0, .inr (15, fs_h0))] sz) [(h0, .inr (15, fs_e))] ∧ mF 89 [(0, .int 3)] fs_e) (va_A [(h0, .inr (15, fs_h0))] sz)) 0 0 (va_A [(h0, .inr (15, fs_h0))] sz) := by
  refine Met.ofW (cc := cX15_keeps) (maxL := 4) (ret := (some .int)) (by decide) rfl ?_
  intro p e s m args below meth c s₁ B hml hv
  obtain ⟨rfl, hsz, hP, hK, hD0, hN⟩ := hv
  have hx := B.exec
  have hb := B.bytes
  have hr := B.returns
  have hts := atoms_spec (ws := wv_m_keeps) B.pre
  have hown : s.vm.findClass RX15 = some m.cls := findClass_of_methodNamed B.named
  have hlocks := B.notSynchronized
  subst hsz
  have hD := hD0.self (sz := s.heap.size)
  generalize hAe : va_A [(h0, .inr (15, fs_h0))] s.heap.size = A at hD ⊢
  have hA : ∀ q : Nat, s.heap.size ≤ q → A q := fun q h => by rw [← hAe]; exact Or.inr h
  obtain ⟨H, hHe, hP, hS⟩ : ∃ H : Heap, H = s.heap ∧ va_P (dC, dI) vwCl [(h0, .inr (15, fs_h0))] H ∧ va_S A s.heap H [] := ⟨s.heap, rfl, hP, va_S.rf⟩
  have hl := lv_entry ([.ref h0, .int x0, .int x1, .int x2]) (n := 4) (Nat.le_of_ble_eq_true rfl)
  rw [lg_entry_eq]
  generalize (lg_sl ([.ref h0, .int x0, .int x1, .int x2]) ++ List.replicate (4 - (lg_sl ([.ref h0, .int x0, .int x1, .int x2])).length) Slot.unset).toArray = ls at hl ⊢
  have hl : lv_has ls 4 [(0, .ref h0), (1, .int x0), (2, .int x1), (3, .int x2)] := hl
  rw [← hHe]; clear hHe
  refine lv_aload_n hx hb dX15_keeps_0 rfl (lv_at hl 0 rfl) ?_
  refine lv_iconst (v := 0) hx hb dX15_keeps_1 (by decide) ?_
  refine va_put (D := (dC, dI)) (ci := 15) (v := .int 0) (ty := .int) (C := RX15) (T := TX15) (N := 89) hx hb hts (in_m_keeps_X15) tyX15 tyX15_ok nmX15 hown hK hP hD hS 0 rfl rfl 0 (by decide) (hts (.fieldLink RX15 296 "MotionSignsModel" "thrown" "I") (List.mem_of_getElem? (i := 1) rfl)) (fun _ h9 => h9) rfl (tyX15_ok 0 (by decide)) rfl rfl (mF.lt hF_h0 (by decide)) dX15_keeps_2 ?_
  clear hP hD hS; try clear H
  intro H locs hP hD hS
  have hF0 := mF.sub (L' := [(18, .int 0), (19, .int 0), (20, .int (-1)), (21, .int 0), (22, .int 0), (23, .int 0), (24, .int 0), (25, .int 0), (27, .int 0), (28, .int 0), (29, .int 0), (35, .int 0), (17, .int (-1)), (26, .ref qfed), (30, .ref qf), (31, .ref qfd), (33, .ref qs), (36, .ref qk)]) hF_h0 [1, 2, 3, 4, 5, 6, 7, 8, 9, 10, 11, 12, 13, 14, 15, 16, 17, 18] rfl
  have hF1 := mF.put hF0 0 (.int 0) (by decide) rfl
  replace hP : va_P (dC, dI) vwCl [(h0, .inr (15, (fs_h0.set 0 (.int 0))))] H := hP
  replace hD : va_D A [(h0, .inr (15, (fs_h0.set 0 (.int 0))))] := hD
  generalize fs_h0.set 0 (.int 0) = fs_1 at hP hD hF1
  replace hF_h0 : mF 89 [(0, .int 0), (18, .int 0), (19, .int 0), (20, .int (-1)), (21, .int 0), (22, .int 0), (23, .int 0), (24, .int 0), (25, .int 0), (27, .int 0), (28, .int 0), (29, .int 0), (35, .int 0), (17, .int (-1)), (26, .ref qfed), (30, .ref qf), (31, .ref qfd), (33, .ref qs), (36, .ref qk)] fs_1 := hF1
  clear hF1 hF0
  replace hP : va_P (dC, dI) vwCl [(h0, .inr (15, fs_1))] H := hP
  replace hD : va_D A [(h0, .inr (15, fs_1))] := hD
  refine lv_aload_n hx hb dX15_keeps_5 rfl (lv_at hl 0 rfl) ?_
  refine lv_aload_n hx hb dX15_keeps_6 rfl (lv_at hl 0 rfl) ?_
  refine va_get (D := (dC, dI)) (ci := 15) (v := .int 0) (C := RX15) (T := TX15) (N := 89) hx hb hts (in_m_keeps_X15) hown hK hP 0 rfl rfl 28 (by decide) (hts (.fieldLink RX15 443 "MotionSignsModel" "kind" "I") (List.mem_of_getElem? (i := 2) rfl)) (fun _ h9 => h9) (mF.get hF_h0 10 rfl) dX15_keeps_7 ?_
  refine lv_if_ne (tgt := 17) hx hb dX15_keeps_10 (by decide) (fun hc => absurd (by decide) hc) (fun _ => ?_)
  refine lv_iconst (v := 1) hx hb dX15_keeps_13 (by decide) ?_
  refine lv_goto (tgt := 18) hx hb dX15_keeps_14 (by decide) ?_
  refine lv_iconst (v := 3) hx hb dX15_keeps_18 (by decide) ?_
  have hPc := hP.sub (ws' := [(h0, .inr (15, fs_1))]) [0] rfl
  have hDc := hD.sub (ws' := [(h0, .inr (15, fs_1))]) [0] (by decide) rfl
  have hKc := hK.sub (tys' := []) [] rfl
  have hFc := va_free (wc := [(h0, .inr (15, fs_1))]) hD hS hA [0] rfl
  refine va_calli (va_runV (As := [.int 1, .int 3]) (rest := []) ⟨hx, hb, hml, hown, hts⟩ (c_m_bad3 l dC dI h0 qfed qf qfd qs qk fs_1 (mF.sub hF_h0 [0, 1, 2, 3, 4, 5, 6, 7, 8, 9, 10, 11, 12, 13, 14, 15, 16, 17, 18] rfl) H.size) (cwV 2 hts g_m_keeps_m_bad3_424 rfl rfl rfl hv_X15_bad ⟨Nat.le_of_ble_eq_true rfl, Nat.le_of_ble_eq_true rfl⟩) ⟨fun a U g mk q => by obtain ⟨q0, q1, qP, qK, qD, qE0⟩ := q; exact ⟨q0, q1, qP, va_K.moved (u := U) (U := U.calling g mk a) (Vm.Alike.refl U.vm) qK, qD, w_N.same rfl qE0⟩, va_recv hKc hPc (ci := 15) (q0 := 0) rfl rfl, fun U hU hW => ⟨rfl, by rw [hU], by rw [hU]; exact hPc, va_K.moved hW.alike hKc, hDc.weaken (fun _ _ _ _ => trivial), w_N.warm hW hN⟩⟩ rfl rfl hl.1 rfl (lv_room (Nat.le_of_ble_eq_true rfl)) dX15_keeps_19 ⟨(Nat.le_of_ble_eq_true rfl), (Nat.le_of_ble_eq_true rfl)⟩) hS (fun q _ h => hFc q h) hFc (fun r_2 u t H1 locs1 ht hvm hw hB hz1 hk1 hS1 => ?_)
  obtain ⟨fs_3, hP1, hK1, hD1, hp_4⟩ := hB
  rw [ht] at hP1
  have hK1 := va_K.moved hvm.symm hK1
  have hJ := va_join (wr := []) (w1 := [(h0, .inr (15, fs_3))]) hP hD [0] [] rfl rfl (by decide) (by decide) hk1 hFc hP1 hD1
  clear hP hD hPc hDc hKc hFc hz1; try clear hk1
  obtain ⟨hP, hD⟩ := hJ
  replace hK := (hK.sub (tys' := []) [] rfl).app (hK1.sub (tys' := []) [] rfl)
  clear hP1 hK1 hD1 hvm ht hS; try clear t
  try clear H
  revert hS1
  intro hS
  generalize H1 = H at hP hS ⊢; try clear H1
  replace hP : va_P (dC, dI) vwCl [(h0, .inr (15, fs_3))] H := hP
  replace hD : va_D A [(h0, .inr (15, fs_3))] := hD
  replace hK : va_K (dC, dI) vwCl [] s := hK
  have hw_5 : r_2 = 1 := hw; clear hw
  subst hw_5
  refine lv_if_eq (tgt := 27) hx hb dX15_keeps_22 (by decide) (fun hc => absurd hc (by decide)) (fun _ => ?_)
  refine lv_iconst (v := 0) hx hb dX15_keeps_25 (by decide) ?_
  have hP9 := hP.sub (ws' := [(h0, .inr (15, fs_3))]) [0] rfl
  have hD9 := hD.sub (ws' := [(h0, .inr (15, fs_3))]) [0] (by decide) rfl
  have hK9 := hK.sub (tys' := []) [] rfl
  rw [← hAe] at hD9
  refine W.widen (k := 0) (n := 0) (Nat.le_of_ble_eq_true rfl) (Nat.le_of_ble_eq_true rfl) ?_
  subst hAe
  exact (W.iret (v := 0) hx hb hr (fun t ht hW => ⟨⟨0, (), rfl, trivial, fs_3, by rw [ht]; exact hP9, va_K.moved hW.alike hK9, hD9, (mF.sub hp_4 [0] rfl)⟩, hS.F ht⟩) hS.2.2 dX15_keeps_26)
def wv_m_sums : List Cond := .code yX15_sums cX15_sums 2 (some .int) :: ([.fieldLink RX15 296 "MotionSignsModel" "thrown" "I", .fieldLink RX15 443 "MotionSignsModel" "kind" "I", .methodLink RX15 424 yX15_bad, .instanceMethod yX15_bad, .selects RX15 yX15_bad yX15_bad, .initialized RX15] ++ (wsX150 ++ (wv_m_bad2 ++ ([]))))
theorem gw_m_sums : wv_m_sums.all goodWord = true := by decide +kernel
theorem in_m_sums_X15 : ∀ w ∈ wsX150, w ∈ wv_m_sums := fun _ h => List.mem_cons_of_mem _ (List.mem_append_right _ (List.mem_append_left _ h))
theorem g_m_sums_m_bad2_424 : GoodIn wv_m_sums (wsV RX15 424 RX15 yX15_bad wv_m_bad2) := goodIn_app (goodIn_of _ (by decide +kernel)) (goodIn_sub (fun _ h => List.mem_cons_of_mem _ (List.mem_append_right _ (List.mem_append_right _ (List.mem_append_left _ h)))) gw_m_bad2)
set_option maxHeartbeats 4000000 in
set_option maxRecDepth 100000 in
/-- the reference: sums on a fresh object -/
theorem c_m_sums (l : Launch) (dC : Nat → ClassId) (dI : Nat → Nat → Nat) (h0 : Nat) (qfed : Nat) (qf : Nat) (qfd : Nat) (qs : Nat) (qk : Nat) (x0 : Int32) (fs_h0 : List Value) (hF_h0 : mF 89 [(0, .int 0), (18, .int 0), (19, .int 0), (20, .int (-1)), (21, .int 0), (22, .int 0), (23, .int 0), (24, .int 0), (25, .int 0), (27, .int 0), (28, .int 0), (29, .int 0), (35, .int 0), (17, .int (-1)), (26, .ref qfed), (30, .ref qf), (31, .ref qfd), (33, .ref qs), (36, .ref qk)] fs_h0) (sz : Nat) : Met l yX15_sums wv_m_sums ({ frames := 1, cells := 0, slots := 0, locals := 22 }) (va_Pc [.ref h0, .int x0] (fun U => U.heap.size = sz ∧ va_P (dC, dI) vwCl [(h0, .inr (15, fs_h0))] U.heap ∧ va_K (dC, dI) vwCl [] U ∧ va_D (fun _ => True) [(h0, .inr (15, fs_h0))] ∧ w_N U)) (va_Qi (fun (r : Int32) (_ : Unit) => True) (fun _ t => ∃ (fs_e : List Value), va_P (dC, dI) vwCl [(h0, .inr (15, fs_e))] t.heap ∧ va_K (dC, dI) vwCl [] t ∧ va_D (va_A [(h0, .inr (15, fs_h0))] sz) [(h0, .inr (15, fs_e))] ∧ mF 89 [(0, .int 2)] fs_e) (va_A [(h0, .inr (15, fs_h0))] sz)) 0 0 (va_A [(h0, .inr (15, fs_h0))] sz) := by
  refine Met.ofW (cc := cX15_sums) (maxL := 2) (ret := (some .int)) (by decide) rfl ?_
  intro p e s m args below meth c s₁ B hml hv
  obtain ⟨rfl, hsz, hP, hK, hD0, hN⟩ := hv
  have hx := B.exec
  have hb := B.bytes
  have hr := B.returns
  have hts := atoms_spec (ws := wv_m_sums) B.pre
  have hown : s.vm.findClass RX15 = some m.cls := findClass_of_methodNamed B.named
  have hlocks := B.notSynchronized
  subst hsz
  have hD := hD0.self (sz := s.heap.size)
  generalize hAe : va_A [(h0, .inr (15, fs_h0))] s.heap.size = A at hD ⊢
  have hA : ∀ q : Nat, s.heap.size ≤ q → A q := fun q h => by rw [← hAe]; exact Or.inr h
  obtain ⟨H, hHe, hP, hS⟩ : ∃ H : Heap, H = s.heap ∧ va_P (dC, dI) vwCl [(h0, .inr (15, fs_h0))] H ∧ va_S A s.heap H [] := ⟨s.heap, rfl, hP, va_S.rf⟩
  have hl := lv_entry ([.ref h0, .int x0]) (n := 2) (Nat.le_of_ble_eq_true rfl)
  rw [lg_entry_eq]
  generalize (lg_sl ([.ref h0, .int x0]) ++ List.replicate (2 - (lg_sl ([.ref h0, .int x0])).length) Slot.unset).toArray = ls at hl ⊢
  have hl : lv_has ls 2 [(0, .ref h0), (1, .int x0)] := hl
  rw [← hHe]; clear hHe
  refine lv_aload_n hx hb dX15_sums_0 rfl (lv_at hl 0 rfl) ?_
  refine lv_iconst (v := 0) hx hb dX15_sums_1 (by decide) ?_
  refine va_put (D := (dC, dI)) (ci := 15) (v := .int 0) (ty := .int) (C := RX15) (T := TX15) (N := 89) hx hb hts (in_m_sums_X15) tyX15 tyX15_ok nmX15 hown hK hP hD hS 0 rfl rfl 0 (by decide) (hts (.fieldLink RX15 296 "MotionSignsModel" "thrown" "I") (List.mem_of_getElem? (i := 1) rfl)) (fun _ h9 => h9) rfl (tyX15_ok 0 (by decide)) rfl rfl (mF.lt hF_h0 (by decide)) dX15_sums_2 ?_
  clear hP hD hS; try clear H
  intro H locs hP hD hS
  have hF0 := mF.sub (L' := [(18, .int 0), (19, .int 0), (20, .int (-1)), (21, .int 0), (22, .int 0), (23, .int 0), (24, .int 0), (25, .int 0), (27, .int 0), (28, .int 0), (29, .int 0), (35, .int 0), (17, .int (-1)), (26, .ref qfed), (30, .ref qf), (31, .ref qfd), (33, .ref qs), (36, .ref qk)]) hF_h0 [1, 2, 3, 4, 5, 6, 7, 8, 9, 10, 11, 12, 13, 14, 15, 16, 17, 18] rfl
  have hF1 := mF.put hF0 0 (.int 0) (by decide) rfl
  replace hP : va_P (dC, dI) vwCl [(h0, .inr (15, (fs_h0.set 0 (.int 0))))] H := hP
  replace hD : va_D A [(h0, .inr (15, (fs_h0.set 0 (.int 0))))] := hD
  generalize fs_h0.set 0 (.int 0) = fs_1 at hP hD hF1
  replace hF_h0 : mF 89 [(0, .int 0), (18, .int 0), (19, .int 0), (20, .int (-1)), (21, .int 0), (22, .int 0), (23, .int 0), (24, .int 0), (25, .int 0), (27, .int 0), (28, .int 0), (29, .int 0), (35, .int 0), (17, .int (-1)), (26, .ref qfed), (30, .ref qf), (31, .ref qfd), (33, .ref qs), (36, .ref qk)] fs_1 := hF1
  clear hF1 hF0
  replace hP : va_P (dC, dI) vwCl [(h0, .inr (15, fs_1))] H := hP
  replace hD : va_D A [(h0, .inr (15, fs_1))] := hD
  refine lv_aload_n hx hb dX15_sums_5 rfl (lv_at hl 0 rfl) ?_
  refine lv_aload_n hx hb dX15_sums_6 rfl (lv_at hl 0 rfl) ?_
  refine va_get (D := (dC, dI)) (ci := 15) (v := .int 0) (C := RX15) (T := TX15) (N := 89) hx hb hts (in_m_sums_X15) hown hK hP 0 rfl rfl 28 (by decide) (hts (.fieldLink RX15 443 "MotionSignsModel" "kind" "I") (List.mem_of_getElem? (i := 2) rfl)) (fun _ h9 => h9) (mF.get hF_h0 10 rfl) dX15_sums_7 ?_
  refine lv_if_ne (tgt := 17) hx hb dX15_sums_10 (by decide) (fun hc => absurd (by decide) hc) (fun _ => ?_)
  refine lv_iconst (v := 1) hx hb dX15_sums_13 (by decide) ?_
  refine lv_goto (tgt := 18) hx hb dX15_sums_14 (by decide) ?_
  refine lv_iconst (v := 2) hx hb dX15_sums_18 (by decide) ?_
  have hPc := hP.sub (ws' := [(h0, .inr (15, fs_1))]) [0] rfl
  have hDc := hD.sub (ws' := [(h0, .inr (15, fs_1))]) [0] (by decide) rfl
  have hKc := hK.sub (tys' := []) [] rfl
  have hFc := va_free (wc := [(h0, .inr (15, fs_1))]) hD hS hA [0] rfl
  refine va_calli (va_runV (As := [.int 1, .int 2]) (rest := []) ⟨hx, hb, hml, hown, hts⟩ (c_m_bad2 l dC dI h0 qfed qf qfd qs qk fs_1 (mF.sub hF_h0 [0, 1, 2, 3, 4, 5, 6, 7, 8, 9, 10, 11, 12, 13, 14, 15, 16, 17, 18] rfl) H.size) (cwV 2 hts g_m_sums_m_bad2_424 rfl rfl rfl hv_X15_bad ⟨Nat.le_of_ble_eq_true rfl, Nat.le_of_ble_eq_true rfl⟩) ⟨fun a U g mk q => by obtain ⟨q0, q1, qP, qK, qD, qE0⟩ := q; exact ⟨q0, q1, qP, va_K.moved (u := U) (U := U.calling g mk a) (Vm.Alike.refl U.vm) qK, qD, w_N.same rfl qE0⟩, va_recv hKc hPc (ci := 15) (q0 := 0) rfl rfl, fun U hU hW => ⟨rfl, by rw [hU], by rw [hU]; exact hPc, va_K.moved hW.alike hKc, hDc.weaken (fun _ _ _ _ => trivial), w_N.warm hW hN⟩⟩ rfl rfl hl.1 rfl (lv_room (Nat.le_of_ble_eq_true rfl)) dX15_sums_19 ⟨(Nat.le_of_ble_eq_true rfl), (Nat.le_of_ble_eq_true rfl)⟩) hS (fun q _ h => hFc q h) hFc (fun r_2 u t H1 locs1 ht hvm hw hB hz1 hk1 hS1 => ?_)
  obtain ⟨fs_3, hP1, hK1, hD1, hp_4⟩ := hB
  rw [ht] at hP1
  have hK1 := va_K.moved hvm.symm hK1
  have hJ := va_join (wr := []) (w1 := [(h0, .inr (15, fs_3))]) hP hD [0] [] rfl rfl (by decide) (by decide) hk1 hFc hP1 hD1
  clear hP hD hPc hDc hKc hFc hz1; try clear hk1
  obtain ⟨hP, hD⟩ := hJ
  replace hK := (hK.sub (tys' := []) [] rfl).app (hK1.sub (tys' := []) [] rfl)
  clear hP1 hK1 hD1 hvm ht hS; try clear t
  try clear H
  revert hS1
  intro hS
  generalize H1 = H at hP hS ⊢; try clear H1
  replace hP : va_P (dC, dI) vwCl [(h0, .inr (15, fs_3))] H := hP
  replace hD : va_D A [(h0, .inr (15, fs_3))] := hD
  replace hK : va_K (dC, dI) vwCl [] s := hK
  have hw_5 : r_2 = 1 := hw; clear hw
  subst hw_5
  refine lv_if_ne (tgt := 55) hx hb dX15_sums_22 (by decide) (fun _ => ?_) (fun hc => absurd hc (by decide))
  refine lv_iconst (v := 0) hx hb dX15_sums_55 (by decide) ?_
  have hP9 := hP.sub (ws' := [(h0, .inr (15, fs_3))]) [0] rfl
  have hD9 := hD.sub (ws' := [(h0, .inr (15, fs_3))]) [0] (by decide) rfl
  have hK9 := hK.sub (tys' := []) [] rfl
  rw [← hAe] at hD9
  refine W.widen (k := 0) (n := 0) (Nat.le_of_ble_eq_true rfl) (Nat.le_of_ble_eq_true rfl) ?_
  subst hAe
  exact (W.iret (v := 0) hx hb hr (fun t ht hW => ⟨⟨0, (), rfl, trivial, fs_3, by rw [ht]; exact hP9, va_K.moved hW.alike hK9, hD9, (mF.sub hp_4 [0] rfl)⟩, hS.F ht⟩) hS.2.2 dX15_sums_56)
def wv_m_sum : List Cond := .code yX15_sum cX15_sum 6 (some .long) :: ([.fieldLink RX15 296 "MotionSignsModel" "thrown" "I", .fieldLink RX15 443 "MotionSignsModel" "kind" "I", .methodLink RX15 424 yX15_bad, .instanceMethod yX15_bad, .selects RX15 yX15_bad yX15_bad, .initialized RX15] ++ (wsX150 ++ (wv_m_bad3 ++ ([]))))
theorem gw_m_sum : wv_m_sum.all goodWord = true := by decide +kernel
theorem in_m_sum_X15 : ∀ w ∈ wsX150, w ∈ wv_m_sum := fun _ h => List.mem_cons_of_mem _ (List.mem_append_right _ (List.mem_append_left _ h))
theorem g_m_sum_m_bad3_424 : GoodIn wv_m_sum (wsV RX15 424 RX15 yX15_bad wv_m_bad3) := goodIn_app (goodIn_of _ (by decide +kernel)) (goodIn_sub (fun _ h => List.mem_cons_of_mem _ (List.mem_append_right _ (List.mem_append_right _ (List.mem_append_left _ h)))) gw_m_bad3)
set_option maxHeartbeats 4000000 in
set_option maxRecDepth 100000 in
/-- the reference: sum on a fresh object -/
theorem c_m_sum (l : Launch) (dC : Nat → ClassId) (dI : Nat → Nat → Nat) (h0 : Nat) (qfed : Nat) (qf : Nat) (qfd : Nat) (qs : Nat) (qk : Nat) (x0 : Int32) (x1 : Int32) (x2 : Int32) (x3 : Int32) (fs_h0 : List Value) (hF_h0 : mF 89 [(0, .int 0), (18, .int 0), (19, .int 0), (20, .int (-1)), (21, .int 0), (22, .int 0), (23, .int 0), (24, .int 0), (25, .int 0), (27, .int 0), (28, .int 0), (29, .int 0), (35, .int 0), (17, .int (-1)), (26, .ref qfed), (30, .ref qf), (31, .ref qfd), (33, .ref qs), (36, .ref qk)] fs_h0) (sz : Nat) : Met l yX15_sum wv_m_sum ({ frames := 1, cells := 0, slots := 0, locals := 22 }) (va_Pc [.ref h0, .int x0, .int x1, .int x2, .int x3] (fun U => U.heap.size = sz ∧ va_P (dC, dI) vwCl [(h0, .inr (15, fs_h0))] U.heap ∧ va_K (dC, dI) vwCl [] U ∧ va_D (fun _ => True) [(h0, .inr (15, fs_h0))] ∧ w_N U)) (va_Ql (fun (r : Int64) (_ : Unit) => True) (fun _ t => ∃ (fs_e : List Value), va_P (dC, dI) vwCl [(h0, .inr (15, fs_e))] t.heap ∧ va_K (dC, dI) vwCl [] t ∧ va_D (va_A [(h0, .inr (15, fs_h0))] sz) [(h0, .inr (15, fs_e))] ∧ mF 89 [(0, .int 3)] fs_e) (va_A [(h0, .inr (15, fs_h0))] sz)) 0 0 (va_A [(h0, .inr (15, fs_h0))] sz) := by
  refine Met.ofW (cc := cX15_sum) (maxL := 6) (ret := (some .long)) (by decide) rfl ?_
  intro p e s m args below meth c s₁ B hml hv
  obtain ⟨rfl, hsz, hP, hK, hD0, hN⟩ := hv
  have hx := B.exec
  have hb := B.bytes
  have hr := B.returns
  have hts := atoms_spec (ws := wv_m_sum) B.pre
  have hown : s.vm.findClass RX15 = some m.cls := findClass_of_methodNamed B.named
  have hlocks := B.notSynchronized
  subst hsz
  have hD := hD0.self (sz := s.heap.size)
  generalize hAe : va_A [(h0, .inr (15, fs_h0))] s.heap.size = A at hD ⊢
  have hA : ∀ q : Nat, s.heap.size ≤ q → A q := fun q h => by rw [← hAe]; exact Or.inr h
  obtain ⟨H, hHe, hP, hS⟩ : ∃ H : Heap, H = s.heap ∧ va_P (dC, dI) vwCl [(h0, .inr (15, fs_h0))] H ∧ va_S A s.heap H [] := ⟨s.heap, rfl, hP, va_S.rf⟩
  have hl := lv_entry ([.ref h0, .int x0, .int x1, .int x2, .int x3]) (n := 6) (Nat.le_of_ble_eq_true rfl)
  rw [lg_entry_eq]
  generalize (lg_sl ([.ref h0, .int x0, .int x1, .int x2, .int x3]) ++ List.replicate (6 - (lg_sl ([.ref h0, .int x0, .int x1, .int x2, .int x3])).length) Slot.unset).toArray = ls at hl ⊢
  have hl : lv_has ls 6 [(0, .ref h0), (1, .int x0), (2, .int x1), (3, .int x2), (4, .int x3)] := hl
  rw [← hHe]; clear hHe
  refine lv_aload_n hx hb dX15_sum_0 rfl (lv_at hl 0 rfl) ?_
  refine lv_iconst (v := 0) hx hb dX15_sum_1 (by decide) ?_
  refine va_put (D := (dC, dI)) (ci := 15) (v := .int 0) (ty := .int) (C := RX15) (T := TX15) (N := 89) hx hb hts (in_m_sum_X15) tyX15 tyX15_ok nmX15 hown hK hP hD hS 0 rfl rfl 0 (by decide) (hts (.fieldLink RX15 296 "MotionSignsModel" "thrown" "I") (List.mem_of_getElem? (i := 1) rfl)) (fun _ h9 => h9) rfl (tyX15_ok 0 (by decide)) rfl rfl (mF.lt hF_h0 (by decide)) dX15_sum_2 ?_
  clear hP hD hS; try clear H
  intro H locs hP hD hS
  have hF0 := mF.sub (L' := [(18, .int 0), (19, .int 0), (20, .int (-1)), (21, .int 0), (22, .int 0), (23, .int 0), (24, .int 0), (25, .int 0), (27, .int 0), (28, .int 0), (29, .int 0), (35, .int 0), (17, .int (-1)), (26, .ref qfed), (30, .ref qf), (31, .ref qfd), (33, .ref qs), (36, .ref qk)]) hF_h0 [1, 2, 3, 4, 5, 6, 7, 8, 9, 10, 11, 12, 13, 14, 15, 16, 17, 18] rfl
  have hF1 := mF.put hF0 0 (.int 0) (by decide) rfl
  replace hP : va_P (dC, dI) vwCl [(h0, .inr (15, (fs_h0.set 0 (.int 0))))] H := hP
  replace hD : va_D A [(h0, .inr (15, (fs_h0.set 0 (.int 0))))] := hD
  generalize fs_h0.set 0 (.int 0) = fs_1 at hP hD hF1
  replace hF_h0 : mF 89 [(0, .int 0), (18, .int 0), (19, .int 0), (20, .int (-1)), (21, .int 0), (22, .int 0), (23, .int 0), (24, .int 0), (25, .int 0), (27, .int 0), (28, .int 0), (29, .int 0), (35, .int 0), (17, .int (-1)), (26, .ref qfed), (30, .ref qf), (31, .ref qfd), (33, .ref qs), (36, .ref qk)] fs_1 := hF1
  clear hF1 hF0
  replace hP : va_P (dC, dI) vwCl [(h0, .inr (15, fs_1))] H := hP
  replace hD : va_D A [(h0, .inr (15, fs_1))] := hD
  refine lv_aload_n hx hb dX15_sum_5 rfl (lv_at hl 0 rfl) ?_
  refine lv_aload_n hx hb dX15_sum_6 rfl (lv_at hl 0 rfl) ?_
  refine va_get (D := (dC, dI)) (ci := 15) (v := .int 0) (C := RX15) (T := TX15) (N := 89) hx hb hts (in_m_sum_X15) hown hK hP 0 rfl rfl 28 (by decide) (hts (.fieldLink RX15 443 "MotionSignsModel" "kind" "I") (List.mem_of_getElem? (i := 2) rfl)) (fun _ h9 => h9) (mF.get hF_h0 10 rfl) dX15_sum_7 ?_
  refine lv_if_ne (tgt := 17) hx hb dX15_sum_10 (by decide) (fun hc => absurd (by decide) hc) (fun _ => ?_)
  refine lv_iconst (v := 1) hx hb dX15_sum_13 (by decide) ?_
  refine lv_goto (tgt := 18) hx hb dX15_sum_14 (by decide) ?_
  refine lv_iconst (v := 3) hx hb dX15_sum_18 (by decide) ?_
  have hPc := hP.sub (ws' := [(h0, .inr (15, fs_1))]) [0] rfl
  have hDc := hD.sub (ws' := [(h0, .inr (15, fs_1))]) [0] (by decide) rfl
  have hKc := hK.sub (tys' := []) [] rfl
  have hFc := va_free (wc := [(h0, .inr (15, fs_1))]) hD hS hA [0] rfl
  refine va_calli (va_runV (As := [.int 1, .int 3]) (rest := []) ⟨hx, hb, hml, hown, hts⟩ (c_m_bad3 l dC dI h0 qfed qf qfd qs qk fs_1 (mF.sub hF_h0 [0, 1, 2, 3, 4, 5, 6, 7, 8, 9, 10, 11, 12, 13, 14, 15, 16, 17, 18] rfl) H.size) (cwV 2 hts g_m_sum_m_bad3_424 rfl rfl rfl hv_X15_bad ⟨Nat.le_of_ble_eq_true rfl, Nat.le_of_ble_eq_true rfl⟩) ⟨fun a U g mk q => by obtain ⟨q0, q1, qP, qK, qD, qE0⟩ := q; exact ⟨q0, q1, qP, va_K.moved (u := U) (U := U.calling g mk a) (Vm.Alike.refl U.vm) qK, qD, w_N.same rfl qE0⟩, va_recv hKc hPc (ci := 15) (q0 := 0) rfl rfl, fun U hU hW => ⟨rfl, by rw [hU], by rw [hU]; exact hPc, va_K.moved hW.alike hKc, hDc.weaken (fun _ _ _ _ => trivial), w_N.warm hW hN⟩⟩ rfl rfl hl.1 rfl (lv_room (Nat.le_of_ble_eq_true rfl)) dX15_sum_19 ⟨(Nat.le_of_ble_eq_true rfl), (Nat.le_of_ble_eq_true rfl)⟩) hS (fun q _ h => hFc q h) hFc (fun r_2 u t H1 locs1 ht hvm hw hB hz1 hk1 hS1 => ?_)
  obtain ⟨fs_3, hP1, hK1, hD1, hp_4⟩ := hB
  rw [ht] at hP1
  have hK1 := va_K.moved hvm.symm hK1
  have hJ := va_join (wr := []) (w1 := [(h0, .inr (15, fs_3))]) hP hD [0] [] rfl rfl (by decide) (by decide) hk1 hFc hP1 hD1
  clear hP hD hPc hDc hKc hFc hz1; try clear hk1
  obtain ⟨hP, hD⟩ := hJ
  replace hK := (hK.sub (tys' := []) [] rfl).app (hK1.sub (tys' := []) [] rfl)
  clear hP1 hK1 hD1 hvm ht hS; try clear t
  try clear H
  revert hS1
  intro hS
  generalize H1 = H at hP hS ⊢; try clear H1
  replace hP : va_P (dC, dI) vwCl [(h0, .inr (15, fs_3))] H := hP
  replace hD : va_D A [(h0, .inr (15, fs_3))] := hD
  replace hK : va_K (dC, dI) vwCl [] s := hK
  have hw_5 : r_2 = 1 := hw; clear hw
  subst hw_5
  refine lv_if_ne (tgt := 55) hx hb dX15_sum_22 (by decide) (fun _ => ?_) (fun hc => absurd hc (by decide))
  refine lv_lconst (v := 0) hx hb dX15_sum_55 (by decide) ?_
  have hP9 := hP.sub (ws' := [(h0, .inr (15, fs_3))]) [0] rfl
  have hD9 := hD.sub (ws' := [(h0, .inr (15, fs_3))]) [0] (by decide) rfl
  have hK9 := hK.sub (tys' := []) [] rfl
  rw [← hAe] at hD9
  refine W.widen (k := 0) (n := 0) (Nat.le_of_ble_eq_true rfl) (Nat.le_of_ble_eq_true rfl) ?_
  subst hAe
  exact (W.lret (v := 0) hx hb hr (fun t ht hW => ⟨⟨0, (), rfl, trivial, fs_3, by rw [ht]; exact hP9, va_K.moved hW.alike hK9, hD9, (mF.sub hp_4 [0] rfl)⟩, hS.F ht⟩) hS.2.2 dX15_sum_56)
def wv_m_solves : List Cond := .code yX15_solves cX15_solves 1 (some .int) :: ([.fieldLink RX15 296 "MotionSignsModel" "thrown" "I", .fieldLink RX15 443 "MotionSignsModel" "kind" "I", .methodLink RX15 424 yX15_bad, .instanceMethod yX15_bad, .selects RX15 yX15_bad yX15_bad, .initialized RX15] ++ (wsX150 ++ (wv_m_bad1 ++ ([]))))
theorem gw_m_solves : wv_m_solves.all goodWord = true := by decide +kernel
theorem in_m_solves_X15 : ∀ w ∈ wsX150, w ∈ wv_m_solves := fun _ h => List.mem_cons_of_mem _ (List.mem_append_right _ (List.mem_append_left _ h))
theorem g_m_solves_m_bad1_424 : GoodIn wv_m_solves (wsV RX15 424 RX15 yX15_bad wv_m_bad1) := goodIn_app (goodIn_of _ (by decide +kernel)) (goodIn_sub (fun _ h => List.mem_cons_of_mem _ (List.mem_append_right _ (List.mem_append_right _ (List.mem_append_left _ h)))) gw_m_bad1)
set_option maxHeartbeats 4000000 in
set_option maxRecDepth 100000 in
/-- the reference: solves on a fresh object -/
theorem c_m_solves (l : Launch) (dC : Nat → ClassId) (dI : Nat → Nat → Nat) (h0 : Nat) (qfed : Nat) (qf : Nat) (qfd : Nat) (qs : Nat) (qk : Nat) (fs_h0 : List Value) (hF_h0 : mF 89 [(0, .int 0), (18, .int 0), (19, .int 0), (20, .int (-1)), (21, .int 0), (22, .int 0), (23, .int 0), (24, .int 0), (25, .int 0), (27, .int 0), (28, .int 0), (29, .int 0), (35, .int 0), (17, .int (-1)), (26, .ref qfed), (30, .ref qf), (31, .ref qfd), (33, .ref qs), (36, .ref qk)] fs_h0) (sz : Nat) : Met l yX15_solves wv_m_solves ({ frames := 1, cells := 0, slots := 0, locals := 22 }) (va_Pc [.ref h0] (fun U => U.heap.size = sz ∧ va_P (dC, dI) vwCl [(h0, .inr (15, fs_h0))] U.heap ∧ va_K (dC, dI) vwCl [] U ∧ va_D (fun _ => True) [(h0, .inr (15, fs_h0))] ∧ w_N U)) (va_Qi (fun (r : Int32) (_ : Unit) => True) (fun _ t => ∃ (fs_e : List Value), va_P (dC, dI) vwCl [(h0, .inr (15, fs_e))] t.heap ∧ va_K (dC, dI) vwCl [] t ∧ va_D (va_A [(h0, .inr (15, fs_h0))] sz) [(h0, .inr (15, fs_e))] ∧ mF 89 [(0, .int 1)] fs_e) (va_A [(h0, .inr (15, fs_h0))] sz)) 0 0 (va_A [(h0, .inr (15, fs_h0))] sz) := by
  refine Met.ofW (cc := cX15_solves) (maxL := 1) (ret := (some .int)) (by decide) rfl ?_
  intro p e s m args below meth c s₁ B hml hv
  obtain ⟨rfl, hsz, hP, hK, hD0, hN⟩ := hv
  have hx := B.exec
  have hb := B.bytes
  have hr := B.returns
  have hts := atoms_spec (ws := wv_m_solves) B.pre
  have hown : s.vm.findClass RX15 = some m.cls := findClass_of_methodNamed B.named
  have hlocks := B.notSynchronized
  subst hsz
  have hD := hD0.self (sz := s.heap.size)
  generalize hAe : va_A [(h0, .inr (15, fs_h0))] s.heap.size = A at hD ⊢
  have hA : ∀ q : Nat, s.heap.size ≤ q → A q := fun q h => by rw [← hAe]; exact Or.inr h
  obtain ⟨H, hHe, hP, hS⟩ : ∃ H : Heap, H = s.heap ∧ va_P (dC, dI) vwCl [(h0, .inr (15, fs_h0))] H ∧ va_S A s.heap H [] := ⟨s.heap, rfl, hP, va_S.rf⟩
  have hl := lv_entry ([.ref h0]) (n := 1) (Nat.le_of_ble_eq_true rfl)
  rw [lg_entry_eq]
  generalize (lg_sl ([.ref h0]) ++ List.replicate (1 - (lg_sl ([.ref h0])).length) Slot.unset).toArray = ls at hl ⊢
  have hl : lv_has ls 1 [(0, .ref h0)] := hl
  rw [← hHe]; clear hHe
  refine lv_aload_n hx hb dX15_solves_0 rfl (lv_at hl 0 rfl) ?_
  refine lv_iconst (v := 0) hx hb dX15_solves_1 (by decide) ?_
  refine va_put (D := (dC, dI)) (ci := 15) (v := .int 0) (ty := .int) (C := RX15) (T := TX15) (N := 89) hx hb hts (in_m_solves_X15) tyX15 tyX15_ok nmX15 hown hK hP hD hS 0 rfl rfl 0 (by decide) (hts (.fieldLink RX15 296 "MotionSignsModel" "thrown" "I") (List.mem_of_getElem? (i := 1) rfl)) (fun _ h9 => h9) rfl (tyX15_ok 0 (by decide)) rfl rfl (mF.lt hF_h0 (by decide)) dX15_solves_2 ?_
  clear hP hD hS; try clear H
  intro H locs hP hD hS
  have hF0 := mF.sub (L' := [(18, .int 0), (19, .int 0), (20, .int (-1)), (21, .int 0), (22, .int 0), (23, .int 0), (24, .int 0), (25, .int 0), (27, .int 0), (28, .int 0), (29, .int 0), (35, .int 0), (17, .int (-1)), (26, .ref qfed), (30, .ref qf), (31, .ref qfd), (33, .ref qs), (36, .ref qk)]) hF_h0 [1, 2, 3, 4, 5, 6, 7, 8, 9, 10, 11, 12, 13, 14, 15, 16, 17, 18] rfl
  have hF1 := mF.put hF0 0 (.int 0) (by decide) rfl
  replace hP : va_P (dC, dI) vwCl [(h0, .inr (15, (fs_h0.set 0 (.int 0))))] H := hP
  replace hD : va_D A [(h0, .inr (15, (fs_h0.set 0 (.int 0))))] := hD
  generalize fs_h0.set 0 (.int 0) = fs_1 at hP hD hF1
  replace hF_h0 : mF 89 [(0, .int 0), (18, .int 0), (19, .int 0), (20, .int (-1)), (21, .int 0), (22, .int 0), (23, .int 0), (24, .int 0), (25, .int 0), (27, .int 0), (28, .int 0), (29, .int 0), (35, .int 0), (17, .int (-1)), (26, .ref qfed), (30, .ref qf), (31, .ref qfd), (33, .ref qs), (36, .ref qk)] fs_1 := hF1
  clear hF1 hF0
  replace hP : va_P (dC, dI) vwCl [(h0, .inr (15, fs_1))] H := hP
  replace hD : va_D A [(h0, .inr (15, fs_1))] := hD
  refine lv_aload_n hx hb dX15_solves_5 rfl (lv_at hl 0 rfl) ?_
  refine lv_aload_n hx hb dX15_solves_6 rfl (lv_at hl 0 rfl) ?_
  refine va_get (D := (dC, dI)) (ci := 15) (v := .int 0) (C := RX15) (T := TX15) (N := 89) hx hb hts (in_m_solves_X15) hown hK hP 0 rfl rfl 28 (by decide) (hts (.fieldLink RX15 443 "MotionSignsModel" "kind" "I") (List.mem_of_getElem? (i := 2) rfl)) (fun _ h9 => h9) (mF.get hF_h0 10 rfl) dX15_solves_7 ?_
  refine lv_if_ne (tgt := 17) hx hb dX15_solves_10 (by decide) (fun hc => absurd (by decide) hc) (fun _ => ?_)
  refine lv_iconst (v := 1) hx hb dX15_solves_13 (by decide) ?_
  refine lv_goto (tgt := 18) hx hb dX15_solves_14 (by decide) ?_
  refine lv_iconst (v := 1) hx hb dX15_solves_18 (by decide) ?_
  have hPc := hP.sub (ws' := [(h0, .inr (15, fs_1))]) [0] rfl
  have hDc := hD.sub (ws' := [(h0, .inr (15, fs_1))]) [0] (by decide) rfl
  have hKc := hK.sub (tys' := []) [] rfl
  have hFc := va_free (wc := [(h0, .inr (15, fs_1))]) hD hS hA [0] rfl
  refine va_calli (va_runV (As := [.int 1, .int 1]) (rest := []) ⟨hx, hb, hml, hown, hts⟩ (c_m_bad1 l dC dI h0 qfed qf qfd qs qk fs_1 (mF.sub hF_h0 [0, 1, 2, 3, 4, 5, 6, 7, 8, 9, 10, 11, 12, 13, 14, 15, 16, 17, 18] rfl) H.size) (cwV 2 hts g_m_solves_m_bad1_424 rfl rfl rfl hv_X15_bad ⟨Nat.le_of_ble_eq_true rfl, Nat.le_of_ble_eq_true rfl⟩) ⟨fun a U g mk q => by obtain ⟨q0, q1, qP, qK, qD, qE0⟩ := q; exact ⟨q0, q1, qP, va_K.moved (u := U) (U := U.calling g mk a) (Vm.Alike.refl U.vm) qK, qD, w_N.same rfl qE0⟩, va_recv hKc hPc (ci := 15) (q0 := 0) rfl rfl, fun U hU hW => ⟨rfl, by rw [hU], by rw [hU]; exact hPc, va_K.moved hW.alike hKc, hDc.weaken (fun _ _ _ _ => trivial), w_N.warm hW hN⟩⟩ rfl rfl hl.1 rfl (lv_room (Nat.le_of_ble_eq_true rfl)) dX15_solves_19 ⟨(Nat.le_of_ble_eq_true rfl), (Nat.le_of_ble_eq_true rfl)⟩) hS (fun q _ h => hFc q h) hFc (fun r_2 u t H1 locs1 ht hvm hw hB hz1 hk1 hS1 => ?_)
  obtain ⟨fs_3, hP1, hK1, hD1, hp_4⟩ := hB
  rw [ht] at hP1
  have hK1 := va_K.moved hvm.symm hK1
  have hJ := va_join (wr := []) (w1 := [(h0, .inr (15, fs_3))]) hP hD [0] [] rfl rfl (by decide) (by decide) hk1 hFc hP1 hD1
  clear hP hD hPc hDc hKc hFc hz1; try clear hk1
  obtain ⟨hP, hD⟩ := hJ
  replace hK := (hK.sub (tys' := []) [] rfl).app (hK1.sub (tys' := []) [] rfl)
  clear hP1 hK1 hD1 hvm ht hS; try clear t
  try clear H
  revert hS1
  intro hS
  generalize H1 = H at hP hS ⊢; try clear H1
  replace hP : va_P (dC, dI) vwCl [(h0, .inr (15, fs_3))] H := hP
  replace hD : va_D A [(h0, .inr (15, fs_3))] := hD
  replace hK : va_K (dC, dI) vwCl [] s := hK
  have hw_5 : r_2 = 1 := hw; clear hw
  subst hw_5
  refine lv_if_eq (tgt := 27) hx hb dX15_solves_22 (by decide) (fun hc => absurd hc (by decide)) (fun _ => ?_)
  refine lv_iconst (v := 0) hx hb dX15_solves_25 (by decide) ?_
  have hP9 := hP.sub (ws' := [(h0, .inr (15, fs_3))]) [0] rfl
  have hD9 := hD.sub (ws' := [(h0, .inr (15, fs_3))]) [0] (by decide) rfl
  have hK9 := hK.sub (tys' := []) [] rfl
  rw [← hAe] at hD9
  refine W.widen (k := 0) (n := 0) (Nat.le_of_ble_eq_true rfl) (Nat.le_of_ble_eq_true rfl) ?_
  subst hAe
  exact (W.iret (v := 0) hx hb hr (fun t ht hW => ⟨⟨0, (), rfl, trivial, fs_3, by rw [ht]; exact hP9, va_K.moved hW.alike hK9, hD9, (mF.sub hp_4 [0] rfl)⟩, hS.F ht⟩) hS.2.2 dX15_solves_26)
def wv_m_left : List Cond := .code yX15_left cX15_left 3 (some .long) :: ([.fieldLink RX15 296 "MotionSignsModel" "thrown" "I", .fieldLink RX15 443 "MotionSignsModel" "kind" "I", .methodLink RX15 424 yX15_bad, .instanceMethod yX15_bad, .selects RX15 yX15_bad yX15_bad, .initialized RX15] ++ (wsX150 ++ (wv_m_bad2 ++ ([]))))
theorem gw_m_left : wv_m_left.all goodWord = true := by decide +kernel
theorem in_m_left_X15 : ∀ w ∈ wsX150, w ∈ wv_m_left := fun _ h => List.mem_cons_of_mem _ (List.mem_append_right _ (List.mem_append_left _ h))
theorem g_m_left_m_bad2_424 : GoodIn wv_m_left (wsV RX15 424 RX15 yX15_bad wv_m_bad2) := goodIn_app (goodIn_of _ (by decide +kernel)) (goodIn_sub (fun _ h => List.mem_cons_of_mem _ (List.mem_append_right _ (List.mem_append_right _ (List.mem_append_left _ h)))) gw_m_bad2)
set_option maxHeartbeats 4000000 in
set_option maxRecDepth 100000 in
/-- the reference: left on a fresh object -/
theorem c_m_left (l : Launch) (dC : Nat → ClassId) (dI : Nat → Nat → Nat) (h0 : Nat) (qfed : Nat) (qf : Nat) (qfd : Nat) (qs : Nat) (qk : Nat) (x0 : Int32) (x1 : Int32) (fs_h0 : List Value) (hF_h0 : mF 89 [(0, .int 0), (18, .int 0), (19, .int 0), (20, .int (-1)), (21, .int 0), (22, .int 0), (23, .int 0), (24, .int 0), (25, .int 0), (27, .int 0), (28, .int 0), (29, .int 0), (35, .int 0), (17, .int (-1)), (26, .ref qfed), (30, .ref qf), (31, .ref qfd), (33, .ref qs), (36, .ref qk)] fs_h0) (sz : Nat) : Met l yX15_left wv_m_left ({ frames := 1, cells := 0, slots := 0, locals := 22 }) (va_Pc [.ref h0, .int x0, .int x1] (fun U => U.heap.size = sz ∧ va_P (dC, dI) vwCl [(h0, .inr (15, fs_h0))] U.heap ∧ va_K (dC, dI) vwCl [] U ∧ va_D (fun _ => True) [(h0, .inr (15, fs_h0))] ∧ w_N U)) (va_Ql (fun (r : Int64) (_ : Unit) => True) (fun _ t => ∃ (fs_e : List Value), va_P (dC, dI) vwCl [(h0, .inr (15, fs_e))] t.heap ∧ va_K (dC, dI) vwCl [] t ∧ va_D (va_A [(h0, .inr (15, fs_h0))] sz) [(h0, .inr (15, fs_e))] ∧ mF 89 [(0, .int 2)] fs_e) (va_A [(h0, .inr (15, fs_h0))] sz)) 0 0 (va_A [(h0, .inr (15, fs_h0))] sz) := by
  refine Met.ofW (cc := cX15_left) (maxL := 3) (ret := (some .long)) (by decide) rfl ?_
  intro p e s m args below meth c s₁ B hml hv
  obtain ⟨rfl, hsz, hP, hK, hD0, hN⟩ := hv
  have hx := B.exec
  have hb := B.bytes
  have hr := B.returns
  have hts := atoms_spec (ws := wv_m_left) B.pre
  have hown : s.vm.findClass RX15 = some m.cls := findClass_of_methodNamed B.named
  have hlocks := B.notSynchronized
  subst hsz
  have hD := hD0.self (sz := s.heap.size)
  generalize hAe : va_A [(h0, .inr (15, fs_h0))] s.heap.size = A at hD ⊢
  have hA : ∀ q : Nat, s.heap.size ≤ q → A q := fun q h => by rw [← hAe]; exact Or.inr h
  obtain ⟨H, hHe, hP, hS⟩ : ∃ H : Heap, H = s.heap ∧ va_P (dC, dI) vwCl [(h0, .inr (15, fs_h0))] H ∧ va_S A s.heap H [] := ⟨s.heap, rfl, hP, va_S.rf⟩
  have hl := lv_entry ([.ref h0, .int x0, .int x1]) (n := 3) (Nat.le_of_ble_eq_true rfl)
  rw [lg_entry_eq]
  generalize (lg_sl ([.ref h0, .int x0, .int x1]) ++ List.replicate (3 - (lg_sl ([.ref h0, .int x0, .int x1])).length) Slot.unset).toArray = ls at hl ⊢
  have hl : lv_has ls 3 [(0, .ref h0), (1, .int x0), (2, .int x1)] := hl
  rw [← hHe]; clear hHe
  refine lv_aload_n hx hb dX15_left_0 rfl (lv_at hl 0 rfl) ?_
  refine lv_iconst (v := 0) hx hb dX15_left_1 (by decide) ?_
  refine va_put (D := (dC, dI)) (ci := 15) (v := .int 0) (ty := .int) (C := RX15) (T := TX15) (N := 89) hx hb hts (in_m_left_X15) tyX15 tyX15_ok nmX15 hown hK hP hD hS 0 rfl rfl 0 (by decide) (hts (.fieldLink RX15 296 "MotionSignsModel" "thrown" "I") (List.mem_of_getElem? (i := 1) rfl)) (fun _ h9 => h9) rfl (tyX15_ok 0 (by decide)) rfl rfl (mF.lt hF_h0 (by decide)) dX15_left_2 ?_
  clear hP hD hS; try clear H
  intro H locs hP hD hS
  have hF0 := mF.sub (L' := [(18, .int 0), (19, .int 0), (20, .int (-1)), (21, .int 0), (22, .int 0), (23, .int 0), (24, .int 0), (25, .int 0), (27, .int 0), (28, .int 0), (29, .int 0), (35, .int 0), (17, .int (-1)), (26, .ref qfed), (30, .ref qf), (31, .ref qfd), (33, .ref qs), (36, .ref qk)]) hF_h0 [1, 2, 3, 4, 5, 6, 7, 8, 9, 10, 11, 12, 13, 14, 15, 16, 17, 18] rfl
  have hF1 := mF.put hF0 0 (.int 0) (by decide) rfl
  replace hP : va_P (dC, dI) vwCl [(h0, .inr (15, (fs_h0.set 0 (.int 0))))] H := hP
  replace hD : va_D A [(h0, .inr (15, (fs_h0.set 0 (.int 0))))] := hD
  generalize fs_h0.set 0 (.int 0) = fs_1 at hP hD hF1
  replace hF_h0 : mF 89 [(0, .int 0), (18, .int 0), (19, .int 0), (20, .int (-1)), (21, .int 0), (22, .int 0), (23, .int 0), (24, .int 0), (25, .int 0), (27, .int 0), (28, .int 0), (29, .int 0), (35, .int 0), (17, .int (-1)), (26, .ref qfed), (30, .ref qf), (31, .ref qfd), (33, .ref qs), (36, .ref qk)] fs_1 := hF1
  clear hF1 hF0
  replace hP : va_P (dC, dI) vwCl [(h0, .inr (15, fs_1))] H := hP
  replace hD : va_D A [(h0, .inr (15, fs_1))] := hD
  refine lv_aload_n hx hb dX15_left_5 rfl (lv_at hl 0 rfl) ?_
  refine lv_aload_n hx hb dX15_left_6 rfl (lv_at hl 0 rfl) ?_
  refine va_get (D := (dC, dI)) (ci := 15) (v := .int 0) (C := RX15) (T := TX15) (N := 89) hx hb hts (in_m_left_X15) hown hK hP 0 rfl rfl 28 (by decide) (hts (.fieldLink RX15 443 "MotionSignsModel" "kind" "I") (List.mem_of_getElem? (i := 2) rfl)) (fun _ h9 => h9) (mF.get hF_h0 10 rfl) dX15_left_7 ?_
  refine lv_if_ne (tgt := 17) hx hb dX15_left_10 (by decide) (fun hc => absurd (by decide) hc) (fun _ => ?_)
  refine lv_iconst (v := 1) hx hb dX15_left_13 (by decide) ?_
  refine lv_goto (tgt := 18) hx hb dX15_left_14 (by decide) ?_
  refine lv_iconst (v := 2) hx hb dX15_left_18 (by decide) ?_
  have hPc := hP.sub (ws' := [(h0, .inr (15, fs_1))]) [0] rfl
  have hDc := hD.sub (ws' := [(h0, .inr (15, fs_1))]) [0] (by decide) rfl
  have hKc := hK.sub (tys' := []) [] rfl
  have hFc := va_free (wc := [(h0, .inr (15, fs_1))]) hD hS hA [0] rfl
  refine va_calli (va_runV (As := [.int 1, .int 2]) (rest := []) ⟨hx, hb, hml, hown, hts⟩ (c_m_bad2 l dC dI h0 qfed qf qfd qs qk fs_1 (mF.sub hF_h0 [0, 1, 2, 3, 4, 5, 6, 7, 8, 9, 10, 11, 12, 13, 14, 15, 16, 17, 18] rfl) H.size) (cwV 2 hts g_m_left_m_bad2_424 rfl rfl rfl hv_X15_bad ⟨Nat.le_of_ble_eq_true rfl, Nat.le_of_ble_eq_true rfl⟩) ⟨fun a U g mk q => by obtain ⟨q0, q1, qP, qK, qD, qE0⟩ := q; exact ⟨q0, q1, qP, va_K.moved (u := U) (U := U.calling g mk a) (Vm.Alike.refl U.vm) qK, qD, w_N.same rfl qE0⟩, va_recv hKc hPc (ci := 15) (q0 := 0) rfl rfl, fun U hU hW => ⟨rfl, by rw [hU], by rw [hU]; exact hPc, va_K.moved hW.alike hKc, hDc.weaken (fun _ _ _ _ => trivial), w_N.warm hW hN⟩⟩ rfl rfl hl.1 rfl (lv_room (Nat.le_of_ble_eq_true rfl)) dX15_left_19 ⟨(Nat.le_of_ble_eq_true rfl), (Nat.le_of_ble_eq_true rfl)⟩) hS (fun q _ h => hFc q h) hFc (fun r_2 u t H1 locs1 ht hvm hw hB hz1 hk1 hS1 => ?_)
  obtain ⟨fs_3, hP1, hK1, hD1, hp_4⟩ := hB
  rw [ht] at hP1
  have hK1 := va_K.moved hvm.symm hK1
  have hJ := va_join (wr := []) (w1 := [(h0, .inr (15, fs_3))]) hP hD [0] [] rfl rfl (by decide) (by decide) hk1 hFc hP1 hD1
  clear hP hD hPc hDc hKc hFc hz1; try clear hk1
  obtain ⟨hP, hD⟩ := hJ
  replace hK := (hK.sub (tys' := []) [] rfl).app (hK1.sub (tys' := []) [] rfl)
  clear hP1 hK1 hD1 hvm ht hS; try clear t
  try clear H
  revert hS1
  intro hS
  generalize H1 = H at hP hS ⊢; try clear H1
  replace hP : va_P (dC, dI) vwCl [(h0, .inr (15, fs_3))] H := hP
  replace hD : va_D A [(h0, .inr (15, fs_3))] := hD
  replace hK : va_K (dC, dI) vwCl [] s := hK
  have hw_5 : r_2 = 1 := hw; clear hw
  subst hw_5
  refine lv_if_ne (tgt := 70) hx hb dX15_left_22 (by decide) (fun _ => ?_) (fun hc => absurd hc (by decide))
  refine lv_lconst (v := 0) hx hb dX15_left_70 (by decide) ?_
  have hP9 := hP.sub (ws' := [(h0, .inr (15, fs_3))]) [0] rfl
  have hD9 := hD.sub (ws' := [(h0, .inr (15, fs_3))]) [0] (by decide) rfl
  have hK9 := hK.sub (tys' := []) [] rfl
  rw [← hAe] at hD9
  refine W.widen (k := 0) (n := 0) (Nat.le_of_ble_eq_true rfl) (Nat.le_of_ble_eq_true rfl) ?_
  subst hAe
  exact (W.lret (v := 0) hx hb hr (fun t ht hW => ⟨⟨0, (), rfl, trivial, fs_3, by rw [ht]; exact hP9, va_K.moved hW.alike hK9, hD9, (mF.sub hp_4 [0] rfl)⟩, hS.F ht⟩) hS.2.2 dX15_left_71)
def wv_m_shifted : List Cond := .code yX15_shifted cX15_shifted 7 (some .int) :: ([.fieldLink RX15 296 "MotionSignsModel" "thrown" "I", .fieldLink RX15 443 "MotionSignsModel" "kind" "I", .methodLink RX15 424 yX15_bad, .instanceMethod yX15_bad, .selects RX15 yX15_bad yX15_bad, .initialized RX15] ++ (wsX150 ++ (wv_m_bad2 ++ ([]))))
theorem gw_m_shifted : wv_m_shifted.all goodWord = true := by decide +kernel
theorem in_m_shifted_X15 : ∀ w ∈ wsX150, w ∈ wv_m_shifted := fun _ h => List.mem_cons_of_mem _ (List.mem_append_right _ (List.mem_append_left _ h))
theorem g_m_shifted_m_bad2_424 : GoodIn wv_m_shifted (wsV RX15 424 RX15 yX15_bad wv_m_bad2) := goodIn_app (goodIn_of _ (by decide +kernel)) (goodIn_sub (fun _ h => List.mem_cons_of_mem _ (List.mem_append_right _ (List.mem_append_right _ (List.mem_append_left _ h)))) gw_m_bad2)
set_option maxHeartbeats 4000000 in
set_option maxRecDepth 100000 in
/-- the reference: shifted on a fresh object -/
theorem c_m_shifted (l : Launch) (dC : Nat → ClassId) (dI : Nat → Nat → Nat) (h0 : Nat) (qfed : Nat) (qf : Nat) (qfd : Nat) (qs : Nat) (qk : Nat) (x0 : Int32) (x1 : Int32) (fs_h0 : List Value) (hF_h0 : mF 89 [(0, .int 0), (18, .int 0), (19, .int 0), (20, .int (-1)), (21, .int 0), (22, .int 0), (23, .int 0), (24, .int 0), (25, .int 0), (27, .int 0), (28, .int 0), (29, .int 0), (35, .int 0), (17, .int (-1)), (26, .ref qfed), (30, .ref qf), (31, .ref qfd), (33, .ref qs), (36, .ref qk)] fs_h0) (sz : Nat) : Met l yX15_shifted wv_m_shifted ({ frames := 1, cells := 0, slots := 0, locals := 22 }) (va_Pc [.ref h0, .int x0, .int x1] (fun U => U.heap.size = sz ∧ va_P (dC, dI) vwCl [(h0, .inr (15, fs_h0))] U.heap ∧ va_K (dC, dI) vwCl [] U ∧ va_D (fun _ => True) [(h0, .inr (15, fs_h0))] ∧ w_N U)) (va_Qi (fun (r : Int32) (_ : Unit) => True) (fun _ t => ∃ (fs_e : List Value), va_P (dC, dI) vwCl [(h0, .inr (15, fs_e))] t.heap ∧ va_K (dC, dI) vwCl [] t ∧ va_D (va_A [(h0, .inr (15, fs_h0))] sz) [(h0, .inr (15, fs_e))] ∧ mF 89 [(0, .int 2)] fs_e) (va_A [(h0, .inr (15, fs_h0))] sz)) 0 0 (va_A [(h0, .inr (15, fs_h0))] sz) := by
  refine Met.ofW (cc := cX15_shifted) (maxL := 7) (ret := (some .int)) (by decide) rfl ?_
  intro p e s m args below meth c s₁ B hml hv
  obtain ⟨rfl, hsz, hP, hK, hD0, hN⟩ := hv
  have hx := B.exec
  have hb := B.bytes
  have hr := B.returns
  have hts := atoms_spec (ws := wv_m_shifted) B.pre
  have hown : s.vm.findClass RX15 = some m.cls := findClass_of_methodNamed B.named
  have hlocks := B.notSynchronized
  subst hsz
  have hD := hD0.self (sz := s.heap.size)
  generalize hAe : va_A [(h0, .inr (15, fs_h0))] s.heap.size = A at hD ⊢
  have hA : ∀ q : Nat, s.heap.size ≤ q → A q := fun q h => by rw [← hAe]; exact Or.inr h
  obtain ⟨H, hHe, hP, hS⟩ : ∃ H : Heap, H = s.heap ∧ va_P (dC, dI) vwCl [(h0, .inr (15, fs_h0))] H ∧ va_S A s.heap H [] := ⟨s.heap, rfl, hP, va_S.rf⟩
  have hl := lv_entry ([.ref h0, .int x0, .int x1]) (n := 7) (Nat.le_of_ble_eq_true rfl)
  rw [lg_entry_eq]
  generalize (lg_sl ([.ref h0, .int x0, .int x1]) ++ List.replicate (7 - (lg_sl ([.ref h0, .int x0, .int x1])).length) Slot.unset).toArray = ls at hl ⊢
  have hl : lv_has ls 7 [(0, .ref h0), (1, .int x0), (2, .int x1)] := hl
  rw [← hHe]; clear hHe
  refine lv_aload_n hx hb dX15_shifted_0 rfl (lv_at hl 0 rfl) ?_
  refine lv_iconst (v := 0) hx hb dX15_shifted_1 (by decide) ?_
  refine va_put (D := (dC, dI)) (ci := 15) (v := .int 0) (ty := .int) (C := RX15) (T := TX15) (N := 89) hx hb hts (in_m_shifted_X15) tyX15 tyX15_ok nmX15 hown hK hP hD hS 0 rfl rfl 0 (by decide) (hts (.fieldLink RX15 296 "MotionSignsModel" "thrown" "I") (List.mem_of_getElem? (i := 1) rfl)) (fun _ h9 => h9) rfl (tyX15_ok 0 (by decide)) rfl rfl (mF.lt hF_h0 (by decide)) dX15_shifted_2 ?_
  clear hP hD hS; try clear H
  intro H locs hP hD hS
  have hF0 := mF.sub (L' := [(18, .int 0), (19, .int 0), (20, .int (-1)), (21, .int 0), (22, .int 0), (23, .int 0), (24, .int 0), (25, .int 0), (27, .int 0), (28, .int 0), (29, .int 0), (35, .int 0), (17, .int (-1)), (26, .ref qfed), (30, .ref qf), (31, .ref qfd), (33, .ref qs), (36, .ref qk)]) hF_h0 [1, 2, 3, 4, 5, 6, 7, 8, 9, 10, 11, 12, 13, 14, 15, 16, 17, 18] rfl
  have hF1 := mF.put hF0 0 (.int 0) (by decide) rfl
  replace hP : va_P (dC, dI) vwCl [(h0, .inr (15, (fs_h0.set 0 (.int 0))))] H := hP
  replace hD : va_D A [(h0, .inr (15, (fs_h0.set 0 (.int 0))))] := hD
  generalize fs_h0.set 0 (.int 0) = fs_1 at hP hD hF1
  replace hF_h0 : mF 89 [(0, .int 0), (18, .int 0), (19, .int 0), (20, .int (-1)), (21, .int 0), (22, .int 0), (23, .int 0), (24, .int 0), (25, .int 0), (27, .int 0), (28, .int 0), (29, .int 0), (35, .int 0), (17, .int (-1)), (26, .ref qfed), (30, .ref qf), (31, .ref qfd), (33, .ref qs), (36, .ref qk)] fs_1 := hF1
  clear hF1 hF0
  replace hP : va_P (dC, dI) vwCl [(h0, .inr (15, fs_1))] H := hP
  replace hD : va_D A [(h0, .inr (15, fs_1))] := hD
  refine lv_aload_n hx hb dX15_shifted_5 rfl (lv_at hl 0 rfl) ?_
  refine lv_aload_n hx hb dX15_shifted_6 rfl (lv_at hl 0 rfl) ?_
  refine va_get (D := (dC, dI)) (ci := 15) (v := .int 0) (C := RX15) (T := TX15) (N := 89) hx hb hts (in_m_shifted_X15) hown hK hP 0 rfl rfl 28 (by decide) (hts (.fieldLink RX15 443 "MotionSignsModel" "kind" "I") (List.mem_of_getElem? (i := 2) rfl)) (fun _ h9 => h9) (mF.get hF_h0 10 rfl) dX15_shifted_7 ?_
  refine lv_if_ne (tgt := 17) hx hb dX15_shifted_10 (by decide) (fun hc => absurd (by decide) hc) (fun _ => ?_)
  refine lv_iconst (v := 1) hx hb dX15_shifted_13 (by decide) ?_
  refine lv_goto (tgt := 18) hx hb dX15_shifted_14 (by decide) ?_
  refine lv_iconst (v := 2) hx hb dX15_shifted_18 (by decide) ?_
  have hPc := hP.sub (ws' := [(h0, .inr (15, fs_1))]) [0] rfl
  have hDc := hD.sub (ws' := [(h0, .inr (15, fs_1))]) [0] (by decide) rfl
  have hKc := hK.sub (tys' := []) [] rfl
  have hFc := va_free (wc := [(h0, .inr (15, fs_1))]) hD hS hA [0] rfl
  refine va_calli (va_runV (As := [.int 1, .int 2]) (rest := []) ⟨hx, hb, hml, hown, hts⟩ (c_m_bad2 l dC dI h0 qfed qf qfd qs qk fs_1 (mF.sub hF_h0 [0, 1, 2, 3, 4, 5, 6, 7, 8, 9, 10, 11, 12, 13, 14, 15, 16, 17, 18] rfl) H.size) (cwV 2 hts g_m_shifted_m_bad2_424 rfl rfl rfl hv_X15_bad ⟨Nat.le_of_ble_eq_true rfl, Nat.le_of_ble_eq_true rfl⟩) ⟨fun a U g mk q => by obtain ⟨q0, q1, qP, qK, qD, qE0⟩ := q; exact ⟨q0, q1, qP, va_K.moved (u := U) (U := U.calling g mk a) (Vm.Alike.refl U.vm) qK, qD, w_N.same rfl qE0⟩, va_recv hKc hPc (ci := 15) (q0 := 0) rfl rfl, fun U hU hW => ⟨rfl, by rw [hU], by rw [hU]; exact hPc, va_K.moved hW.alike hKc, hDc.weaken (fun _ _ _ _ => trivial), w_N.warm hW hN⟩⟩ rfl rfl hl.1 rfl (lv_room (Nat.le_of_ble_eq_true rfl)) dX15_shifted_19 ⟨(Nat.le_of_ble_eq_true rfl), (Nat.le_of_ble_eq_true rfl)⟩) hS (fun q _ h => hFc q h) hFc (fun r_2 u t H1 locs1 ht hvm hw hB hz1 hk1 hS1 => ?_)
  obtain ⟨fs_3, hP1, hK1, hD1, hp_4⟩ := hB
  rw [ht] at hP1
  have hK1 := va_K.moved hvm.symm hK1
  have hJ := va_join (wr := []) (w1 := [(h0, .inr (15, fs_3))]) hP hD [0] [] rfl rfl (by decide) (by decide) hk1 hFc hP1 hD1
  clear hP hD hPc hDc hKc hFc hz1; try clear hk1
  obtain ⟨hP, hD⟩ := hJ
  replace hK := (hK.sub (tys' := []) [] rfl).app (hK1.sub (tys' := []) [] rfl)
  clear hP1 hK1 hD1 hvm ht hS; try clear t
  try clear H
  revert hS1
  intro hS
  generalize H1 = H at hP hS ⊢; try clear H1
  replace hP : va_P (dC, dI) vwCl [(h0, .inr (15, fs_3))] H := hP
  replace hD : va_D A [(h0, .inr (15, fs_3))] := hD
  replace hK : va_K (dC, dI) vwCl [] s := hK
  have hw_5 : r_2 = 1 := hw; clear hw
  subst hw_5
  refine lv_if_ne (tgt := 72) hx hb dX15_shifted_22 (by decide) (fun _ => ?_) (fun hc => absurd hc (by decide))
  refine lv_iconst (v := 0) hx hb dX15_shifted_72 (by decide) ?_
  have hP9 := hP.sub (ws' := [(h0, .inr (15, fs_3))]) [0] rfl
  have hD9 := hD.sub (ws' := [(h0, .inr (15, fs_3))]) [0] (by decide) rfl
  have hK9 := hK.sub (tys' := []) [] rfl
  rw [← hAe] at hD9
  refine W.widen (k := 0) (n := 0) (Nat.le_of_ble_eq_true rfl) (Nat.le_of_ble_eq_true rfl) ?_
  subst hAe
  exact (W.iret (v := 0) hx hb hr (fun t ht hW => ⟨⟨0, (), rfl, trivial, fs_3, by rw [ht]; exact hP9, va_K.moved hW.alike hK9, hD9, (mF.sub hp_4 [0] rfl)⟩, hS.F ht⟩) hS.2.2 dX15_shifted_73)
def wv_m_stretched : List Cond := .code yX15_stretched cX15_stretched 6 (some .int) :: ([.fieldLink RX15 296 "MotionSignsModel" "thrown" "I", .fieldLink RX15 443 "MotionSignsModel" "kind" "I", .methodLink RX15 424 yX15_bad, .instanceMethod yX15_bad, .selects RX15 yX15_bad yX15_bad, .initialized RX15] ++ (wsX150 ++ (wv_m_bad3 ++ ([]))))
theorem gw_m_stretched : wv_m_stretched.all goodWord = true := by decide +kernel
theorem in_m_stretched_X15 : ∀ w ∈ wsX150, w ∈ wv_m_stretched := fun _ h => List.mem_cons_of_mem _ (List.mem_append_right _ (List.mem_append_left _ h))
theorem g_m_stretched_m_bad3_424 : GoodIn wv_m_stretched (wsV RX15 424 RX15 yX15_bad wv_m_bad3) := goodIn_app (goodIn_of _ (by decide +kernel)) (goodIn_sub (fun _ h => List.mem_cons_of_mem _ (List.mem_append_right _ (List.mem_append_right _ (List.mem_append_left _ h)))) gw_m_bad3)
set_option maxHeartbeats 4000000 in
set_option maxRecDepth 100000 in
/-- the reference: stretched on a fresh object -/
theorem c_m_stretched (l : Launch) (dC : Nat → ClassId) (dI : Nat → Nat → Nat) (h0 : Nat) (qfed : Nat) (qf : Nat) (qfd : Nat) (qs : Nat) (qk : Nat) (x0 : Int32) (x1 : Int32) (fs_h0 : List Value) (hF_h0 : mF 89 [(0, .int 0), (18, .int 0), (19, .int 0), (20, .int (-1)), (21, .int 0), (22, .int 0), (23, .int 0), (24, .int 0), (25, .int 0), (27, .int 0), (28, .int 0), (29, .int 0), (35, .int 0), (17, .int (-1)), (26, .ref qfed), (30, .ref qf), (31, .ref qfd), (33, .ref qs), (36, .ref qk)] fs_h0) (sz : Nat) : Met l yX15_stretched wv_m_stretched ({ frames := 1, cells := 0, slots := 0, locals := 22 }) (va_Pc [.ref h0, .int x0, .int x1] (fun U => U.heap.size = sz ∧ va_P (dC, dI) vwCl [(h0, .inr (15, fs_h0))] U.heap ∧ va_K (dC, dI) vwCl [] U ∧ va_D (fun _ => True) [(h0, .inr (15, fs_h0))] ∧ w_N U)) (va_Qi (fun (r : Int32) (_ : Unit) => True) (fun _ t => ∃ (fs_e : List Value), va_P (dC, dI) vwCl [(h0, .inr (15, fs_e))] t.heap ∧ va_K (dC, dI) vwCl [] t ∧ va_D (va_A [(h0, .inr (15, fs_h0))] sz) [(h0, .inr (15, fs_e))] ∧ mF 89 [(0, .int 3)] fs_e) (va_A [(h0, .inr (15, fs_h0))] sz)) 0 0 (va_A [(h0, .inr (15, fs_h0))] sz) := by
  refine Met.ofW (cc := cX15_stretched) (maxL := 6) (ret := (some .int)) (by decide) rfl ?_
  intro p e s m args below meth c s₁ B hml hv
  obtain ⟨rfl, hsz, hP, hK, hD0, hN⟩ := hv
  have hx := B.exec
  have hb := B.bytes
  have hr := B.returns
  have hts := atoms_spec (ws := wv_m_stretched) B.pre
  have hown : s.vm.findClass RX15 = some m.cls := findClass_of_methodNamed B.named
  have hlocks := B.notSynchronized
  subst hsz
  have hD := hD0.self (sz := s.heap.size)
  generalize hAe : va_A [(h0, .inr (15, fs_h0))] s.heap.size = A at hD ⊢
  have hA : ∀ q : Nat, s.heap.size ≤ q → A q := fun q h => by rw [← hAe]; exact Or.inr h
  obtain ⟨H, hHe, hP, hS⟩ : ∃ H : Heap, H = s.heap ∧ va_P (dC, dI) vwCl [(h0, .inr (15, fs_h0))] H ∧ va_S A s.heap H [] := ⟨s.heap, rfl, hP, va_S.rf⟩
  have hl := lv_entry ([.ref h0, .int x0, .int x1]) (n := 6) (Nat.le_of_ble_eq_true rfl)
  rw [lg_entry_eq]
  generalize (lg_sl ([.ref h0, .int x0, .int x1]) ++ List.replicate (6 - (lg_sl ([.ref h0, .int x0, .int x1])).length) Slot.unset).toArray = ls at hl ⊢
  have hl : lv_has ls 6 [(0, .ref h0), (1, .int x0), (2, .int x1)] := hl
  rw [← hHe]; clear hHe
  refine lv_aload_n hx hb dX15_stretched_0 rfl (lv_at hl 0 rfl) ?_
  refine lv_iconst (v := 0) hx hb dX15_stretched_1 (by decide) ?_
  refine va_put (D := (dC, dI)) (ci := 15) (v := .int 0) (ty := .int) (C := RX15) (T := TX15) (N := 89) hx hb hts (in_m_stretched_X15) tyX15 tyX15_ok nmX15 hown hK hP hD hS 0 rfl rfl 0 (by decide) (hts (.fieldLink RX15 296 "MotionSignsModel" "thrown" "I") (List.mem_of_getElem? (i := 1) rfl)) (fun _ h9 => h9) rfl (tyX15_ok 0 (by decide)) rfl rfl (mF.lt hF_h0 (by decide)) dX15_stretched_2 ?_
  clear hP hD hS; try clear H
  intro H locs hP hD hS
  have hF0 := mF.sub (L' := [(18, .int 0), (19, .int 0), (20, .int (-1)), (21, .int 0), (22, .int 0), (23, .int 0), (24, .int 0), (25, .int 0), (27, .int 0), (28, .int 0), (29, .int 0), (35, .int 0), (17, .int (-1)), (26, .ref qfed), (30, .ref qf), (31, .ref qfd), (33, .ref qs), (36, .ref qk)]) hF_h0 [1, 2, 3, 4, 5, 6, 7, 8, 9, 10, 11, 12, 13, 14, 15, 16, 17, 18] rfl
  have hF1 := mF.put hF0 0 (.int 0) (by decide) rfl
  replace hP : va_P (dC, dI) vwCl [(h0, .inr (15, (fs_h0.set 0 (.int 0))))] H := hP
  replace hD : va_D A [(h0, .inr (15, (fs_h0.set 0 (.int 0))))] := hD
  generalize fs_h0.set 0 (.int 0) = fs_1 at hP hD hF1
  replace hF_h0 : mF 89 [(0, .int 0), (18, .int 0), (19, .int 0), (20, .int (-1)), (21, .int 0), (22, .int 0), (23, .int 0), (24, .int 0), (25, .int 0), (27, .int 0), (28, .int 0), (29, .int 0), (35, .int 0), (17, .int (-1)), (26, .ref qfed), (30, .ref qf), (31, .ref qfd), (33, .ref qs), (36, .ref qk)] fs_1 := hF1
  clear hF1 hF0
  replace hP : va_P (dC, dI) vwCl [(h0, .inr (15, fs_1))] H := hP
  replace hD : va_D A [(h0, .inr (15, fs_1))] := hD
  refine lv_aload_n hx hb dX15_stretched_5 rfl (lv_at hl 0 rfl) ?_
  refine lv_aload_n hx hb dX15_stretched_6 rfl (lv_at hl 0 rfl) ?_
  refine va_get (D := (dC, dI)) (ci := 15) (v := .int 0) (C := RX15) (T := TX15) (N := 89) hx hb hts (in_m_stretched_X15) hown hK hP 0 rfl rfl 28 (by decide) (hts (.fieldLink RX15 443 "MotionSignsModel" "kind" "I") (List.mem_of_getElem? (i := 2) rfl)) (fun _ h9 => h9) (mF.get hF_h0 10 rfl) dX15_stretched_7 ?_
  refine lv_if_ne (tgt := 17) hx hb dX15_stretched_10 (by decide) (fun hc => absurd (by decide) hc) (fun _ => ?_)
  refine lv_iconst (v := 1) hx hb dX15_stretched_13 (by decide) ?_
  refine lv_goto (tgt := 18) hx hb dX15_stretched_14 (by decide) ?_
  refine lv_iconst (v := 3) hx hb dX15_stretched_18 (by decide) ?_
  have hPc := hP.sub (ws' := [(h0, .inr (15, fs_1))]) [0] rfl
  have hDc := hD.sub (ws' := [(h0, .inr (15, fs_1))]) [0] (by decide) rfl
  have hKc := hK.sub (tys' := []) [] rfl
  have hFc := va_free (wc := [(h0, .inr (15, fs_1))]) hD hS hA [0] rfl
  refine va_calli (va_runV (As := [.int 1, .int 3]) (rest := []) ⟨hx, hb, hml, hown, hts⟩ (c_m_bad3 l dC dI h0 qfed qf qfd qs qk fs_1 (mF.sub hF_h0 [0, 1, 2, 3, 4, 5, 6, 7, 8, 9, 10, 11, 12, 13, 14, 15, 16, 17, 18] rfl) H.size) (cwV 2 hts g_m_stretched_m_bad3_424 rfl rfl rfl hv_X15_bad ⟨Nat.le_of_ble_eq_true rfl, Nat.le_of_ble_eq_true rfl⟩) ⟨fun a U g mk q => by obtain ⟨q0, q1, qP, qK, qD, qE0⟩ := q; exact ⟨q0, q1, qP, va_K.moved (u := U) (U := U.calling g mk a) (Vm.Alike.refl U.vm) qK, qD, w_N.same rfl qE0⟩, va_recv hKc hPc (ci := 15) (q0 := 0) rfl rfl, fun U hU hW => ⟨rfl, by rw [hU], by rw [hU]; exact hPc, va_K.moved hW.alike hKc, hDc.weaken (fun _ _ _ _ => trivial), w_N.warm hW hN⟩⟩ rfl rfl hl.1 rfl (lv_room (Nat.le_of_ble_eq_true rfl)) dX15_stretched_19 ⟨(Nat.le_of_ble_eq_true rfl), (Nat.le_of_ble_eq_true rfl)⟩) hS (fun q _ h => hFc q h) hFc (fun r_2 u t H1 locs1 ht hvm hw hB hz1 hk1 hS1 => ?_)
  obtain ⟨fs_3, hP1, hK1, hD1, hp_4⟩ := hB
  rw [ht] at hP1
  have hK1 := va_K.moved hvm.symm hK1
  have hJ := va_join (wr := []) (w1 := [(h0, .inr (15, fs_3))]) hP hD [0] [] rfl rfl (by decide) (by decide) hk1 hFc hP1 hD1
  clear hP hD hPc hDc hKc hFc hz1; try clear hk1
  obtain ⟨hP, hD⟩ := hJ
  replace hK := (hK.sub (tys' := []) [] rfl).app (hK1.sub (tys' := []) [] rfl)
  clear hP1 hK1 hD1 hvm ht hS; try clear t
  try clear H
  revert hS1
  intro hS
  generalize H1 = H at hP hS ⊢; try clear H1
  replace hP : va_P (dC, dI) vwCl [(h0, .inr (15, fs_3))] H := hP
  replace hD : va_D A [(h0, .inr (15, fs_3))] := hD
  replace hK : va_K (dC, dI) vwCl [] s := hK
  have hw_5 : r_2 = 1 := hw; clear hw
  subst hw_5
  refine lv_if_eq (tgt := 27) hx hb dX15_stretched_22 (by decide) (fun hc => absurd hc (by decide)) (fun _ => ?_)
  refine lv_iconst (v := 0) hx hb dX15_stretched_25 (by decide) ?_
  have hP9 := hP.sub (ws' := [(h0, .inr (15, fs_3))]) [0] rfl
  have hD9 := hD.sub (ws' := [(h0, .inr (15, fs_3))]) [0] (by decide) rfl
  have hK9 := hK.sub (tys' := []) [] rfl
  rw [← hAe] at hD9
  refine W.widen (k := 0) (n := 0) (Nat.le_of_ble_eq_true rfl) (Nat.le_of_ble_eq_true rfl) ?_
  subst hAe
  exact (W.iret (v := 0) hx hb hr (fun t ht hW => ⟨⟨0, (), rfl, trivial, fs_3, by rw [ht]; exact hP9, va_K.moved hW.alike hK9, hD9, (mF.sub hp_4 [0] rfl)⟩, hS.F ht⟩) hS.2.2 dX15_stretched_26)
def wv_m_wave : List Cond := .code yX15_wave cX15_wave 6 (some .int) :: ([.fieldLink RX15 296 "MotionSignsModel" "thrown" "I", .fieldLink RX15 443 "MotionSignsModel" "kind" "I", .methodLink RX15 424 yX15_bad, .instanceMethod yX15_bad, .selects RX15 yX15_bad yX15_bad, .initialized RX15] ++ (wsX150 ++ (wv_m_bad2 ++ ([]))))
theorem gw_m_wave : wv_m_wave.all goodWord = true := by decide +kernel
theorem in_m_wave_X15 : ∀ w ∈ wsX150, w ∈ wv_m_wave := fun _ h => List.mem_cons_of_mem _ (List.mem_append_right _ (List.mem_append_left _ h))
theorem g_m_wave_m_bad2_424 : GoodIn wv_m_wave (wsV RX15 424 RX15 yX15_bad wv_m_bad2) := goodIn_app (goodIn_of _ (by decide +kernel)) (goodIn_sub (fun _ h => List.mem_cons_of_mem _ (List.mem_append_right _ (List.mem_append_right _ (List.mem_append_left _ h)))) gw_m_bad2)
set_option maxHeartbeats 4000000 in
set_option maxRecDepth 100000 in
/-- the reference: wave on a fresh object -/
theorem c_m_wave (l : Launch) (dC : Nat → ClassId) (dI : Nat → Nat → Nat) (h0 : Nat) (qfed : Nat) (qf : Nat) (qfd : Nat) (qs : Nat) (qk : Nat) (x0 : Int32) (x1 : Int32) (fs_h0 : List Value) (hF_h0 : mF 89 [(0, .int 0), (18, .int 0), (19, .int 0), (20, .int (-1)), (21, .int 0), (22, .int 0), (23, .int 0), (24, .int 0), (25, .int 0), (27, .int 0), (28, .int 0), (29, .int 0), (35, .int 0), (17, .int (-1)), (26, .ref qfed), (30, .ref qf), (31, .ref qfd), (33, .ref qs), (36, .ref qk)] fs_h0) (sz : Nat) : Met l yX15_wave wv_m_wave ({ frames := 1, cells := 0, slots := 0, locals := 22 }) (va_Pc [.ref h0, .int x0, .int x1] (fun U => U.heap.size = sz ∧ va_P (dC, dI) vwCl [(h0, .inr (15, fs_h0))] U.heap ∧ va_K (dC, dI) vwCl [] U ∧ va_D (fun _ => True) [(h0, .inr (15, fs_h0))] ∧ w_N U)) (va_Qi (fun (r : Int32) (_ : Unit) => True) (fun _ t => ∃ (fs_e : List Value), va_P (dC, dI) vwCl [(h0, .inr (15, fs_e))] t.heap ∧ va_K (dC, dI) vwCl [] t ∧ va_D (va_A [(h0, .inr (15, fs_h0))] sz) [(h0, .inr (15, fs_e))] ∧ mF 89 [(0, .int 2)] fs_e) (va_A [(h0, .inr (15, fs_h0))] sz)) 0 0 (va_A [(h0, .inr (15, fs_h0))] sz) := by
  refine Met.ofW (cc := cX15_wave) (maxL := 6) (ret := (some .int)) (by decide) rfl ?_
  intro p e s m args below meth c s₁ B hml hv
  obtain ⟨rfl, hsz, hP, hK, hD0, hN⟩ := hv
  have hx := B.exec
  have hb := B.bytes
  have hr := B.returns
  have hts := atoms_spec (ws := wv_m_wave) B.pre
  have hown : s.vm.findClass RX15 = some m.cls := findClass_of_methodNamed B.named
  have hlocks := B.notSynchronized
  subst hsz
  have hD := hD0.self (sz := s.heap.size)
  generalize hAe : va_A [(h0, .inr (15, fs_h0))] s.heap.size = A at hD ⊢
  have hA : ∀ q : Nat, s.heap.size ≤ q → A q := fun q h => by rw [← hAe]; exact Or.inr h
  obtain ⟨H, hHe, hP, hS⟩ : ∃ H : Heap, H = s.heap ∧ va_P (dC, dI) vwCl [(h0, .inr (15, fs_h0))] H ∧ va_S A s.heap H [] := ⟨s.heap, rfl, hP, va_S.rf⟩
  have hl := lv_entry ([.ref h0, .int x0, .int x1]) (n := 6) (Nat.le_of_ble_eq_true rfl)
  rw [lg_entry_eq]
  generalize (lg_sl ([.ref h0, .int x0, .int x1]) ++ List.replicate (6 - (lg_sl ([.ref h0, .int x0, .int x1])).length) Slot.unset).toArray = ls at hl ⊢
  have hl : lv_has ls 6 [(0, .ref h0), (1, .int x0), (2, .int x1)] := hl
  rw [← hHe]; clear hHe
  refine lv_aload_n hx hb dX15_wave_0 rfl (lv_at hl 0 rfl) ?_
  refine lv_iconst (v := 0) hx hb dX15_wave_1 (by decide) ?_
  refine va_put (D := (dC, dI)) (ci := 15) (v := .int 0) (ty := .int) (C := RX15) (T := TX15) (N := 89) hx hb hts (in_m_wave_X15) tyX15 tyX15_ok nmX15 hown hK hP hD hS 0 rfl rfl 0 (by decide) (hts (.fieldLink RX15 296 "MotionSignsModel" "thrown" "I") (List.mem_of_getElem? (i := 1) rfl)) (fun _ h9 => h9) rfl (tyX15_ok 0 (by decide)) rfl rfl (mF.lt hF_h0 (by decide)) dX15_wave_2 ?_
  clear hP hD hS; try clear H
  intro H locs hP hD hS
  have hF0 := mF.sub (L' := [(18, .int 0), (19, .int 0), (20, .int (-1)), (21, .int 0), (22, .int 0), (23, .int 0), (24, .int 0), (25, .int 0), (27, .int 0), (28, .int 0), (29, .int 0), (35, .int 0), (17, .int (-1)), (26, .ref qfed), (30, .ref qf), (31, .ref qfd), (33, .ref qs), (36, .ref qk)]) hF_h0 [1, 2, 3, 4, 5, 6, 7, 8, 9, 10, 11, 12, 13, 14, 15, 16, 17, 18] rfl
  have hF1 := mF.put hF0 0 (.int 0) (by decide) rfl
  replace hP : va_P (dC, dI) vwCl [(h0, .inr (15, (fs_h0.set 0 (.int 0))))] H := hP
  replace hD : va_D A [(h0, .inr (15, (fs_h0.set 0 (.int 0))))] := hD
  generalize fs_h0.set 0 (.int 0) = fs_1 at hP hD hF1
  replace hF_h0 : mF 89 [(0, .int 0), (18, .int 0), (19, .int 0), (20, .int (-1)), (21, .int 0), (22, .int 0), (23, .int 0), (24, .int 0), (25, .int 0), (27, .int 0), (28, .int 0), (29, .int 0), (35, .int 0), (17, .int (-1)), (26, .ref qfed), (30, .ref qf), (31, .ref qfd), (33, .ref qs), (36, .ref qk)] fs_1 := hF1
  clear hF1 hF0
  replace hP : va_P (dC, dI) vwCl [(h0, .inr (15, fs_1))] H := hP
  replace hD : va_D A [(h0, .inr (15, fs_1))] := hD
  refine lv_aload_n hx hb dX15_wave_5 rfl (lv_at hl 0 rfl) ?_
  refine lv_aload_n hx hb dX15_wave_6 rfl (lv_at hl 0 rfl) ?_
  refine va_get (D := (dC, dI)) (ci := 15) (v := .int 0) (C := RX15) (T := TX15) (N := 89) hx hb hts (in_m_wave_X15) hown hK hP 0 rfl rfl 28 (by decide) (hts (.fieldLink RX15 443 "MotionSignsModel" "kind" "I") (List.mem_of_getElem? (i := 2) rfl)) (fun _ h9 => h9) (mF.get hF_h0 10 rfl) dX15_wave_7 ?_
  refine lv_if_ne (tgt := 17) hx hb dX15_wave_10 (by decide) (fun hc => absurd (by decide) hc) (fun _ => ?_)
  refine lv_iconst (v := 1) hx hb dX15_wave_13 (by decide) ?_
  refine lv_goto (tgt := 18) hx hb dX15_wave_14 (by decide) ?_
  refine lv_iconst (v := 2) hx hb dX15_wave_18 (by decide) ?_
  have hPc := hP.sub (ws' := [(h0, .inr (15, fs_1))]) [0] rfl
  have hDc := hD.sub (ws' := [(h0, .inr (15, fs_1))]) [0] (by decide) rfl
  have hKc := hK.sub (tys' := []) [] rfl
  have hFc := va_free (wc := [(h0, .inr (15, fs_1))]) hD hS hA [0] rfl
  refine va_calli (va_runV (As := [.int 1, .int 2]) (rest := []) ⟨hx, hb, hml, hown, hts⟩ (c_m_bad2 l dC dI h0 qfed qf qfd qs qk fs_1 (mF.sub hF_h0 [0, 1, 2, 3, 4, 5, 6, 7, 8, 9, 10, 11, 12, 13, 14, 15, 16, 17, 18] rfl) H.size) (cwV 2 hts g_m_wave_m_bad2_424 rfl rfl rfl hv_X15_bad ⟨Nat.le_of_ble_eq_true rfl, Nat.le_of_ble_eq_true rfl⟩) ⟨fun a U g mk q => by obtain ⟨q0, q1, qP, qK, qD, qE0⟩ := q; exact ⟨q0, q1, qP, va_K.moved (u := U) (U := U.calling g mk a) (Vm.Alike.refl U.vm) qK, qD, w_N.same rfl qE0⟩, va_recv hKc hPc (ci := 15) (q0 := 0) rfl rfl, fun U hU hW => ⟨rfl, by rw [hU], by rw [hU]; exact hPc, va_K.moved hW.alike hKc, hDc.weaken (fun _ _ _ _ => trivial), w_N.warm hW hN⟩⟩ rfl rfl hl.1 rfl (lv_room (Nat.le_of_ble_eq_true rfl)) dX15_wave_19 ⟨(Nat.le_of_ble_eq_true rfl), (Nat.le_of_ble_eq_true rfl)⟩) hS (fun q _ h => hFc q h) hFc (fun r_2 u t H1 locs1 ht hvm hw hB hz1 hk1 hS1 => ?_)
  obtain ⟨fs_3, hP1, hK1, hD1, hp_4⟩ := hB
  rw [ht] at hP1
  have hK1 := va_K.moved hvm.symm hK1
  have hJ := va_join (wr := []) (w1 := [(h0, .inr (15, fs_3))]) hP hD [0] [] rfl rfl (by decide) (by decide) hk1 hFc hP1 hD1
  clear hP hD hPc hDc hKc hFc hz1; try clear hk1
  obtain ⟨hP, hD⟩ := hJ
  replace hK := (hK.sub (tys' := []) [] rfl).app (hK1.sub (tys' := []) [] rfl)
  clear hP1 hK1 hD1 hvm ht hS; try clear t
  try clear H
  revert hS1
  intro hS
  generalize H1 = H at hP hS ⊢; try clear H1
  replace hP : va_P (dC, dI) vwCl [(h0, .inr (15, fs_3))] H := hP
  replace hD : va_D A [(h0, .inr (15, fs_3))] := hD
  replace hK : va_K (dC, dI) vwCl [] s := hK
  have hw_5 : r_2 = 1 := hw; clear hw
  subst hw_5
  refine lv_if_eq (tgt := 27) hx hb dX15_wave_22 (by decide) (fun hc => absurd hc (by decide)) (fun _ => ?_)
  refine lv_iconst (v := 0) hx hb dX15_wave_25 (by decide) ?_
  have hP9 := hP.sub (ws' := [(h0, .inr (15, fs_3))]) [0] rfl
  have hD9 := hD.sub (ws' := [(h0, .inr (15, fs_3))]) [0] (by decide) rfl
  have hK9 := hK.sub (tys' := []) [] rfl
  rw [← hAe] at hD9
  refine W.widen (k := 0) (n := 0) (Nat.le_of_ble_eq_true rfl) (Nat.le_of_ble_eq_true rfl) ?_
  subst hAe
  exact (W.iret (v := 0) hx hb hr (fun t ht hW => ⟨⟨0, (), rfl, trivial, fs_3, by rw [ht]; exact hP9, va_K.moved hW.alike hK9, hD9, (mF.sub hp_4 [0] rfl)⟩, hS.F ht⟩) hS.2.2 dX15_wave_26)
def wv_m_lines : List Cond := .code yX15_lines cX15_lines 4 (some .int) :: ([.fieldLink RX15 296 "MotionSignsModel" "thrown" "I", .fieldLink RX15 443 "MotionSignsModel" "kind" "I", .methodLink RX15 424 yX15_bad, .instanceMethod yX15_bad, .selects RX15 yX15_bad yX15_bad, .initialized RX15] ++ (wsX150 ++ (wv_m_bad2 ++ ([]))))
theorem gw_m_lines : wv_m_lines.all goodWord = true := by decide +kernel
theorem in_m_lines_X15 : ∀ w ∈ wsX150, w ∈ wv_m_lines := fun _ h => List.mem_cons_of_mem _ (List.mem_append_right _ (List.mem_append_left _ h))
theorem g_m_lines_m_bad2_424 : GoodIn wv_m_lines (wsV RX15 424 RX15 yX15_bad wv_m_bad2) := goodIn_app (goodIn_of _ (by decide +kernel)) (goodIn_sub (fun _ h => List.mem_cons_of_mem _ (List.mem_append_right _ (List.mem_append_right _ (List.mem_append_left _ h)))) gw_m_bad2)
set_option maxHeartbeats 4000000 in
set_option maxRecDepth 100000 in
/-- the reference: lines on a fresh object -/
theorem c_m_lines (l : Launch) (dC : Nat → ClassId) (dI : Nat → Nat → Nat) (h0 : Nat) (qfed : Nat) (qf : Nat) (qfd : Nat) (qs : Nat) (qk : Nat) (x0 : Int32) (fs_h0 : List Value) (hF_h0 : mF 89 [(0, .int 0), (18, .int 0), (19, .int 0), (20, .int (-1)), (21, .int 0), (22, .int 0), (23, .int 0), (24, .int 0), (25, .int 0), (27, .int 0), (28, .int 0), (29, .int 0), (35, .int 0), (17, .int (-1)), (26, .ref qfed), (30, .ref qf), (31, .ref qfd), (33, .ref qs), (36, .ref qk)] fs_h0) (sz : Nat) : Met l yX15_lines wv_m_lines ({ frames := 1, cells := 0, slots := 0, locals := 22 }) (va_Pc [.ref h0, .int x0] (fun U => U.heap.size = sz ∧ va_P (dC, dI) vwCl [(h0, .inr (15, fs_h0))] U.heap ∧ va_K (dC, dI) vwCl [] U ∧ va_D (fun _ => True) [(h0, .inr (15, fs_h0))] ∧ w_N U)) (va_Qi (fun (r : Int32) (_ : Unit) => True) (fun _ t => ∃ (fs_e : List Value), va_P (dC, dI) vwCl [(h0, .inr (15, fs_e))] t.heap ∧ va_K (dC, dI) vwCl [] t ∧ va_D (va_A [(h0, .inr (15, fs_h0))] sz) [(h0, .inr (15, fs_e))] ∧ mF 89 [(0, .int 2)] fs_e) (va_A [(h0, .inr (15, fs_h0))] sz)) 0 0 (va_A [(h0, .inr (15, fs_h0))] sz) := by
  refine Met.ofW (cc := cX15_lines) (maxL := 4) (ret := (some .int)) (by decide) rfl ?_
  intro p e s m args below meth c s₁ B hml hv
  obtain ⟨rfl, hsz, hP, hK, hD0, hN⟩ := hv
  have hx := B.exec
  have hb := B.bytes
  have hr := B.returns
  have hts := atoms_spec (ws := wv_m_lines) B.pre
  have hown : s.vm.findClass RX15 = some m.cls := findClass_of_methodNamed B.named
  have hlocks := B.notSynchronized
  subst hsz
  have hD := hD0.self (sz := s.heap.size)
  generalize hAe : va_A [(h0, .inr (15, fs_h0))] s.heap.size = A at hD ⊢
  have hA : ∀ q : Nat, s.heap.size ≤ q → A q := fun q h => by rw [← hAe]; exact Or.inr h
  obtain ⟨H, hHe, hP, hS⟩ : ∃ H : Heap, H = s.heap ∧ va_P (dC, dI) vwCl [(h0, .inr (15, fs_h0))] H ∧ va_S A s.heap H [] := ⟨s.heap, rfl, hP, va_S.rf⟩
  have hl := lv_entry ([.ref h0, .int x0]) (n := 4) (Nat.le_of_ble_eq_true rfl)
  rw [lg_entry_eq]
  generalize (lg_sl ([.ref h0, .int x0]) ++ List.replicate (4 - (lg_sl ([.ref h0, .int x0])).length) Slot.unset).toArray = ls at hl ⊢
  have hl : lv_has ls 4 [(0, .ref h0), (1, .int x0)] := hl
  rw [← hHe]; clear hHe
  refine lv_aload_n hx hb dX15_lines_0 rfl (lv_at hl 0 rfl) ?_
  refine lv_iconst (v := 0) hx hb dX15_lines_1 (by decide) ?_
  refine va_put (D := (dC, dI)) (ci := 15) (v := .int 0) (ty := .int) (C := RX15) (T := TX15) (N := 89) hx hb hts (in_m_lines_X15) tyX15 tyX15_ok nmX15 hown hK hP hD hS 0 rfl rfl 0 (by decide) (hts (.fieldLink RX15 296 "MotionSignsModel" "thrown" "I") (List.mem_of_getElem? (i := 1) rfl)) (fun _ h9 => h9) rfl (tyX15_ok 0 (by decide)) rfl rfl (mF.lt hF_h0 (by decide)) dX15_lines_2 ?_
  clear hP hD hS; try clear H
  intro H locs hP hD hS
  have hF0 := mF.sub (L' := [(18, .int 0), (19, .int 0), (20, .int (-1)), (21, .int 0), (22, .int 0), (23, .int 0), (24, .int 0), (25, .int 0), (27, .int 0), (28, .int 0), (29, .int 0), (35, .int 0), (17, .int (-1)), (26, .ref qfed), (30, .ref qf), (31, .ref qfd), (33, .ref qs), (36, .ref qk)]) hF_h0 [1, 2, 3, 4, 5, 6, 7, 8, 9, 10, 11, 12, 13, 14, 15, 16, 17, 18] rfl
  have hF1 := mF.put hF0 0 (.int 0) (by decide) rfl
  replace hP : va_P (dC, dI) vwCl [(h0, .inr (15, (fs_h0.set 0 (.int 0))))] H := hP
  replace hD : va_D A [(h0, .inr (15, (fs_h0.set 0 (.int 0))))] := hD
  generalize fs_h0.set 0 (.int 0) = fs_1 at hP hD hF1
  replace hF_h0 : mF 89 [(0, .int 0), (18, .int 0), (19, .int 0), (20, .int (-1)), (21, .int 0), (22, .int 0), (23, .int 0), (24, .int 0), (25, .int 0), (27, .int 0), (28, .int 0), (29, .int 0), (35, .int 0), (17, .int (-1)), (26, .ref qfed), (30, .ref qf), (31, .ref qfd), (33, .ref qs), (36, .ref qk)] fs_1 := hF1
  clear hF1 hF0
  replace hP : va_P (dC, dI) vwCl [(h0, .inr (15, fs_1))] H := hP
  replace hD : va_D A [(h0, .inr (15, fs_1))] := hD
  refine lv_aload_n hx hb dX15_lines_5 rfl (lv_at hl 0 rfl) ?_
  refine lv_aload_n hx hb dX15_lines_6 rfl (lv_at hl 0 rfl) ?_
  refine va_get (D := (dC, dI)) (ci := 15) (v := .int 0) (C := RX15) (T := TX15) (N := 89) hx hb hts (in_m_lines_X15) hown hK hP 0 rfl rfl 28 (by decide) (hts (.fieldLink RX15 443 "MotionSignsModel" "kind" "I") (List.mem_of_getElem? (i := 2) rfl)) (fun _ h9 => h9) (mF.get hF_h0 10 rfl) dX15_lines_7 ?_
  refine lv_if_ne (tgt := 17) hx hb dX15_lines_10 (by decide) (fun hc => absurd (by decide) hc) (fun _ => ?_)
  refine lv_iconst (v := 1) hx hb dX15_lines_13 (by decide) ?_
  refine lv_goto (tgt := 18) hx hb dX15_lines_14 (by decide) ?_
  refine lv_iconst (v := 2) hx hb dX15_lines_18 (by decide) ?_
  have hPc := hP.sub (ws' := [(h0, .inr (15, fs_1))]) [0] rfl
  have hDc := hD.sub (ws' := [(h0, .inr (15, fs_1))]) [0] (by decide) rfl
  have hKc := hK.sub (tys' := []) [] rfl
  have hFc := va_free (wc := [(h0, .inr (15, fs_1))]) hD hS hA [0] rfl
  refine va_calli (va_runV (As := [.int 1, .int 2]) (rest := []) ⟨hx, hb, hml, hown, hts⟩ (c_m_bad2 l dC dI h0 qfed qf qfd qs qk fs_1 (mF.sub hF_h0 [0, 1, 2, 3, 4, 5, 6, 7, 8, 9, 10, 11, 12, 13, 14, 15, 16, 17, 18] rfl) H.size) (cwV 2 hts g_m_lines_m_bad2_424 rfl rfl rfl hv_X15_bad ⟨Nat.le_of_ble_eq_true rfl, Nat.le_of_ble_eq_true rfl⟩) ⟨fun a U g mk q => by obtain ⟨q0, q1, qP, qK, qD, qE0⟩ := q; exact ⟨q0, q1, qP, va_K.moved (u := U) (U := U.calling g mk a) (Vm.Alike.refl U.vm) qK, qD, w_N.same rfl qE0⟩, va_recv hKc hPc (ci := 15) (q0 := 0) rfl rfl, fun U hU hW => ⟨rfl, by rw [hU], by rw [hU]; exact hPc, va_K.moved hW.alike hKc, hDc.weaken (fun _ _ _ _ => trivial), w_N.warm hW hN⟩⟩ rfl rfl hl.1 rfl (lv_room (Nat.le_of_ble_eq_true rfl)) dX15_lines_19 ⟨(Nat.le_of_ble_eq_true rfl), (Nat.le_of_ble_eq_true rfl)⟩) hS (fun q _ h => hFc q h) hFc (fun r_2 u t H1 locs1 ht hvm hw hB hz1 hk1 hS1 => ?_)
  obtain ⟨fs_3, hP1, hK1, hD1, hp_4⟩ := hB
  rw [ht] at hP1
  have hK1 := va_K.moved hvm.symm hK1
  have hJ := va_join (wr := []) (w1 := [(h0, .inr (15, fs_3))]) hP hD [0] [] rfl rfl (by decide) (by decide) hk1 hFc hP1 hD1
  clear hP hD hPc hDc hKc hFc hz1; try clear hk1
  obtain ⟨hP, hD⟩ := hJ
  replace hK := (hK.sub (tys' := []) [] rfl).app (hK1.sub (tys' := []) [] rfl)
  clear hP1 hK1 hD1 hvm ht hS; try clear t
  try clear H
  revert hS1
  intro hS
  generalize H1 = H at hP hS ⊢; try clear H1
  replace hP : va_P (dC, dI) vwCl [(h0, .inr (15, fs_3))] H := hP
  replace hD : va_D A [(h0, .inr (15, fs_3))] := hD
  replace hK : va_K (dC, dI) vwCl [] s := hK
  have hw_5 : r_2 = 1 := hw; clear hw
  subst hw_5
  refine lv_if_ne (tgt := 55) hx hb dX15_lines_22 (by decide) (fun _ => ?_) (fun hc => absurd hc (by decide))
  refine lv_iconst (v := 0) hx hb dX15_lines_55 (by decide) ?_
  have hP9 := hP.sub (ws' := [(h0, .inr (15, fs_3))]) [0] rfl
  have hD9 := hD.sub (ws' := [(h0, .inr (15, fs_3))]) [0] (by decide) rfl
  have hK9 := hK.sub (tys' := []) [] rfl
  rw [← hAe] at hD9
  refine W.widen (k := 0) (n := 0) (Nat.le_of_ble_eq_true rfl) (Nat.le_of_ble_eq_true rfl) ?_
  subst hAe
  exact (W.iret (v := 0) hx hb hr (fun t ht hW => ⟨⟨0, (), rfl, trivial, fs_3, by rw [ht]; exact hP9, va_K.moved hW.alike hK9, hD9, (mF.sub hp_4 [0] rfl)⟩, hS.F ht⟩) hS.2.2 dX15_lines_56)
def wv_m_field : List Cond := .code yX15_field cX15_field 5 (some .int) :: ([.fieldLink RX15 296 "MotionSignsModel" "thrown" "I", .fieldLink RX15 443 "MotionSignsModel" "kind" "I", .methodLink RX15 424 yX15_bad, .instanceMethod yX15_bad, .selects RX15 yX15_bad yX15_bad, .initialized RX15] ++ (wsX150 ++ (wv_m_bad2 ++ ([]))))
theorem gw_m_field : wv_m_field.all goodWord = true := by decide +kernel
theorem in_m_field_X15 : ∀ w ∈ wsX150, w ∈ wv_m_field := fun _ h => List.mem_cons_of_mem _ (List.mem_append_right _ (List.mem_append_left _ h))
theorem g_m_field_m_bad2_424 : GoodIn wv_m_field (wsV RX15 424 RX15 yX15_bad wv_m_bad2) := goodIn_app (goodIn_of _ (by decide +kernel)) (goodIn_sub (fun _ h => List.mem_cons_of_mem _ (List.mem_append_right _ (List.mem_append_right _ (List.mem_append_left _ h)))) gw_m_bad2)
set_option maxHeartbeats 4000000 in
set_option maxRecDepth 100000 in
/-- the reference: field on a fresh object -/
theorem c_m_field (l : Launch) (dC : Nat → ClassId) (dI : Nat → Nat → Nat) (h0 : Nat) (qfed : Nat) (qf : Nat) (qfd : Nat) (qs : Nat) (qk : Nat) (x0 : Int32) (fs_h0 : List Value) (hF_h0 : mF 89 [(0, .int 0), (18, .int 0), (19, .int 0), (20, .int (-1)), (21, .int 0), (22, .int 0), (23, .int 0), (24, .int 0), (25, .int 0), (27, .int 0), (28, .int 0), (29, .int 0), (35, .int 0), (17, .int (-1)), (26, .ref qfed), (30, .ref qf), (31, .ref qfd), (33, .ref qs), (36, .ref qk)] fs_h0) (sz : Nat) : Met l yX15_field wv_m_field ({ frames := 1, cells := 0, slots := 0, locals := 22 }) (va_Pc [.ref h0, .int x0] (fun U => U.heap.size = sz ∧ va_P (dC, dI) vwCl [(h0, .inr (15, fs_h0))] U.heap ∧ va_K (dC, dI) vwCl [] U ∧ va_D (fun _ => True) [(h0, .inr (15, fs_h0))] ∧ w_N U)) (va_Qi (fun (r : Int32) (_ : Unit) => True) (fun _ t => ∃ (fs_e : List Value), va_P (dC, dI) vwCl [(h0, .inr (15, fs_e))] t.heap ∧ va_K (dC, dI) vwCl [] t ∧ va_D (va_A [(h0, .inr (15, fs_h0))] sz) [(h0, .inr (15, fs_e))] ∧ mF 89 [(0, .int 2)] fs_e) (va_A [(h0, .inr (15, fs_h0))] sz)) 0 0 (va_A [(h0, .inr (15, fs_h0))] sz) := by
  refine Met.ofW (cc := cX15_field) (maxL := 5) (ret := (some .int)) (by decide) rfl ?_
  intro p e s m args below meth c s₁ B hml hv
  obtain ⟨rfl, hsz, hP, hK, hD0, hN⟩ := hv
  have hx := B.exec
  have hb := B.bytes
  have hr := B.returns
  have hts := atoms_spec (ws := wv_m_field) B.pre
  have hown : s.vm.findClass RX15 = some m.cls := findClass_of_methodNamed B.named
  have hlocks := B.notSynchronized
  subst hsz
  have hD := hD0.self (sz := s.heap.size)
  generalize hAe : va_A [(h0, .inr (15, fs_h0))] s.heap.size = A at hD ⊢
  have hA : ∀ q : Nat, s.heap.size ≤ q → A q := fun q h => by rw [← hAe]; exact Or.inr h
  obtain ⟨H, hHe, hP, hS⟩ : ∃ H : Heap, H = s.heap ∧ va_P (dC, dI) vwCl [(h0, .inr (15, fs_h0))] H ∧ va_S A s.heap H [] := ⟨s.heap, rfl, hP, va_S.rf⟩
  have hl := lv_entry ([.ref h0, .int x0]) (n := 5) (Nat.le_of_ble_eq_true rfl)
  rw [lg_entry_eq]
  generalize (lg_sl ([.ref h0, .int x0]) ++ List.replicate (5 - (lg_sl ([.ref h0, .int x0])).length) Slot.unset).toArray = ls at hl ⊢
  have hl : lv_has ls 5 [(0, .ref h0), (1, .int x0)] := hl
  rw [← hHe]; clear hHe
  refine lv_aload_n hx hb dX15_field_0 rfl (lv_at hl 0 rfl) ?_
  refine lv_iconst (v := 0) hx hb dX15_field_1 (by decide) ?_
  refine va_put (D := (dC, dI)) (ci := 15) (v := .int 0) (ty := .int) (C := RX15) (T := TX15) (N := 89) hx hb hts (in_m_field_X15) tyX15 tyX15_ok nmX15 hown hK hP hD hS 0 rfl rfl 0 (by decide) (hts (.fieldLink RX15 296 "MotionSignsModel" "thrown" "I") (List.mem_of_getElem? (i := 1) rfl)) (fun _ h9 => h9) rfl (tyX15_ok 0 (by decide)) rfl rfl (mF.lt hF_h0 (by decide)) dX15_field_2 ?_
  clear hP hD hS; try clear H
  intro H locs hP hD hS
  have hF0 := mF.sub (L' := [(18, .int 0), (19, .int 0), (20, .int (-1)), (21, .int 0), (22, .int 0), (23, .int 0), (24, .int 0), (25, .int 0), (27, .int 0), (28, .int 0), (29, .int 0), (35, .int 0), (17, .int (-1)), (26, .ref qfed), (30, .ref qf), (31, .ref qfd), (33, .ref qs), (36, .ref qk)]) hF_h0 [1, 2, 3, 4, 5, 6, 7, 8, 9, 10, 11, 12, 13, 14, 15, 16, 17, 18] rfl
  have hF1 := mF.put hF0 0 (.int 0) (by decide) rfl
  replace hP : va_P (dC, dI) vwCl [(h0, .inr (15, (fs_h0.set 0 (.int 0))))] H := hP
  replace hD : va_D A [(h0, .inr (15, (fs_h0.set 0 (.int 0))))] := hD
  generalize fs_h0.set 0 (.int 0) = fs_1 at hP hD hF1
  replace hF_h0 : mF 89 [(0, .int 0), (18, .int 0), (19, .int 0), (20, .int (-1)), (21, .int 0), (22, .int 0), (23, .int 0), (24, .int 0), (25, .int 0), (27, .int 0), (28, .int 0), (29, .int 0), (35, .int 0), (17, .int (-1)), (26, .ref qfed), (30, .ref qf), (31, .ref qfd), (33, .ref qs), (36, .ref qk)] fs_1 := hF1
  clear hF1 hF0
  replace hP : va_P (dC, dI) vwCl [(h0, .inr (15, fs_1))] H := hP
  replace hD : va_D A [(h0, .inr (15, fs_1))] := hD
  refine lv_aload_n hx hb dX15_field_5 rfl (lv_at hl 0 rfl) ?_
  refine lv_aload_n hx hb dX15_field_6 rfl (lv_at hl 0 rfl) ?_
  refine va_get (D := (dC, dI)) (ci := 15) (v := .int 0) (C := RX15) (T := TX15) (N := 89) hx hb hts (in_m_field_X15) hown hK hP 0 rfl rfl 28 (by decide) (hts (.fieldLink RX15 443 "MotionSignsModel" "kind" "I") (List.mem_of_getElem? (i := 2) rfl)) (fun _ h9 => h9) (mF.get hF_h0 10 rfl) dX15_field_7 ?_
  refine lv_if_ne (tgt := 17) hx hb dX15_field_10 (by decide) (fun hc => absurd (by decide) hc) (fun _ => ?_)
  refine lv_iconst (v := 1) hx hb dX15_field_13 (by decide) ?_
  refine lv_goto (tgt := 18) hx hb dX15_field_14 (by decide) ?_
  refine lv_iconst (v := 2) hx hb dX15_field_18 (by decide) ?_
  have hPc := hP.sub (ws' := [(h0, .inr (15, fs_1))]) [0] rfl
  have hDc := hD.sub (ws' := [(h0, .inr (15, fs_1))]) [0] (by decide) rfl
  have hKc := hK.sub (tys' := []) [] rfl
  have hFc := va_free (wc := [(h0, .inr (15, fs_1))]) hD hS hA [0] rfl
  refine va_calli (va_runV (As := [.int 1, .int 2]) (rest := []) ⟨hx, hb, hml, hown, hts⟩ (c_m_bad2 l dC dI h0 qfed qf qfd qs qk fs_1 (mF.sub hF_h0 [0, 1, 2, 3, 4, 5, 6, 7, 8, 9, 10, 11, 12, 13, 14, 15, 16, 17, 18] rfl) H.size) (cwV 2 hts g_m_field_m_bad2_424 rfl rfl rfl hv_X15_bad ⟨Nat.le_of_ble_eq_true rfl, Nat.le_of_ble_eq_true rfl⟩) ⟨fun a U g mk q => by obtain ⟨q0, q1, qP, qK, qD, qE0⟩ := q; exact ⟨q0, q1, qP, va_K.moved (u := U) (U := U.calling g mk a) (Vm.Alike.refl U.vm) qK, qD, w_N.same rfl qE0⟩, va_recv hKc hPc (ci := 15) (q0 := 0) rfl rfl, fun U hU hW => ⟨rfl, by rw [hU], by rw [hU]; exact hPc, va_K.moved hW.alike hKc, hDc.weaken (fun _ _ _ _ => trivial), w_N.warm hW hN⟩⟩ rfl rfl hl.1 rfl (lv_room (Nat.le_of_ble_eq_true rfl)) dX15_field_19 ⟨(Nat.le_of_ble_eq_true rfl), (Nat.le_of_ble_eq_true rfl)⟩) hS (fun q _ h => hFc q h) hFc (fun r_2 u t H1 locs1 ht hvm hw hB hz1 hk1 hS1 => ?_)
  obtain ⟨fs_3, hP1, hK1, hD1, hp_4⟩ := hB
  rw [ht] at hP1
  have hK1 := va_K.moved hvm.symm hK1
  have hJ := va_join (wr := []) (w1 := [(h0, .inr (15, fs_3))]) hP hD [0] [] rfl rfl (by decide) (by decide) hk1 hFc hP1 hD1
  clear hP hD hPc hDc hKc hFc hz1; try clear hk1
  obtain ⟨hP, hD⟩ := hJ
  replace hK := (hK.sub (tys' := []) [] rfl).app (hK1.sub (tys' := []) [] rfl)
  clear hP1 hK1 hD1 hvm ht hS; try clear t
  try clear H
  revert hS1
  intro hS
  generalize H1 = H at hP hS ⊢; try clear H1
  replace hP : va_P (dC, dI) vwCl [(h0, .inr (15, fs_3))] H := hP
  replace hD : va_D A [(h0, .inr (15, fs_3))] := hD
  replace hK : va_K (dC, dI) vwCl [] s := hK
  have hw_5 : r_2 = 1 := hw; clear hw
  subst hw_5
  refine lv_if_ne (tgt := 50) hx hb dX15_field_22 (by decide) (fun _ => ?_) (fun hc => absurd hc (by decide))
  refine lv_iconst (v := 0) hx hb dX15_field_50 (by decide) ?_
  have hP9 := hP.sub (ws' := [(h0, .inr (15, fs_3))]) [0] rfl
  have hD9 := hD.sub (ws' := [(h0, .inr (15, fs_3))]) [0] (by decide) rfl
  have hK9 := hK.sub (tys' := []) [] rfl
  rw [← hAe] at hD9
  refine W.widen (k := 0) (n := 0) (Nat.le_of_ble_eq_true rfl) (Nat.le_of_ble_eq_true rfl) ?_
  subst hAe
  exact (W.iret (v := 0) hx hb hr (fun t ht hW => ⟨⟨0, (), rfl, trivial, fs_3, by rw [ht]; exact hP9, va_K.moved hW.alike hK9, hD9, (mF.sub hp_4 [0] rfl)⟩, hS.F ht⟩) hS.2.2 dX15_field_51)
def wv_m_solution : List Cond := .code yX15_solution cX15_solution 2 (some .int) :: ([.fieldLink RX15 296 "MotionSignsModel" "thrown" "I", .fieldLink RX15 443 "MotionSignsModel" "kind" "I", .methodLink RX15 424 yX15_bad, .instanceMethod yX15_bad, .selects RX15 yX15_bad yX15_bad, .initialized RX15] ++ (wsX150 ++ (wv_m_bad2 ++ ([]))))
theorem gw_m_solution : wv_m_solution.all goodWord = true := by decide +kernel
theorem in_m_solution_X15 : ∀ w ∈ wsX150, w ∈ wv_m_solution := fun _ h => List.mem_cons_of_mem _ (List.mem_append_right _ (List.mem_append_left _ h))
theorem g_m_solution_m_bad2_424 : GoodIn wv_m_solution (wsV RX15 424 RX15 yX15_bad wv_m_bad2) := goodIn_app (goodIn_of _ (by decide +kernel)) (goodIn_sub (fun _ h => List.mem_cons_of_mem _ (List.mem_append_right _ (List.mem_append_right _ (List.mem_append_left _ h)))) gw_m_bad2)
set_option maxHeartbeats 4000000 in
set_option maxRecDepth 100000 in
/-- the reference: solution on a fresh object -/
theorem c_m_solution (l : Launch) (dC : Nat → ClassId) (dI : Nat → Nat → Nat) (h0 : Nat) (qfed : Nat) (qf : Nat) (qfd : Nat) (qs : Nat) (qk : Nat) (x0 : Int32) (fs_h0 : List Value) (hF_h0 : mF 89 [(0, .int 0), (18, .int 0), (19, .int 0), (20, .int (-1)), (21, .int 0), (22, .int 0), (23, .int 0), (24, .int 0), (25, .int 0), (27, .int 0), (28, .int 0), (29, .int 0), (35, .int 0), (17, .int (-1)), (26, .ref qfed), (30, .ref qf), (31, .ref qfd), (33, .ref qs), (36, .ref qk)] fs_h0) (sz : Nat) : Met l yX15_solution wv_m_solution ({ frames := 1, cells := 0, slots := 0, locals := 22 }) (va_Pc [.ref h0, .int x0] (fun U => U.heap.size = sz ∧ va_P (dC, dI) vwCl [(h0, .inr (15, fs_h0))] U.heap ∧ va_K (dC, dI) vwCl [] U ∧ va_D (fun _ => True) [(h0, .inr (15, fs_h0))] ∧ w_N U)) (va_Qi (fun (r : Int32) (_ : Unit) => True) (fun _ t => ∃ (fs_e : List Value), va_P (dC, dI) vwCl [(h0, .inr (15, fs_e))] t.heap ∧ va_K (dC, dI) vwCl [] t ∧ va_D (va_A [(h0, .inr (15, fs_h0))] sz) [(h0, .inr (15, fs_e))] ∧ mF 89 [(0, .int 2)] fs_e) (va_A [(h0, .inr (15, fs_h0))] sz)) 0 0 (va_A [(h0, .inr (15, fs_h0))] sz) := by
  refine Met.ofW (cc := cX15_solution) (maxL := 2) (ret := (some .int)) (by decide) rfl ?_
  intro p e s m args below meth c s₁ B hml hv
  obtain ⟨rfl, hsz, hP, hK, hD0, hN⟩ := hv
  have hx := B.exec
  have hb := B.bytes
  have hr := B.returns
  have hts := atoms_spec (ws := wv_m_solution) B.pre
  have hown : s.vm.findClass RX15 = some m.cls := findClass_of_methodNamed B.named
  have hlocks := B.notSynchronized
  subst hsz
  have hD := hD0.self (sz := s.heap.size)
  generalize hAe : va_A [(h0, .inr (15, fs_h0))] s.heap.size = A at hD ⊢
  have hA : ∀ q : Nat, s.heap.size ≤ q → A q := fun q h => by rw [← hAe]; exact Or.inr h
  obtain ⟨H, hHe, hP, hS⟩ : ∃ H : Heap, H = s.heap ∧ va_P (dC, dI) vwCl [(h0, .inr (15, fs_h0))] H ∧ va_S A s.heap H [] := ⟨s.heap, rfl, hP, va_S.rf⟩
  have hl := lv_entry ([.ref h0, .int x0]) (n := 2) (Nat.le_of_ble_eq_true rfl)
  rw [lg_entry_eq]
  generalize (lg_sl ([.ref h0, .int x0]) ++ List.replicate (2 - (lg_sl ([.ref h0, .int x0])).length) Slot.unset).toArray = ls at hl ⊢
  have hl : lv_has ls 2 [(0, .ref h0), (1, .int x0)] := hl
  rw [← hHe]; clear hHe
  refine lv_aload_n hx hb dX15_solution_0 rfl (lv_at hl 0 rfl) ?_
  refine lv_iconst (v := 0) hx hb dX15_solution_1 (by decide) ?_
  refine va_put (D := (dC, dI)) (ci := 15) (v := .int 0) (ty := .int) (C := RX15) (T := TX15) (N := 89) hx hb hts (in_m_solution_X15) tyX15 tyX15_ok nmX15 hown hK hP hD hS 0 rfl rfl 0 (by decide) (hts (.fieldLink RX15 296 "MotionSignsModel" "thrown" "I") (List.mem_of_getElem? (i := 1) rfl)) (fun _ h9 => h9) rfl (tyX15_ok 0 (by decide)) rfl rfl (mF.lt hF_h0 (by decide)) dX15_solution_2 ?_
  clear hP hD hS; try clear H
  intro H locs hP hD hS
  have hF0 := mF.sub (L' := [(18, .int 0), (19, .int 0), (20, .int (-1)), (21, .int 0), (22, .int 0), (23, .int 0), (24, .int 0), (25, .int 0), (27, .int 0), (28, .int 0), (29, .int 0), (35, .int 0), (17, .int (-1)), (26, .ref qfed), (30, .ref qf), (31, .ref qfd), (33, .ref qs), (36, .ref qk)]) hF_h0 [1, 2, 3, 4, 5, 6, 7, 8, 9, 10, 11, 12, 13, 14, 15, 16, 17, 18] rfl
  have hF1 := mF.put hF0 0 (.int 0) (by decide) rfl
  replace hP : va_P (dC, dI) vwCl [(h0, .inr (15, (fs_h0.set 0 (.int 0))))] H := hP
  replace hD : va_D A [(h0, .inr (15, (fs_h0.set 0 (.int 0))))] := hD
  generalize fs_h0.set 0 (.int 0) = fs_1 at hP hD hF1
  replace hF_h0 : mF 89 [(0, .int 0), (18, .int 0), (19, .int 0), (20, .int (-1)), (21, .int 0), (22, .int 0), (23, .int 0), (24, .int 0), (25, .int 0), (27, .int 0), (28, .int 0), (29, .int 0), (35, .int 0), (17, .int (-1)), (26, .ref qfed), (30, .ref qf), (31, .ref qfd), (33, .ref qs), (36, .ref qk)] fs_1 := hF1
  clear hF1 hF0
  replace hP : va_P (dC, dI) vwCl [(h0, .inr (15, fs_1))] H := hP
  replace hD : va_D A [(h0, .inr (15, fs_1))] := hD
  refine lv_aload_n hx hb dX15_solution_5 rfl (lv_at hl 0 rfl) ?_
  refine lv_aload_n hx hb dX15_solution_6 rfl (lv_at hl 0 rfl) ?_
  refine va_get (D := (dC, dI)) (ci := 15) (v := .int 0) (C := RX15) (T := TX15) (N := 89) hx hb hts (in_m_solution_X15) hown hK hP 0 rfl rfl 28 (by decide) (hts (.fieldLink RX15 443 "MotionSignsModel" "kind" "I") (List.mem_of_getElem? (i := 2) rfl)) (fun _ h9 => h9) (mF.get hF_h0 10 rfl) dX15_solution_7 ?_
  refine lv_if_ne (tgt := 17) hx hb dX15_solution_10 (by decide) (fun hc => absurd (by decide) hc) (fun _ => ?_)
  refine lv_iconst (v := 1) hx hb dX15_solution_13 (by decide) ?_
  refine lv_goto (tgt := 18) hx hb dX15_solution_14 (by decide) ?_
  refine lv_iconst (v := 2) hx hb dX15_solution_18 (by decide) ?_
  have hPc := hP.sub (ws' := [(h0, .inr (15, fs_1))]) [0] rfl
  have hDc := hD.sub (ws' := [(h0, .inr (15, fs_1))]) [0] (by decide) rfl
  have hKc := hK.sub (tys' := []) [] rfl
  have hFc := va_free (wc := [(h0, .inr (15, fs_1))]) hD hS hA [0] rfl
  refine va_calli (va_runV (As := [.int 1, .int 2]) (rest := []) ⟨hx, hb, hml, hown, hts⟩ (c_m_bad2 l dC dI h0 qfed qf qfd qs qk fs_1 (mF.sub hF_h0 [0, 1, 2, 3, 4, 5, 6, 7, 8, 9, 10, 11, 12, 13, 14, 15, 16, 17, 18] rfl) H.size) (cwV 2 hts g_m_solution_m_bad2_424 rfl rfl rfl hv_X15_bad ⟨Nat.le_of_ble_eq_true rfl, Nat.le_of_ble_eq_true rfl⟩) ⟨fun a U g mk q => by obtain ⟨q0, q1, qP, qK, qD, qE0⟩ := q; exact ⟨q0, q1, qP, va_K.moved (u := U) (U := U.calling g mk a) (Vm.Alike.refl U.vm) qK, qD, w_N.same rfl qE0⟩, va_recv hKc hPc (ci := 15) (q0 := 0) rfl rfl, fun U hU hW => ⟨rfl, by rw [hU], by rw [hU]; exact hPc, va_K.moved hW.alike hKc, hDc.weaken (fun _ _ _ _ => trivial), w_N.warm hW hN⟩⟩ rfl rfl hl.1 rfl (lv_room (Nat.le_of_ble_eq_true rfl)) dX15_solution_19 ⟨(Nat.le_of_ble_eq_true rfl), (Nat.le_of_ble_eq_true rfl)⟩) hS (fun q _ h => hFc q h) hFc (fun r_2 u t H1 locs1 ht hvm hw hB hz1 hk1 hS1 => ?_)
  obtain ⟨fs_3, hP1, hK1, hD1, hp_4⟩ := hB
  rw [ht] at hP1
  have hK1 := va_K.moved hvm.symm hK1
  have hJ := va_join (wr := []) (w1 := [(h0, .inr (15, fs_3))]) hP hD [0] [] rfl rfl (by decide) (by decide) hk1 hFc hP1 hD1
  clear hP hD hPc hDc hKc hFc hz1; try clear hk1
  obtain ⟨hP, hD⟩ := hJ
  replace hK := (hK.sub (tys' := []) [] rfl).app (hK1.sub (tys' := []) [] rfl)
  clear hP1 hK1 hD1 hvm ht hS; try clear t
  try clear H
  revert hS1
  intro hS
  generalize H1 = H at hP hS ⊢; try clear H1
  replace hP : va_P (dC, dI) vwCl [(h0, .inr (15, fs_3))] H := hP
  replace hD : va_D A [(h0, .inr (15, fs_3))] := hD
  replace hK : va_K (dC, dI) vwCl [] s := hK
  have hw_5 : r_2 = 1 := hw; clear hw
  subst hw_5
  refine lv_if_ne (tgt := 50) hx hb dX15_solution_22 (by decide) (fun _ => ?_) (fun hc => absurd hc (by decide))
  refine lv_iconst (v := 0) hx hb dX15_solution_50 (by decide) ?_
  have hP9 := hP.sub (ws' := [(h0, .inr (15, fs_3))]) [0] rfl
  have hD9 := hD.sub (ws' := [(h0, .inr (15, fs_3))]) [0] (by decide) rfl
  have hK9 := hK.sub (tys' := []) [] rfl
  rw [← hAe] at hD9
  refine W.widen (k := 0) (n := 0) (Nat.le_of_ble_eq_true rfl) (Nat.le_of_ble_eq_true rfl) ?_
  subst hAe
  exact (W.iret (v := 0) hx hb hr (fun t ht hW => ⟨⟨0, (), rfl, trivial, fs_3, by rw [ht]; exact hP9, va_K.moved hW.alike hK9, hD9, (mF.sub hp_4 [0] rfl)⟩, hS.F ht⟩) hS.2.2 dX15_solution_51)
def wv_m_fault : List Cond := .code yX15_fault cX15_fault 1 (some .int) :: ([.fieldLink RX15 296 "MotionSignsModel" "thrown" "I", .fieldLink RX15 121 "MotionSignsModel" "place" "I"] ++ (wsX150 ++ ([])))
theorem gw_m_fault : wv_m_fault.all goodWord = true := by decide +kernel
theorem in_m_fault_X15 : ∀ w ∈ wsX150, w ∈ wv_m_fault := fun _ h => List.mem_cons_of_mem _ (List.mem_append_right _ (List.mem_append_left _ h))
set_option maxHeartbeats 4000000 in
set_option maxRecDepth 100000 in
/-- the reference: fault on a fresh object -/
theorem c_m_fault (l : Launch) (dC : Nat → ClassId) (dI : Nat → Nat → Nat) (h0 : Nat) (qfed : Nat) (qf : Nat) (qfd : Nat) (qs : Nat) (qk : Nat) (fs_h0 : List Value) (hF_h0 : mF 89 [(0, .int 0), (18, .int 0), (19, .int 0), (20, .int (-1)), (21, .int 0), (22, .int 0), (23, .int 0), (24, .int 0), (25, .int 0), (27, .int 0), (28, .int 0), (29, .int 0), (35, .int 0), (17, .int (-1)), (26, .ref qfed), (30, .ref qf), (31, .ref qfd), (33, .ref qs), (36, .ref qk)] fs_h0) (sz : Nat) : Met l yX15_fault wv_m_fault ({ frames := 0, cells := 0, slots := 0, locals := 0 }) (va_Pc [.ref h0] (fun U => U.heap.size = sz ∧ va_P (dC, dI) vwCl [(h0, .inr (15, fs_h0))] U.heap ∧ va_K (dC, dI) vwCl [] U ∧ va_D (fun _ => True) [(h0, .inr (15, fs_h0))] ∧ w_N U)) (va_Qi (fun (r : Int32) (_ : Unit) => r = (-1)) (fun _ t => ∃ (fs_e : List Value), va_P (dC, dI) vwCl [(h0, .inr (15, fs_e))] t.heap ∧ va_K (dC, dI) vwCl [] t ∧ va_D (va_A [(h0, .inr (15, fs_h0))] sz) [(h0, .inr (15, fs_e))] ∧ mF 89 [(0, .int 0)] fs_e) (va_A [(h0, .inr (15, fs_h0))] sz)) 0 0 (va_A [(h0, .inr (15, fs_h0))] sz) := by
  refine Met.ofW (cc := cX15_fault) (maxL := 1) (ret := (some .int)) (by decide) rfl ?_
  intro p e s m args below meth c s₁ B hml hv
  obtain ⟨rfl, hsz, hP, hK, hD0, hN⟩ := hv
  have hx := B.exec
  have hb := B.bytes
  have hr := B.returns
  have hts := atoms_spec (ws := wv_m_fault) B.pre
  have hown : s.vm.findClass RX15 = some m.cls := findClass_of_methodNamed B.named
  have hlocks := B.notSynchronized
  subst hsz
  have hD := hD0.self (sz := s.heap.size)
  generalize hAe : va_A [(h0, .inr (15, fs_h0))] s.heap.size = A at hD ⊢
  have hA : ∀ q : Nat, s.heap.size ≤ q → A q := fun q h => by rw [← hAe]; exact Or.inr h
  obtain ⟨H, hHe, hP, hS⟩ : ∃ H : Heap, H = s.heap ∧ va_P (dC, dI) vwCl [(h0, .inr (15, fs_h0))] H ∧ va_S A s.heap H [] := ⟨s.heap, rfl, hP, va_S.rf⟩
  have hl := lv_entry ([.ref h0]) (n := 1) (Nat.le_of_ble_eq_true rfl)
  rw [lg_entry_eq]
  generalize (lg_sl ([.ref h0]) ++ List.replicate (1 - (lg_sl ([.ref h0])).length) Slot.unset).toArray = ls at hl ⊢
  have hl : lv_has ls 1 [(0, .ref h0)] := hl
  rw [← hHe]; clear hHe
  refine lv_aload_n hx hb dX15_fault_0 rfl (lv_at hl 0 rfl) ?_
  refine lv_iconst (v := 0) hx hb dX15_fault_1 (by decide) ?_
  refine va_put (D := (dC, dI)) (ci := 15) (v := .int 0) (ty := .int) (C := RX15) (T := TX15) (N := 89) hx hb hts (in_m_fault_X15) tyX15 tyX15_ok nmX15 hown hK hP hD hS 0 rfl rfl 0 (by decide) (hts (.fieldLink RX15 296 "MotionSignsModel" "thrown" "I") (List.mem_of_getElem? (i := 1) rfl)) (fun _ h9 => h9) rfl (tyX15_ok 0 (by decide)) rfl rfl (mF.lt hF_h0 (by decide)) dX15_fault_2 ?_
  clear hP hD hS; try clear H
  intro H locs hP hD hS
  have hF0 := mF.sub (L' := [(18, .int 0), (19, .int 0), (20, .int (-1)), (21, .int 0), (22, .int 0), (23, .int 0), (24, .int 0), (25, .int 0), (27, .int 0), (28, .int 0), (29, .int 0), (35, .int 0), (17, .int (-1)), (26, .ref qfed), (30, .ref qf), (31, .ref qfd), (33, .ref qs), (36, .ref qk)]) hF_h0 [1, 2, 3, 4, 5, 6, 7, 8, 9, 10, 11, 12, 13, 14, 15, 16, 17, 18] rfl
  have hF1 := mF.put hF0 0 (.int 0) (by decide) rfl
  replace hP : va_P (dC, dI) vwCl [(h0, .inr (15, (fs_h0.set 0 (.int 0))))] H := hP
  replace hD : va_D A [(h0, .inr (15, (fs_h0.set 0 (.int 0))))] := hD
  generalize fs_h0.set 0 (.int 0) = fs_1 at hP hD hF1
  replace hF_h0 : mF 89 [(0, .int 0), (18, .int 0), (19, .int 0), (20, .int (-1)), (21, .int 0), (22, .int 0), (23, .int 0), (24, .int 0), (25, .int 0), (27, .int 0), (28, .int 0), (29, .int 0), (35, .int 0), (17, .int (-1)), (26, .ref qfed), (30, .ref qf), (31, .ref qfd), (33, .ref qs), (36, .ref qk)] fs_1 := hF1
  clear hF1 hF0
  replace hP : va_P (dC, dI) vwCl [(h0, .inr (15, fs_1))] H := hP
  replace hD : va_D A [(h0, .inr (15, fs_1))] := hD
  refine lv_aload_n hx hb dX15_fault_5 rfl (lv_at hl 0 rfl) ?_
  refine va_get (D := (dC, dI)) (ci := 15) (v := .int (-1)) (C := RX15) (T := TX15) (N := 89) hx hb hts (in_m_fault_X15) hown hK hP 0 rfl rfl 20 (by decide) (hts (.fieldLink RX15 121 "MotionSignsModel" "place" "I") (List.mem_of_getElem? (i := 2) rfl)) (fun _ h9 => h9) (mF.get hF_h0 3 rfl) dX15_fault_6 ?_
  have hP9 := hP.sub (ws' := [(h0, .inr (15, fs_1))]) [0] rfl
  have hD9 := hD.sub (ws' := [(h0, .inr (15, fs_1))]) [0] (by decide) rfl
  have hK9 := hK.sub (tys' := []) [] rfl
  rw [← hAe] at hD9
  refine W.widen (k := 0) (n := 0) (Nat.le_of_ble_eq_true rfl) (Nat.le_of_ble_eq_true rfl) ?_
  subst hAe
  exact (W.iret (v := (-1)) hx hb hr (fun t ht hW => ⟨⟨(-1), (), rfl, rfl, fs_1, by rw [ht]; exact hP9, va_K.moved hW.alike hK9, hD9, (mF.sub hF_h0 [0] rfl)⟩, hS.F ht⟩) hS.2.2 dX15_fault_9)
def wv_m_restore : List Cond := .code yX15_restore cX15_restore 2 (some .int) :: ([.fieldLink RX15 296 "MotionSignsModel" "thrown" "I", .fieldLink RX15 450 "MotionSignsModel" "images" "I"] ++ (wsX150 ++ ([])))
theorem gw_m_restore : wv_m_restore.all goodWord = true := by decide +kernel
theorem in_m_restore_X15 : ∀ w ∈ wsX150, w ∈ wv_m_restore := fun _ h => List.mem_cons_of_mem _ (List.mem_append_right _ (List.mem_append_left _ h))
set_option maxHeartbeats 4000000 in
set_option maxRecDepth 100000 in
/-- the reference: restore on a fresh object -/
theorem c_m_restore (l : Launch) (dC : Nat → ClassId) (dI : Nat → Nat → Nat) (h0 : Nat) (qfed : Nat) (qf : Nat) (qfd : Nat) (qs : Nat) (qk : Nat) (fs_h0 : List Value) (hF_h0 : mF 89 [(0, .int 0), (18, .int 0), (19, .int 0), (20, .int (-1)), (21, .int 0), (22, .int 0), (23, .int 0), (24, .int 0), (25, .int 0), (27, .int 0), (28, .int 0), (29, .int 0), (35, .int 0), (17, .int (-1)), (26, .ref qfed), (30, .ref qf), (31, .ref qfd), (33, .ref qs), (36, .ref qk)] fs_h0) (sz : Nat) : Met l yX15_restore wv_m_restore ({ frames := 0, cells := 0, slots := 0, locals := 0 }) (va_Pc [.ref h0] (fun U => U.heap.size = sz ∧ va_P (dC, dI) vwCl [(h0, .inr (15, fs_h0))] U.heap ∧ va_K (dC, dI) vwCl [] U ∧ va_D (fun _ => True) [(h0, .inr (15, fs_h0))] ∧ w_N U)) (va_Qi (fun (r : Int32) (_ : Unit) => r = (-1)) (fun _ t => ∃ (fs_e : List Value), va_P (dC, dI) vwCl [(h0, .inr (15, fs_e))] t.heap ∧ va_K (dC, dI) vwCl [] t ∧ va_D (va_A [(h0, .inr (15, fs_h0))] sz) [(h0, .inr (15, fs_e))] ∧ mF 89 [(0, .int 0)] fs_e) (va_A [(h0, .inr (15, fs_h0))] sz)) 0 0 (va_A [(h0, .inr (15, fs_h0))] sz) := by
  refine Met.ofW (cc := cX15_restore) (maxL := 2) (ret := (some .int)) (by decide) rfl ?_
  intro p e s m args below meth c s₁ B hml hv
  obtain ⟨rfl, hsz, hP, hK, hD0, hN⟩ := hv
  have hx := B.exec
  have hb := B.bytes
  have hr := B.returns
  have hts := atoms_spec (ws := wv_m_restore) B.pre
  have hown : s.vm.findClass RX15 = some m.cls := findClass_of_methodNamed B.named
  have hlocks := B.notSynchronized
  subst hsz
  have hD := hD0.self (sz := s.heap.size)
  generalize hAe : va_A [(h0, .inr (15, fs_h0))] s.heap.size = A at hD ⊢
  have hA : ∀ q : Nat, s.heap.size ≤ q → A q := fun q h => by rw [← hAe]; exact Or.inr h
  obtain ⟨H, hHe, hP, hS⟩ : ∃ H : Heap, H = s.heap ∧ va_P (dC, dI) vwCl [(h0, .inr (15, fs_h0))] H ∧ va_S A s.heap H [] := ⟨s.heap, rfl, hP, va_S.rf⟩
  have hl := lv_entry ([.ref h0]) (n := 2) (Nat.le_of_ble_eq_true rfl)
  rw [lg_entry_eq]
  generalize (lg_sl ([.ref h0]) ++ List.replicate (2 - (lg_sl ([.ref h0])).length) Slot.unset).toArray = ls at hl ⊢
  have hl : lv_has ls 2 [(0, .ref h0)] := hl
  rw [← hHe]; clear hHe
  refine lv_aload_n hx hb dX15_restore_0 rfl (lv_at hl 0 rfl) ?_
  refine lv_iconst (v := 0) hx hb dX15_restore_1 (by decide) ?_
  refine va_put (D := (dC, dI)) (ci := 15) (v := .int 0) (ty := .int) (C := RX15) (T := TX15) (N := 89) hx hb hts (in_m_restore_X15) tyX15 tyX15_ok nmX15 hown hK hP hD hS 0 rfl rfl 0 (by decide) (hts (.fieldLink RX15 296 "MotionSignsModel" "thrown" "I") (List.mem_of_getElem? (i := 1) rfl)) (fun _ h9 => h9) rfl (tyX15_ok 0 (by decide)) rfl rfl (mF.lt hF_h0 (by decide)) dX15_restore_2 ?_
  clear hP hD hS; try clear H
  intro H locs hP hD hS
  have hF0 := mF.sub (L' := [(18, .int 0), (19, .int 0), (20, .int (-1)), (21, .int 0), (22, .int 0), (23, .int 0), (24, .int 0), (25, .int 0), (27, .int 0), (28, .int 0), (29, .int 0), (35, .int 0), (17, .int (-1)), (26, .ref qfed), (30, .ref qf), (31, .ref qfd), (33, .ref qs), (36, .ref qk)]) hF_h0 [1, 2, 3, 4, 5, 6, 7, 8, 9, 10, 11, 12, 13, 14, 15, 16, 17, 18] rfl
  have hF1 := mF.put hF0 0 (.int 0) (by decide) rfl
  replace hP : va_P (dC, dI) vwCl [(h0, .inr (15, (fs_h0.set 0 (.int 0))))] H := hP
  replace hD : va_D A [(h0, .inr (15, (fs_h0.set 0 (.int 0))))] := hD
  generalize fs_h0.set 0 (.int 0) = fs_1 at hP hD hF1
  replace hF_h0 : mF 89 [(0, .int 0), (18, .int 0), (19, .int 0), (20, .int (-1)), (21, .int 0), (22, .int 0), (23, .int 0), (24, .int 0), (25, .int 0), (27, .int 0), (28, .int 0), (29, .int 0), (35, .int 0), (17, .int (-1)), (26, .ref qfed), (30, .ref qf), (31, .ref qfd), (33, .ref qs), (36, .ref qk)] fs_1 := hF1
  clear hF1 hF0
  replace hP : va_P (dC, dI) vwCl [(h0, .inr (15, fs_1))] H := hP
  replace hD : va_D A [(h0, .inr (15, fs_1))] := hD
  refine lv_aload_n hx hb dX15_restore_5 rfl (lv_at hl 0 rfl) ?_
  refine va_get (D := (dC, dI)) (ci := 15) (v := .int 0) (C := RX15) (T := TX15) (N := 89) hx hb hts (in_m_restore_X15) hown hK hP 0 rfl rfl 35 (by decide) (hts (.fieldLink RX15 450 "MotionSignsModel" "images" "I") (List.mem_of_getElem? (i := 2) rfl)) (fun _ h9 => h9) (mF.get hF_h0 12 rfl) dX15_restore_6 ?_
  refine lv_if_ne (tgt := 14) hx hb dX15_restore_9 (by decide) (fun hc => absurd (by decide) hc) (fun _ => ?_)
  refine lv_iconst (v := -1) hx hb dX15_restore_12 (by decide) ?_
  have hP9 := hP.sub (ws' := [(h0, .inr (15, fs_1))]) [0] rfl
  have hD9 := hD.sub (ws' := [(h0, .inr (15, fs_1))]) [0] (by decide) rfl
  have hK9 := hK.sub (tys' := []) [] rfl
  rw [← hAe] at hD9
  refine W.widen (k := 0) (n := 0) (Nat.le_of_ble_eq_true rfl) (Nat.le_of_ble_eq_true rfl) ?_
  subst hAe
  exact (W.iret (v := (-1)) hx hb hr (fun t ht hW => ⟨⟨(-1), (), rfl, rfl, fs_1, by rw [ht]; exact hP9, va_K.moved hW.alike hK9, hD9, (mF.sub hF_h0 [0] rfl)⟩, hS.F ht⟩) hS.2.2 dX15_restore_13)
def wv_m_count : List Cond := .code yX15_count cX15_count 2 (some .int) :: ([.fieldLink RX15 296 "MotionSignsModel" "thrown" "I", .fieldLink RX15 299 "MotionSignsModel" "tape" "I", .fieldLink RX15 450 "MotionSignsModel" "images" "I"] ++ (wsX150 ++ ([])))
theorem gw_m_count : wv_m_count.all goodWord = true := by decide +kernel
theorem in_m_count_X15 : ∀ w ∈ wsX150, w ∈ wv_m_count := fun _ h => List.mem_cons_of_mem _ (List.mem_append_right _ (List.mem_append_left _ h))
set_option maxHeartbeats 4000000 in
set_option maxRecDepth 100000 in
/-- the reference: count on a fresh object -/
theorem c_m_count (l : Launch) (dC : Nat → ClassId) (dI : Nat → Nat → Nat) (h0 : Nat) (qfed : Nat) (qf : Nat) (qfd : Nat) (qs : Nat) (qk : Nat) (x0 : Int32) (fs_h0 : List Value) (hF_h0 : mF 89 [(0, .int 0), (18, .int 0), (19, .int 0), (20, .int (-1)), (21, .int 0), (22, .int 0), (23, .int 0), (24, .int 0), (25, .int 0), (27, .int 0), (28, .int 0), (29, .int 0), (35, .int 0), (17, .int (-1)), (26, .ref qfed), (30, .ref qf), (31, .ref qfd), (33, .ref qs), (36, .ref qk)] fs_h0) (sz : Nat) : Met l yX15_count wv_m_count ({ frames := 0, cells := 0, slots := 0, locals := 0 }) (va_Pc [.ref h0, .int x0] (fun U => U.heap.size = sz ∧ va_P (dC, dI) vwCl [(h0, .inr (15, fs_h0))] U.heap ∧ va_K (dC, dI) vwCl [] U ∧ va_D (fun _ => True) [(h0, .inr (15, fs_h0))] ∧ w_N U)) (va_Qi (fun (r : Int32) (_ : Unit) => r = kCount x0) (fun _ t => ∃ (fs_e : List Value), va_P (dC, dI) vwCl [(h0, .inr (15, fs_e))] t.heap ∧ va_K (dC, dI) vwCl [] t ∧ va_D (va_A [(h0, .inr (15, fs_h0))] sz) [(h0, .inr (15, fs_e))] ∧ mF 89 [(0, .int 0)] fs_e) (va_A [(h0, .inr (15, fs_h0))] sz)) 0 0 (va_A [(h0, .inr (15, fs_h0))] sz) := by
  refine Met.ofW (cc := cX15_count) (maxL := 2) (ret := (some .int)) (by decide) rfl ?_
  intro p e s m args below meth c s₁ B hml hv
  obtain ⟨rfl, hsz, hP, hK, hD0, hN⟩ := hv
  have hx := B.exec
  have hb := B.bytes
  have hr := B.returns
  have hts := atoms_spec (ws := wv_m_count) B.pre
  have hown : s.vm.findClass RX15 = some m.cls := findClass_of_methodNamed B.named
  have hlocks := B.notSynchronized
  subst hsz
  have hD := hD0.self (sz := s.heap.size)
  generalize hAe : va_A [(h0, .inr (15, fs_h0))] s.heap.size = A at hD ⊢
  have hA : ∀ q : Nat, s.heap.size ≤ q → A q := fun q h => by rw [← hAe]; exact Or.inr h
  obtain ⟨H, hHe, hP, hS⟩ : ∃ H : Heap, H = s.heap ∧ va_P (dC, dI) vwCl [(h0, .inr (15, fs_h0))] H ∧ va_S A s.heap H [] := ⟨s.heap, rfl, hP, va_S.rf⟩
  have hl := lv_entry ([.ref h0, .int x0]) (n := 2) (Nat.le_of_ble_eq_true rfl)
  rw [lg_entry_eq]
  generalize (lg_sl ([.ref h0, .int x0]) ++ List.replicate (2 - (lg_sl ([.ref h0, .int x0])).length) Slot.unset).toArray = ls at hl ⊢
  have hl : lv_has ls 2 [(0, .ref h0), (1, .int x0)] := hl
  rw [← hHe]; clear hHe
  refine lv_aload_n hx hb dX15_count_0 rfl (lv_at hl 0 rfl) ?_
  refine lv_iconst (v := 0) hx hb dX15_count_1 (by decide) ?_
  refine va_put (D := (dC, dI)) (ci := 15) (v := .int 0) (ty := .int) (C := RX15) (T := TX15) (N := 89) hx hb hts (in_m_count_X15) tyX15 tyX15_ok nmX15 hown hK hP hD hS 0 rfl rfl 0 (by decide) (hts (.fieldLink RX15 296 "MotionSignsModel" "thrown" "I") (List.mem_of_getElem? (i := 1) rfl)) (fun _ h9 => h9) rfl (tyX15_ok 0 (by decide)) rfl rfl (mF.lt hF_h0 (by decide)) dX15_count_2 ?_
  clear hP hD hS; try clear H
  intro H locs hP hD hS
  have hF0 := mF.sub (L' := [(18, .int 0), (19, .int 0), (20, .int (-1)), (21, .int 0), (22, .int 0), (23, .int 0), (24, .int 0), (25, .int 0), (27, .int 0), (28, .int 0), (29, .int 0), (35, .int 0), (17, .int (-1)), (26, .ref qfed), (30, .ref qf), (31, .ref qfd), (33, .ref qs), (36, .ref qk)]) hF_h0 [1, 2, 3, 4, 5, 6, 7, 8, 9, 10, 11, 12, 13, 14, 15, 16, 17, 18] rfl
  have hF1 := mF.put hF0 0 (.int 0) (by decide) rfl
  replace hP : va_P (dC, dI) vwCl [(h0, .inr (15, (fs_h0.set 0 (.int 0))))] H := hP
  replace hD : va_D A [(h0, .inr (15, (fs_h0.set 0 (.int 0))))] := hD
  generalize fs_h0.set 0 (.int 0) = fs_1 at hP hD hF1
  replace hF_h0 : mF 89 [(0, .int 0), (18, .int 0), (19, .int 0), (20, .int (-1)), (21, .int 0), (22, .int 0), (23, .int 0), (24, .int 0), (25, .int 0), (27, .int 0), (28, .int 0), (29, .int 0), (35, .int 0), (17, .int (-1)), (26, .ref qfed), (30, .ref qf), (31, .ref qfd), (33, .ref qs), (36, .ref qk)] fs_1 := hF1
  clear hF1 hF0
  replace hP : va_P (dC, dI) vwCl [(h0, .inr (15, fs_1))] H := hP
  replace hD : va_D A [(h0, .inr (15, fs_1))] := hD
  refine lv_iload_n hx hb dX15_count_5 rfl (lv_at hl 1 rfl) ?_
  refine lv_if_ne (tgt := 16) hx hb dX15_count_6 (by decide) (fun hc_2 => ?_) (fun hc_2 => ?_)
  · skip
    refine lv_iload_n hx hb dX15_count_16 rfl (lv_at hl 1 rfl) ?_
    refine lv_iconst (v := 1) hx hb dX15_count_17 (by decide) ?_
    refine lv_icmp_ne (tgt := 28) hx hb dX15_count_18 (by decide) (fun hc_3 => ?_) (fun hc_3 => ?_)
    · skip
      refine lv_iconst (v := -1) hx hb dX15_count_28 (by decide) ?_
      have hP9 := hP.sub (ws' := [(h0, .inr (15, fs_1))]) [0] rfl
      have hD9 := hD.sub (ws' := [(h0, .inr (15, fs_1))]) [0] (by decide) rfl
      have hK9 := hK.sub (tys' := []) [] rfl
      rw [← hAe] at hD9
      refine W.widen (k := 0) (n := 0) (Nat.le_of_ble_eq_true rfl) (Nat.le_of_ble_eq_true rfl) ?_
      subst hAe
      exact (W.iret (v := (-1)) hx hb hr (fun t ht hW => ⟨⟨(-1), (), rfl, (by simp [kCount, hc_2, hc_3]), fs_1, by rw [ht]; exact hP9, va_K.moved hW.alike hK9, hD9, (mF.sub hF_h0 [0] rfl)⟩, hS.F ht⟩) hS.2.2 dX15_count_29)
    · skip
      refine lv_aload_n hx hb dX15_count_21 rfl (lv_at hl 0 rfl) ?_
      refine va_get (D := (dC, dI)) (ci := 15) (v := .int 0) (C := RX15) (T := TX15) (N := 89) hx hb hts (in_m_count_X15) hown hK hP 0 rfl rfl 18 (by decide) (hts (.fieldLink RX15 299 "MotionSignsModel" "tape" "I") (List.mem_of_getElem? (i := 2) rfl)) (fun _ h9 => h9) (mF.get hF_h0 1 rfl) dX15_count_22 ?_
      refine lv_goto (tgt := 29) hx hb dX15_count_25 (by decide) ?_
      have hP9 := hP.sub (ws' := [(h0, .inr (15, fs_1))]) [0] rfl
      have hD9 := hD.sub (ws' := [(h0, .inr (15, fs_1))]) [0] (by decide) rfl
      have hK9 := hK.sub (tys' := []) [] rfl
      rw [← hAe] at hD9
      refine W.widen (k := 0) (n := 0) (Nat.le_of_ble_eq_true rfl) (Nat.le_of_ble_eq_true rfl) ?_
      subst hAe
      exact (W.iret (v := 0) hx hb hr (fun t ht hW => ⟨⟨0, (), rfl, (by simp [kCount, hc_2, hc_3]), fs_1, by rw [ht]; exact hP9, va_K.moved hW.alike hK9, hD9, (mF.sub hF_h0 [0] rfl)⟩, hS.F ht⟩) hS.2.2 dX15_count_29)
  · skip
    refine lv_aload_n hx hb dX15_count_9 rfl (lv_at hl 0 rfl) ?_
    refine va_get (D := (dC, dI)) (ci := 15) (v := .int 0) (C := RX15) (T := TX15) (N := 89) hx hb hts (in_m_count_X15) hown hK hP 0 rfl rfl 35 (by decide) (hts (.fieldLink RX15 450 "MotionSignsModel" "images" "I") (List.mem_of_getElem? (i := 3) rfl)) (fun _ h9 => h9) (mF.get hF_h0 12 rfl) dX15_count_10 ?_
    refine lv_goto (tgt := 29) hx hb dX15_count_13 (by decide) ?_
    have hP9 := hP.sub (ws' := [(h0, .inr (15, fs_1))]) [0] rfl
    have hD9 := hD.sub (ws' := [(h0, .inr (15, fs_1))]) [0] (by decide) rfl
    have hK9 := hK.sub (tys' := []) [] rfl
    rw [← hAe] at hD9
    refine W.widen (k := 0) (n := 0) (Nat.le_of_ble_eq_true rfl) (Nat.le_of_ble_eq_true rfl) ?_
    subst hAe
    exact (W.iret (v := 0) hx hb hr (fun t ht hW => ⟨⟨0, (), rfl, (by simp [kCount, hc_2]), fs_1, by rw [ht]; exact hP9, va_K.moved hW.alike hK9, hD9, (mF.sub hF_h0 [0] rfl)⟩, hS.F ht⟩) hS.2.2 dX15_count_29)
def wv_q_terms : List Cond := .code yX13_terms cX13_terms 3 (some .int) :: ([.fieldLink RX13 25 "MotionSignsModel$Poly" "many" "I"] ++ (wsX130 ++ ([])))
theorem gw_q_terms : wv_q_terms.all goodWord = true := by decide +kernel
theorem in_q_terms_X13 : ∀ w ∈ wsX130, w ∈ wv_q_terms := fun _ h => List.mem_cons_of_mem _ (List.mem_append_right _ (List.mem_append_left _ h))
set_option maxHeartbeats 4000000 in
set_option maxRecDepth 100000 in
/-- terms -/
theorem c_q_terms (l : Launch) (dC : Nat → ClassId) (dI : Nat → Nat → Nat) (h0 : Nat) (fs_h0 : List Value) (hF_h0 : mF 5 [(4, .int 0)] fs_h0) (sz : Nat) : Met l yX13_terms wv_q_terms ({ frames := 0, cells := 0, slots := 0, locals := 0 }) (va_Pc [.ref h0] (fun U => U.heap.size = sz ∧ va_P (dC, dI) vwCl [(h0, .inr (13, fs_h0))] U.heap ∧ va_K (dC, dI) vwCl [] U ∧ va_D (fun _ => True) [(h0, .inr (13, fs_h0))] ∧ w_N U)) (va_Qi (fun (r : Int32) (_ : Unit) => r = 0) (fun _ t => va_P (dC, dI) vwCl [(h0, .inr (13, fs_h0))] t.heap ∧ va_K (dC, dI) vwCl [] t ∧ va_D (va_A [(h0, .inr (13, fs_h0))] sz) [(h0, .inr (13, fs_h0))]) (va_A [(h0, .inr (13, fs_h0))] sz)) 0 0 (va_A [(h0, .inr (13, fs_h0))] sz) := by
  refine Met.ofW (cc := cX13_terms) (maxL := 3) (ret := (some .int)) (by decide) rfl ?_
  intro p e s m args below meth c s₁ B hml hv
  obtain ⟨rfl, hsz, hP, hK, hD0, hN⟩ := hv
  have hx := B.exec
  have hb := B.bytes
  have hr := B.returns
  have hts := atoms_spec (ws := wv_q_terms) B.pre
  have hown : s.vm.findClass RX13 = some m.cls := findClass_of_methodNamed B.named
  have hlocks := B.notSynchronized
  subst hsz
  have hD := hD0.self (sz := s.heap.size)
  generalize hAe : va_A [(h0, .inr (13, fs_h0))] s.heap.size = A at hD ⊢
  have hA : ∀ q : Nat, s.heap.size ≤ q → A q := fun q h => by rw [← hAe]; exact Or.inr h
  obtain ⟨H, hHe, hP, hS⟩ : ∃ H : Heap, H = s.heap ∧ va_P (dC, dI) vwCl [(h0, .inr (13, fs_h0))] H ∧ va_S A s.heap H [] := ⟨s.heap, rfl, hP, va_S.rf⟩
  have hl := lv_entry ([.ref h0]) (n := 3) (Nat.le_of_ble_eq_true rfl)
  rw [lg_entry_eq]
  generalize (lg_sl ([.ref h0]) ++ List.replicate (3 - (lg_sl ([.ref h0])).length) Slot.unset).toArray = ls at hl ⊢
  have hl : lv_has ls 3 [(0, .ref h0)] := hl
  rw [← hHe]; clear hHe
  refine lv_iconst (v := 0) hx hb dX13_terms_0 (by decide) ?_
  refine lv_istore_n (lv' := [(1, .int 0), (0, .ref h0)]) hx hb dX13_terms_1 rfl hl (by decide) rfl (fun ls hl => ?_)
  refine lv_iconst (v := 0) hx hb dX13_terms_2 (by decide) ?_
  refine lv_istore_n (lv' := [(2, .int 0), (1, .int 0), (0, .ref h0)]) hx hb dX13_terms_3 rfl hl (by decide) rfl (fun ls hl => ?_)
  refine lv_iload_n hx hb dX13_terms_4 rfl (lv_at hl 0 rfl) ?_
  refine lv_aload_n hx hb dX13_terms_5 rfl (lv_at hl 2 rfl) ?_
  refine va_get (D := (dC, dI)) (ci := 13) (v := .int 0) (C := RX13) (T := TX13) (N := 5) hx hb hts (in_q_terms_X13) hown hK hP 0 rfl rfl 4 (by decide) (hts (.fieldLink RX13 25 "MotionSignsModel$Poly" "many" "I") (List.mem_of_getElem? (i := 1) rfl)) (fun _ h9 => h9) (mF.get hF_h0 0 rfl) dX13_terms_6 ?_
  refine lv_icmp_ge (tgt := 37) hx hb dX13_terms_9 (by decide) (fun _ => ?_) (fun hc => absurd (by decide) hc)
  refine lv_iload_n hx hb dX13_terms_37 rfl (lv_at hl 1 rfl) ?_
  have hP9 := hP.sub (ws' := [(h0, .inr (13, fs_h0))]) [0] rfl
  have hD9 := hD.sub (ws' := [(h0, .inr (13, fs_h0))]) [0] (by decide) rfl
  have hK9 := hK.sub (tys' := []) [] rfl
  rw [← hAe] at hD9
  refine W.widen (k := 0) (n := 0) (Nat.le_of_ble_eq_true rfl) (Nat.le_of_ble_eq_true rfl) ?_
  subst hAe
  exact (W.iret (v := 0) hx hb hr (fun t ht hW => ⟨⟨0, (), rfl, rfl, by rw [ht]; exact hP9, va_K.moved hW.alike hK9, hD9⟩, hS.F ht⟩) hS.2.2 dX13_terms_38)
def wv_m_highest : List Cond := .code yX15_highest cX15_highest 4 (some .int) :: ([.fieldLink RX15 130 "MotionSignsModel" "f" "LMotionSignsModel$Poly;"] ++ (wsX150 ++ (wsX130 ++ ([]))))
theorem gw_m_highest : wv_m_highest.all goodWord = true := by decide +kernel
theorem in_m_highest_X15 : ∀ w ∈ wsX150, w ∈ wv_m_highest := fun _ h => List.mem_cons_of_mem _ (List.mem_append_right _ (List.mem_append_left _ h))
theorem in_m_highest_X13 : ∀ w ∈ wsX130, w ∈ wv_m_highest := fun _ h => List.mem_cons_of_mem _ (List.mem_append_right _ (List.mem_append_right _ (List.mem_append_left _ h)))
set_option maxHeartbeats 4000000 in
set_option maxRecDepth 100000 in
/-- highest -/
theorem c_m_highest (l : Launch) (dC : Nat → ClassId) (dI : Nat → Nat → Nat) (h0 : Nat) (qf : Nat) (fs_h0 : List Value) (fs_qf : List Value) (hF_h0 : mF 89 [(30, .ref qf)] fs_h0) (hF_qf : mF 5 [(4, .int 0)] fs_qf) (sz : Nat) : Met l yX15_highest wv_m_highest ({ frames := 0, cells := 0, slots := 0, locals := 0 }) (va_Pc [.ref h0] (fun U => U.heap.size = sz ∧ va_P (dC, dI) vwCl [(h0, .inr (15, fs_h0)), (qf, .inr (13, fs_qf))] U.heap ∧ va_K (dC, dI) vwCl [] U ∧ va_D (fun _ => True) [(h0, .inr (15, fs_h0)), (qf, .inr (13, fs_qf))] ∧ w_N U)) (va_Qi (fun (r : Int32) (_ : Unit) => r = 0) (fun _ t => va_P (dC, dI) vwCl [(h0, .inr (15, fs_h0)), (qf, .inr (13, fs_qf))] t.heap ∧ va_K (dC, dI) vwCl [] t ∧ va_D (va_A [(h0, .inr (15, fs_h0)), (qf, .inr (13, fs_qf))] sz) [(h0, .inr (15, fs_h0)), (qf, .inr (13, fs_qf))]) (va_A [(h0, .inr (15, fs_h0)), (qf, .inr (13, fs_qf))] sz)) 0 0 (va_A [(h0, .inr (15, fs_h0)), (qf, .inr (13, fs_qf))] sz) := by
  refine Met.ofW (cc := cX15_highest) (maxL := 4) (ret := (some .int)) (by decide) rfl ?_
  intro p e s m args below meth c s₁ B hml hv
  obtain ⟨rfl, hsz, hP, hK, hD0, hN⟩ := hv
  have hx := B.exec
  have hb := B.bytes
  have hr := B.returns
  have hts := atoms_spec (ws := wv_m_highest) B.pre
  have hown : s.vm.findClass RX15 = some m.cls := findClass_of_methodNamed B.named
  have hlocks := B.notSynchronized
  subst hsz
  have hD := hD0.self (sz := s.heap.size)
  generalize hAe : va_A [(h0, .inr (15, fs_h0)), (qf, .inr (13, fs_qf))] s.heap.size = A at hD ⊢
  have hA : ∀ q : Nat, s.heap.size ≤ q → A q := fun q h => by rw [← hAe]; exact Or.inr h
  obtain ⟨H, hHe, hP, hS⟩ : ∃ H : Heap, H = s.heap ∧ va_P (dC, dI) vwCl [(h0, .inr (15, fs_h0)), (qf, .inr (13, fs_qf))] H ∧ va_S A s.heap H [] := ⟨s.heap, rfl, hP, va_S.rf⟩
  have hl := lv_entry ([.ref h0]) (n := 4) (Nat.le_of_ble_eq_true rfl)
  rw [lg_entry_eq]
  generalize (lg_sl ([.ref h0]) ++ List.replicate (4 - (lg_sl ([.ref h0])).length) Slot.unset).toArray = ls at hl ⊢
  have hl : lv_has ls 4 [(0, .ref h0)] := hl
  rw [← hHe]; clear hHe
  refine lv_iconst (v := 0) hx hb dX15_highest_0 (by decide) ?_
  refine lv_istore_n (lv' := [(1, .int 0), (0, .ref h0)]) hx hb dX15_highest_1 rfl hl (by decide) rfl (fun ls hl => ?_)
  refine lv_iconst (v := 0) hx hb dX15_highest_2 (by decide) ?_
  refine lv_istore_n (lv' := [(2, .int 0), (1, .int 0), (0, .ref h0)]) hx hb dX15_highest_3 rfl hl (by decide) rfl (fun ls hl => ?_)
  refine lv_iload_n hx hb dX15_highest_4 rfl (lv_at hl 0 rfl) ?_
  refine lv_aload_n hx hb dX15_highest_5 rfl (lv_at hl 2 rfl) ?_
  refine va_get (D := (dC, dI)) (ci := 15) (v := .ref qf) (C := RX15) (T := TX15) (N := 89) hx hb hts (in_m_highest_X15) hown hK hP 0 rfl rfl 30 (by decide) (hts (.fieldLink RX15 130 "MotionSignsModel" "f" "LMotionSignsModel$Poly;") (List.mem_of_getElem? (i := 1) rfl)) (fun _ h9 => h9) (mF.get hF_h0 0 rfl) dX15_highest_6 ?_
  refine va_getN (D := (dC, dI)) (ci := 13) (v := .int 0) (C := RX13) (T := TX13) (N := 5) hx hb hts (in_m_highest_X13) hown hK hP 1 rfl rfl 4 (by decide) (va_Nw.use rfl (hN.2.1 (RX15, 347, RX13, "many", "I", RX15) (List.mem_of_getElem? (i := 46) rfl))) (fun _ h9 => h9) (mF.get hF_qf 0 rfl) dX15_highest_9 ?_
  refine lv_icmp_ge (tgt := 76) hx hb dX15_highest_12 (by decide) (fun _ => ?_) (fun hc => absurd (by decide) hc)
  refine lv_iload_n hx hb dX15_highest_76 rfl (lv_at hl 1 rfl) ?_
  have hP9 := hP.sub (ws' := [(h0, .inr (15, fs_h0)), (qf, .inr (13, fs_qf))]) [0, 1] rfl
  have hD9 := hD.sub (ws' := [(h0, .inr (15, fs_h0)), (qf, .inr (13, fs_qf))]) [0, 1] (by decide) rfl
  have hK9 := hK.sub (tys' := []) [] rfl
  rw [← hAe] at hD9
  refine W.widen (k := 0) (n := 0) (Nat.le_of_ble_eq_true rfl) (Nat.le_of_ble_eq_true rfl) ?_
  subst hAe
  exact (W.iret (v := 0) hx hb hr (fun t ht hW => ⟨⟨0, (), rfl, rfl, by rw [ht]; exact hP9, va_K.moved hW.alike hK9, hD9⟩, hS.F ht⟩) hS.2.2 dX15_highest_77)
def wv_m_told : List Cond := .code yX15_told cX15_told 2 (some .int) :: ([.fieldLink RX15 296 "MotionSignsModel" "thrown" "I", .methodLink RX15 420 yX15_in, .static yX15_in, .initialized RX15, .methodLink RX15 424 yX15_bad, .instanceMethod yX15_bad, .selects RX15 yX15_bad yX15_bad, .methodLink RX15 456 yX15_highest, .instanceMethod yX15_highest, .selects RX15 yX15_highest yX15_highest, .fieldLink RX15 130 "MotionSignsModel" "f" "LMotionSignsModel$Poly;", .initialized RX13, .instanceMethod yX13_terms, .selects RX13 yX13_terms yX13_terms, .fieldLink RX15 443 "MotionSignsModel" "kind" "I"] ++ (wsX150 ++ (wv_m_in ++ (wv_m_bad0 ++ (wv_m_highest ++ (wv_q_terms ++ (wv_m_bad1 ++ ([]))))))))
theorem gw_m_told : wv_m_told.all goodWord = true := by decide +kernel
theorem in_m_told_X15 : ∀ w ∈ wsX150, w ∈ wv_m_told := fun _ h => List.mem_cons_of_mem _ (List.mem_append_right _ (List.mem_append_left _ h))
theorem g_m_told_m_in_420 : GoodIn wv_m_told (va_wsS RX15 420 yX15_in wv_m_in) := goodIn_app (goodIn_of _ (by decide +kernel)) (goodIn_sub (fun _ h => List.mem_cons_of_mem _ (List.mem_append_right _ (List.mem_append_right _ (List.mem_append_left _ h)))) gw_m_in)
theorem g_m_told_m_bad0_424 : GoodIn wv_m_told (wsV RX15 424 RX15 yX15_bad wv_m_bad0) := goodIn_app (goodIn_of _ (by decide +kernel)) (goodIn_sub (fun _ h => List.mem_cons_of_mem _ (List.mem_append_right _ (List.mem_append_right _ (List.mem_append_right _ (List.mem_append_left _ h))))) gw_m_bad0)
theorem g_m_told_m_highest_456 : GoodIn wv_m_told (wsV RX15 456 RX15 yX15_highest wv_m_highest) := goodIn_app (goodIn_of _ (by decide +kernel)) (goodIn_sub (fun _ h => List.mem_cons_of_mem _ (List.mem_append_right _ (List.mem_append_right _ (List.mem_append_right _ (List.mem_append_right _ (List.mem_append_left _ h)))))) gw_m_highest)
theorem g_m_told_q_terms_344 : GoodIn wv_m_told wv_q_terms := goodIn_sub (fun _ h => List.mem_cons_of_mem _ (List.mem_append_right _ (List.mem_append_right _ (List.mem_append_right _ (List.mem_append_right _ (List.mem_append_right _ (List.mem_append_left _ h))))))) gw_q_terms
theorem g_m_told_m_bad1_424 : GoodIn wv_m_told (wsV RX15 424 RX15 yX15_bad wv_m_bad1) := goodIn_app (goodIn_of _ (by decide +kernel)) (goodIn_sub (fun _ h => List.mem_cons_of_mem _ (List.mem_append_right _ (List.mem_append_right _ (List.mem_append_right _ (List.mem_append_right _ (List.mem_append_right _ (List.mem_append_right _ (List.mem_append_left _ h)))))))) gw_m_bad1)
set_option maxHeartbeats 4000000 in
set_option maxRecDepth 100000 in
/-- the reference: told on a fresh object -/
theorem c_m_told (l : Launch) (dC : Nat → ClassId) (dI : Nat → Nat → Nat) (h0 : Nat) (qfed : Nat) (qf : Nat) (qfd : Nat) (qs : Nat) (qk : Nat) (x0 : Int32) (fs_h0 : List Value) (fs_qf : List Value) (hF_h0 : mF 89 [(0, .int 0), (18, .int 0), (19, .int 0), (20, .int (-1)), (21, .int 0), (22, .int 0), (23, .int 0), (24, .int 0), (25, .int 0), (27, .int 0), (28, .int 0), (29, .int 0), (35, .int 0), (17, .int (-1)), (26, .ref qfed), (30, .ref qf), (31, .ref qfd), (33, .ref qs), (36, .ref qk)] fs_h0) (hF_qf : mF 5 [(4, .int 0)] fs_qf) (sz : Nat) : Met l yX15_told wv_m_told ({ frames := 1, cells := 0, slots := 0, locals := 23 }) (va_Pc [.ref h0, .int x0] (fun U => U.heap.size = sz ∧ va_P (dC, dI) vwCl [(h0, .inr (15, fs_h0)), (qf, .inr (13, fs_qf))] U.heap ∧ va_K (dC, dI) vwCl [] U ∧ va_D (fun _ => True) [(h0, .inr (15, fs_h0)), (qf, .inr (13, fs_qf))] ∧ w_N U)) (va_Qi (fun (r : Int32) (th : Int32) => (th = 0 ∧ r = 0 ∧ kIn x0 0 2) ∨ (th = 1 ∧ ¬ kIn x0 0 2)) (fun th t => ∃ (fs_e : List Value), va_P (dC, dI) vwCl [(h0, .inr (15, fs_e))] t.heap ∧ va_K (dC, dI) vwCl [] t ∧ va_D (va_A [(h0, .inr (15, fs_h0)), (qf, .inr (13, fs_qf))] sz) [(h0, .inr (15, fs_e))] ∧ mF 89 [(0, .int th)] fs_e) (va_A [(h0, .inr (15, fs_h0)), (qf, .inr (13, fs_qf))] sz)) 0 0 (va_A [(h0, .inr (15, fs_h0)), (qf, .inr (13, fs_qf))] sz) := by
  refine Met.ofW (cc := cX15_told) (maxL := 2) (ret := (some .int)) (by decide) rfl ?_
  intro p e s m args below meth c s₁ B hml hv
  obtain ⟨rfl, hsz, hP, hK, hD0, hN⟩ := hv
  have hx := B.exec
  have hb := B.bytes
  have hr := B.returns
  have hts := atoms_spec (ws := wv_m_told) B.pre
  have hown : s.vm.findClass RX15 = some m.cls := findClass_of_methodNamed B.named
  have hlocks := B.notSynchronized
  subst hsz
  have hD := hD0.self (sz := s.heap.size)
  generalize hAe : va_A [(h0, .inr (15, fs_h0)), (qf, .inr (13, fs_qf))] s.heap.size = A at hD ⊢
  have hA : ∀ q : Nat, s.heap.size ≤ q → A q := fun q h => by rw [← hAe]; exact Or.inr h
  obtain ⟨H, hHe, hP, hS⟩ : ∃ H : Heap, H = s.heap ∧ va_P (dC, dI) vwCl [(h0, .inr (15, fs_h0)), (qf, .inr (13, fs_qf))] H ∧ va_S A s.heap H [] := ⟨s.heap, rfl, hP, va_S.rf⟩
  have hl := lv_entry ([.ref h0, .int x0]) (n := 2) (Nat.le_of_ble_eq_true rfl)
  rw [lg_entry_eq]
  generalize (lg_sl ([.ref h0, .int x0]) ++ List.replicate (2 - (lg_sl ([.ref h0, .int x0])).length) Slot.unset).toArray = ls at hl ⊢
  have hl : lv_has ls 2 [(0, .ref h0), (1, .int x0)] := hl
  rw [← hHe]; clear hHe
  refine lv_aload_n hx hb dX15_told_0 rfl (lv_at hl 0 rfl) ?_
  refine lv_iconst (v := 0) hx hb dX15_told_1 (by decide) ?_
  refine va_put (D := (dC, dI)) (ci := 15) (v := .int 0) (ty := .int) (C := RX15) (T := TX15) (N := 89) hx hb hts (in_m_told_X15) tyX15 tyX15_ok nmX15 hown hK hP hD hS 0 rfl rfl 0 (by decide) (hts (.fieldLink RX15 296 "MotionSignsModel" "thrown" "I") (List.mem_of_getElem? (i := 1) rfl)) (fun _ h9 => h9) rfl (tyX15_ok 0 (by decide)) rfl rfl (mF.lt hF_h0 (by decide)) dX15_told_2 ?_
  clear hP hD hS; try clear H
  intro H locs hP hD hS
  have hF0 := mF.sub (L' := [(18, .int 0), (19, .int 0), (20, .int (-1)), (21, .int 0), (22, .int 0), (23, .int 0), (24, .int 0), (25, .int 0), (27, .int 0), (28, .int 0), (29, .int 0), (35, .int 0), (17, .int (-1)), (26, .ref qfed), (30, .ref qf), (31, .ref qfd), (33, .ref qs), (36, .ref qk)]) hF_h0 [1, 2, 3, 4, 5, 6, 7, 8, 9, 10, 11, 12, 13, 14, 15, 16, 17, 18] rfl
  have hF1 := mF.put hF0 0 (.int 0) (by decide) rfl
  replace hP : va_P (dC, dI) vwCl [(h0, .inr (15, (fs_h0.set 0 (.int 0)))), (qf, .inr (13, fs_qf))] H := hP
  replace hD : va_D A [(h0, .inr (15, (fs_h0.set 0 (.int 0)))), (qf, .inr (13, fs_qf))] := hD
  generalize fs_h0.set 0 (.int 0) = fs_1 at hP hD hF1
  replace hF_h0 : mF 89 [(0, .int 0), (18, .int 0), (19, .int 0), (20, .int (-1)), (21, .int 0), (22, .int 0), (23, .int 0), (24, .int 0), (25, .int 0), (27, .int 0), (28, .int 0), (29, .int 0), (35, .int 0), (17, .int (-1)), (26, .ref qfed), (30, .ref qf), (31, .ref qfd), (33, .ref qs), (36, .ref qk)] fs_1 := hF1
  clear hF1 hF0
  replace hP : va_P (dC, dI) vwCl [(h0, .inr (15, fs_1)), (qf, .inr (13, fs_qf))] H := hP
  replace hD : va_D A [(h0, .inr (15, fs_1)), (qf, .inr (13, fs_qf))] := hD
  refine lv_aload_n hx hb dX15_told_5 rfl (lv_at hl 0 rfl) ?_
  refine lv_iload_n hx hb dX15_told_6 rfl (lv_at hl 1 rfl) ?_
  refine lv_iconst (v := 0) hx hb dX15_told_7 (by decide) ?_
  refine lv_iconst (v := 2) hx hb dX15_told_8 (by decide) ?_
  have hPc := hP.sub (ws' := []) [] rfl
  have hDc := hD.sub (ws' := []) [] (by decide) rfl
  have hKc := hK.sub (tys' := []) [] rfl
  have hFc := va_free (wc := []) hD hS hA [] rfl
  refine va_calli (va_runS (As := [.int x0, .int 0, .int 2]) (rest := [.ref h0]) ⟨hx, hb, hml, hown, hts⟩ (c_m_in l dC dI x0 0 2 H.size) (va_cwS 3 hts g_m_told_m_in_420 rfl rfl rfl hd_X15_in ⟨Nat.le_of_ble_eq_true rfl, Nat.le_of_ble_eq_true rfl⟩) ⟨fun a U g mk q => by obtain ⟨q0, q1, qP, qK, qD, qE0⟩ := q; exact ⟨q0, q1, qP, va_K.moved (u := U) (U := U.calling g mk a) (Vm.Alike.refl U.vm) qK, qD, w_N.same rfl qE0⟩, fun U hU hW => ⟨rfl, by rw [hU], by rw [hU]; exact hPc, va_K.moved hW.alike hKc, hDc.weaken (fun _ _ _ _ => trivial), w_N.warm hW hN⟩⟩ rfl rfl hl.1 rfl (lv_room (Nat.le_of_ble_eq_true rfl)) dX15_told_9 ⟨(Nat.le_of_ble_eq_true rfl), (Nat.le_of_ble_eq_true rfl)⟩) hS (fun q _ h => hFc q h) hFc (fun r_2 u t H1 locs1 ht hvm hw hB hz1 hk1 hS1 => ?_)
  obtain ⟨hP1, hK1, hD1⟩ := hB
  rw [ht] at hP1
  have hK1 := va_K.moved hvm.symm hK1
  have hJ := va_join (wr := [(h0, .inr (15, fs_1)), (qf, .inr (13, fs_qf))]) (w1 := []) hP hD [] [0, 1] rfl rfl (by decide) (by decide) hk1 hFc hP1 hD1
  clear hP hD hPc hDc hKc hFc hz1; try clear hk1
  obtain ⟨hP, hD⟩ := hJ
  replace hK := (hK.sub (tys' := []) [] rfl).app (hK1.sub (tys' := []) [] rfl)
  clear hP1 hK1 hD1 hvm ht hS; try clear t
  try clear H
  revert hS1
  intro hS
  generalize H1 = H at hP hS ⊢; try clear H1
  replace hP : va_P (dC, dI) vwCl [(h0, .inr (15, fs_1)), (qf, .inr (13, fs_qf))] H := hP
  replace hD : va_D A [(h0, .inr (15, fs_1)), (qf, .inr (13, fs_qf))] := hD
  replace hK : va_K (dC, dI) vwCl [] s := hK
  have hw_3 : (r_2 = 1 ∧ kIn x0 0 2) ∨ (r_2 = 0 ∧ ¬ kIn x0 0 2) := hw; clear hw
  rcases hw_3 with ⟨ehw_3, hw_3⟩ | ⟨ehw_3, hw_3⟩
  · skip
    subst ehw_3
    refine lv_if_ne (tgt := 19) hx hb dX15_told_12 (by decide) (fun _ => ?_) (fun hc => absurd hc (by decide))
    refine lv_iconst (v := 0) hx hb dX15_told_19 (by decide) ?_
    refine lv_iconst (v := 1) hx hb dX15_told_20 (by decide) ?_
    have hPc := hP.sub (ws' := [(h0, .inr (15, fs_1))]) [0] rfl
    have hDc := hD.sub (ws' := [(h0, .inr (15, fs_1))]) [0] (by decide) rfl
    have hKc := hK.sub (tys' := []) [] rfl
    have hFc := va_free (wc := [(h0, .inr (15, fs_1))]) hD hS hA [0] rfl
    refine va_calli (va_runV (As := [.int 0, .int 1]) (rest := []) ⟨hx, hb, hml, hown, hts⟩ (c_m_bad0 l dC dI h0 1 fs_1 (mF.sub hF_h0 [0] rfl) H.size) (cwV 2 hts g_m_told_m_bad0_424 rfl rfl rfl hv_X15_bad ⟨Nat.le_of_ble_eq_true rfl, Nat.le_of_ble_eq_true rfl⟩) ⟨fun a U g mk q => by obtain ⟨q0, q1, qP, qK, qD, qE0⟩ := q; exact ⟨q0, q1, qP, va_K.moved (u := U) (U := U.calling g mk a) (Vm.Alike.refl U.vm) qK, qD, w_N.same rfl qE0⟩, va_recv hKc hPc (ci := 15) (q0 := 0) rfl rfl, fun U hU hW => ⟨rfl, by rw [hU], by rw [hU]; exact hPc, va_K.moved hW.alike hKc, hDc.weaken (fun _ _ _ _ => trivial), w_N.warm hW hN⟩⟩ rfl rfl hl.1 rfl (lv_room (Nat.le_of_ble_eq_true rfl)) dX15_told_21 ⟨(Nat.le_of_ble_eq_true rfl), (Nat.le_of_ble_eq_true rfl)⟩) hS (fun q _ h => hFc q h) hFc (fun r_4 u t H1 locs1 ht hvm hw hB hz1 hk1 hS1 => ?_)
    obtain ⟨hP1, hK1, hD1⟩ := hB
    rw [ht] at hP1
    have hK1 := va_K.moved hvm.symm hK1
    have hJ := va_join (wr := [(qf, .inr (13, fs_qf))]) (w1 := [(h0, .inr (15, fs_1))]) hP hD [0] [1] rfl rfl (by decide) (by decide) hk1 hFc hP1 hD1
    clear hP hD hPc hDc hKc hFc hz1; try clear hk1
    obtain ⟨hP, hD⟩ := hJ
    replace hK := (hK.sub (tys' := []) [] rfl).app (hK1.sub (tys' := []) [] rfl)
    clear hP1 hK1 hD1 hvm ht hS; try clear t
    try clear H
    revert hS1
    intro hS
    generalize H1 = H at hP hS ⊢; try clear H1
    replace hP : va_P (dC, dI) vwCl [(qf, .inr (13, fs_qf)), (h0, .inr (15, fs_1))] H := hP
    replace hD : va_D A [(qf, .inr (13, fs_qf)), (h0, .inr (15, fs_1))] := hD
    replace hK : va_K (dC, dI) vwCl [] s := hK
    have hw_5 : r_4 = 0 := hw; clear hw
    subst hw_5
    refine lv_if_eq (tgt := 29) hx hb dX15_told_24 (by decide) (fun _ => ?_) (fun hc => absurd (by decide) hc)
    refine lv_iload_n hx hb dX15_told_29 rfl (lv_at hl 1 rfl) ?_
    refine lv_if_ne (tgt := 40) hx hb dX15_told_30 (by decide) (fun hc_6 => ?_) (fun hc_6 => ?_)
    · skip
      refine lv_iload_n hx hb dX15_told_40 rfl (lv_at hl 1 rfl) ?_
      refine lv_iconst (v := 1) hx hb dX15_told_41 (by decide) ?_
      refine lv_icmp_ne (tgt := 55) hx hb dX15_told_42 (by decide) (fun hc_7 => ?_) (fun hc_7 => ?_)
      · skip
        refine lv_aload_n hx hb dX15_told_55 rfl (lv_at hl 0 rfl) ?_
        have hPc := hP.sub (ws' := [(h0, .inr (15, fs_1)), (qf, .inr (13, fs_qf))]) [1, 0] rfl
        have hDc := hD.sub (ws' := [(h0, .inr (15, fs_1)), (qf, .inr (13, fs_qf))]) [1, 0] (by decide) rfl
        have hKc := hK.sub (tys' := []) [] rfl
        have hFc := va_free (wc := [(h0, .inr (15, fs_1)), (qf, .inr (13, fs_qf))]) hD hS hA [1, 0] rfl
        refine va_calli (va_runV (As := []) (rest := []) ⟨hx, hb, hml, hown, hts⟩ (c_m_highest l dC dI h0 qf fs_1 fs_qf (mF.sub hF_h0 [15] rfl) (mF.sub hF_qf [0] rfl) H.size) (cwV 0 hts g_m_told_m_highest_456 rfl rfl rfl hv_X15_highest ⟨Nat.le_of_ble_eq_true rfl, Nat.le_of_ble_eq_true rfl⟩) ⟨fun a U g mk q => by obtain ⟨q0, q1, qP, qK, qD, qE0⟩ := q; exact ⟨q0, q1, qP, va_K.moved (u := U) (U := U.calling g mk a) (Vm.Alike.refl U.vm) qK, qD, w_N.same rfl qE0⟩, va_recv hKc hPc (ci := 15) (q0 := 0) rfl rfl, fun U hU hW => ⟨rfl, by rw [hU], by rw [hU]; exact hPc, va_K.moved hW.alike hKc, hDc.weaken (fun _ _ _ _ => trivial), w_N.warm hW hN⟩⟩ rfl rfl hl.1 rfl (lv_room (Nat.le_of_ble_eq_true rfl)) dX15_told_56 ⟨(Nat.le_of_ble_eq_true rfl), (Nat.le_of_ble_eq_true rfl)⟩) hS (fun q _ h => hFc q h) hFc (fun r_8 u t H1 locs1 ht hvm hw hB hz1 hk1 hS1 => ?_)
        obtain ⟨hP1, hK1, hD1⟩ := hB
        rw [ht] at hP1
        have hK1 := va_K.moved hvm.symm hK1
        have hJ := va_join (wr := []) (w1 := [(h0, .inr (15, fs_1)), (qf, .inr (13, fs_qf))]) hP hD [1, 0] [] rfl rfl (by decide) (by decide) hk1 hFc hP1 hD1
        clear hP hD hPc hDc hKc hFc hz1; try clear hk1
        obtain ⟨hP, hD⟩ := hJ
        replace hK := (hK.sub (tys' := []) [] rfl).app (hK1.sub (tys' := []) [] rfl)
        clear hP1 hK1 hD1 hvm ht hS; try clear t
        try clear H
        revert hS1
        intro hS
        generalize H1 = H at hP hS ⊢; try clear H1
        replace hP : va_P (dC, dI) vwCl [(h0, .inr (15, fs_1)), (qf, .inr (13, fs_qf))] H := hP
        replace hD : va_D A [(h0, .inr (15, fs_1)), (qf, .inr (13, fs_qf))] := hD
        replace hK : va_K (dC, dI) vwCl [] s := hK
        have hw_9 : r_8 = 0 := hw; clear hw
        subst hw_9
        have hP9 := hP.sub (ws' := [(h0, .inr (15, fs_1))]) [0] rfl
        have hD9 := hD.sub (ws' := [(h0, .inr (15, fs_1))]) [0] (by decide) rfl
        have hK9 := hK.sub (tys' := []) [] rfl
        rw [← hAe] at hD9
        refine W.widen (k := 0) (n := 0) (Nat.le_of_ble_eq_true rfl) (Nat.le_of_ble_eq_true rfl) ?_
        subst hAe
        exact (W.iret (v := 0) hx hb hr (fun t ht hW => ⟨⟨0, 0, rfl, Or.inl ⟨rfl, rfl, hw_3⟩, fs_1, by rw [ht]; exact hP9, va_K.moved hW.alike hK9, hD9, (mF.sub hF_h0 [0] rfl)⟩, hS.F ht⟩) hS.2.2 dX15_told_59)
      · skip
        refine lv_aload_n hx hb dX15_told_45 rfl (lv_at hl 0 rfl) ?_
        refine va_get (D := (dC, dI)) (ci := 15) (v := .ref qf) (C := RX15) (T := TX15) (N := 89) hx hb hts (in_m_told_X15) hown hK hP 1 rfl rfl 30 (by decide) (hts (.fieldLink RX15 130 "MotionSignsModel" "f" "LMotionSignsModel$Poly;") (List.mem_of_getElem? (i := 11) rfl)) (fun _ h9 => h9) (mF.get hF_h0 15 rfl) dX15_told_46 ?_
        have hPc := hP.sub (ws' := [(qf, .inr (13, fs_qf))]) [0] rfl
        have hDc := hD.sub (ws' := [(qf, .inr (13, fs_qf))]) [0] (by decide) rfl
        have hKc := hK.sub (tys' := []) [] rfl
        have hFc := va_free (wc := [(qf, .inr (13, fs_qf))]) hD hS hA [0] rfl
        refine va_calli (va_runVN (As := []) (rest := []) ⟨hx, hb, hml, hown, hts⟩ (c_q_terms l dC dI qf fs_qf (mF.sub hF_qf [0] rfl) H.size) ⟨va_cnB 0 hts g_m_told_q_terms_344 rfl rfl rfl (hN.1 (RX15, 344, yX13_terms, RX15) (List.mem_of_getElem? (i := 33) rfl)) (hts (.initialized RX13) (List.mem_of_getElem? (i := 12) rfl)) hd_X13_terms ⟨Nat.le_of_ble_eq_true rfl, Nat.le_of_ble_eq_true rfl⟩, (hts (.instanceMethod yX13_terms) (List.mem_of_getElem? (i := 13) rfl)), (hts (.selects RX13 yX13_terms yX13_terms) (List.mem_of_getElem? (i := 14) rfl))⟩ ⟨fun a U g mk q => by obtain ⟨q0, q1, qP, qK, qD, qE0⟩ := q; exact ⟨q0, q1, qP, va_K.moved (u := U) (U := U.calling g mk a) (Vm.Alike.refl U.vm) qK, qD, w_N.same rfl qE0⟩, va_recv hKc hPc (ci := 13) (q0 := 0) rfl rfl, fun U hU hW => ⟨rfl, by rw [hU], by rw [hU]; exact hPc, va_K.moved hW.alike hKc, hDc.weaken (fun _ _ _ _ => trivial), w_N.warm hW hN⟩⟩ rfl rfl hl.1 rfl (lv_room (Nat.le_of_ble_eq_true rfl)) dX15_told_49 ⟨(Nat.le_of_ble_eq_true rfl), (Nat.le_of_ble_eq_true rfl)⟩) hS (fun q _ h => hFc q h) hFc (fun r_10 u t H1 locs1 ht hvm hw hB hz1 hk1 hS1 => ?_)
        obtain ⟨hP1, hK1, hD1⟩ := hB
        rw [ht] at hP1
        have hK1 := va_K.moved hvm.symm hK1
        have hJ := va_join (wr := [(h0, .inr (15, fs_1))]) (w1 := [(qf, .inr (13, fs_qf))]) hP hD [0] [1] rfl rfl (by decide) (by decide) hk1 hFc hP1 hD1
        clear hP hD hPc hDc hKc hFc hz1; try clear hk1
        obtain ⟨hP, hD⟩ := hJ
        replace hK := (hK.sub (tys' := []) [] rfl).app (hK1.sub (tys' := []) [] rfl)
        clear hP1 hK1 hD1 hvm ht hS; try clear t
        try clear H
        revert hS1
        intro hS
        generalize H1 = H at hP hS ⊢; try clear H1
        replace hP : va_P (dC, dI) vwCl [(h0, .inr (15, fs_1)), (qf, .inr (13, fs_qf))] H := hP
        replace hD : va_D A [(h0, .inr (15, fs_1)), (qf, .inr (13, fs_qf))] := hD
        replace hK : va_K (dC, dI) vwCl [] s := hK
        have hw_11 : r_10 = 0 := hw; clear hw
        subst hw_11
        refine lv_goto (tgt := 59) hx hb dX15_told_52 (by decide) ?_
        have hP9 := hP.sub (ws' := [(h0, .inr (15, fs_1))]) [0] rfl
        have hD9 := hD.sub (ws' := [(h0, .inr (15, fs_1))]) [0] (by decide) rfl
        have hK9 := hK.sub (tys' := []) [] rfl
        rw [← hAe] at hD9
        refine W.widen (k := 0) (n := 0) (Nat.le_of_ble_eq_true rfl) (Nat.le_of_ble_eq_true rfl) ?_
        subst hAe
        exact (W.iret (v := 0) hx hb hr (fun t ht hW => ⟨⟨0, 0, rfl, Or.inl ⟨rfl, rfl, hw_3⟩, fs_1, by rw [ht]; exact hP9, va_K.moved hW.alike hK9, hD9, (mF.sub hF_h0 [0] rfl)⟩, hS.F ht⟩) hS.2.2 dX15_told_59)
    · skip
      refine lv_aload_n hx hb dX15_told_33 rfl (lv_at hl 0 rfl) ?_
      refine va_get (D := (dC, dI)) (ci := 15) (v := .int 0) (C := RX15) (T := TX15) (N := 89) hx hb hts (in_m_told_X15) hown hK hP 1 rfl rfl 28 (by decide) (hts (.fieldLink RX15 443 "MotionSignsModel" "kind" "I") (List.mem_of_getElem? (i := 15) rfl)) (fun _ h9 => h9) (mF.get hF_h0 10 rfl) dX15_told_34 ?_
      refine lv_goto (tgt := 59) hx hb dX15_told_37 (by decide) ?_
      have hP9 := hP.sub (ws' := [(h0, .inr (15, fs_1))]) [1] rfl
      have hD9 := hD.sub (ws' := [(h0, .inr (15, fs_1))]) [1] (by decide) rfl
      have hK9 := hK.sub (tys' := []) [] rfl
      rw [← hAe] at hD9
      refine W.widen (k := 0) (n := 0) (Nat.le_of_ble_eq_true rfl) (Nat.le_of_ble_eq_true rfl) ?_
      subst hAe
      exact (W.iret (v := 0) hx hb hr (fun t ht hW => ⟨⟨0, 0, rfl, Or.inl ⟨rfl, rfl, hw_3⟩, fs_1, by rw [ht]; exact hP9, va_K.moved hW.alike hK9, hD9, (mF.sub hF_h0 [0] rfl)⟩, hS.F ht⟩) hS.2.2 dX15_told_59)
  · skip
    subst ehw_3
    refine lv_if_ne (tgt := 19) hx hb dX15_told_12 (by decide) (fun hc => absurd (by decide) hc) (fun _ => ?_)
    refine lv_iconst (v := 1) hx hb dX15_told_15 (by decide) ?_
    refine lv_goto (tgt := 20) hx hb dX15_told_16 (by decide) ?_
    refine lv_iconst (v := 1) hx hb dX15_told_20 (by decide) ?_
    have hPc := hP.sub (ws' := [(h0, .inr (15, fs_1))]) [0] rfl
    have hDc := hD.sub (ws' := [(h0, .inr (15, fs_1))]) [0] (by decide) rfl
    have hKc := hK.sub (tys' := []) [] rfl
    have hFc := va_free (wc := [(h0, .inr (15, fs_1))]) hD hS hA [0] rfl
    refine va_calli (va_runV (As := [.int 1, .int 1]) (rest := []) ⟨hx, hb, hml, hown, hts⟩ (c_m_bad1 l dC dI h0 qfed qf qfd qs qk fs_1 (mF.sub hF_h0 [0, 1, 2, 3, 4, 5, 6, 7, 8, 9, 10, 11, 12, 13, 14, 15, 16, 17, 18] rfl) H.size) (cwV 2 hts g_m_told_m_bad1_424 rfl rfl rfl hv_X15_bad ⟨Nat.le_of_ble_eq_true rfl, Nat.le_of_ble_eq_true rfl⟩) ⟨fun a U g mk q => by obtain ⟨q0, q1, qP, qK, qD, qE0⟩ := q; exact ⟨q0, q1, qP, va_K.moved (u := U) (U := U.calling g mk a) (Vm.Alike.refl U.vm) qK, qD, w_N.same rfl qE0⟩, va_recv hKc hPc (ci := 15) (q0 := 0) rfl rfl, fun U hU hW => ⟨rfl, by rw [hU], by rw [hU]; exact hPc, va_K.moved hW.alike hKc, hDc.weaken (fun _ _ _ _ => trivial), w_N.warm hW hN⟩⟩ rfl rfl hl.1 rfl (lv_room (Nat.le_of_ble_eq_true rfl)) dX15_told_21 ⟨(Nat.le_of_ble_eq_true rfl), (Nat.le_of_ble_eq_true rfl)⟩) hS (fun q _ h => hFc q h) hFc (fun r_12 u t H1 locs1 ht hvm hw hB hz1 hk1 hS1 => ?_)
    obtain ⟨fs_13, hP1, hK1, hD1, hp_14⟩ := hB
    rw [ht] at hP1
    have hK1 := va_K.moved hvm.symm hK1
    have hJ := va_join (wr := [(qf, .inr (13, fs_qf))]) (w1 := [(h0, .inr (15, fs_13))]) hP hD [0] [1] rfl rfl (by decide) (by decide) hk1 hFc hP1 hD1
    clear hP hD hPc hDc hKc hFc hz1; try clear hk1
    obtain ⟨hP, hD⟩ := hJ
    replace hK := (hK.sub (tys' := []) [] rfl).app (hK1.sub (tys' := []) [] rfl)
    clear hP1 hK1 hD1 hvm ht hS; try clear t
    try clear H
    revert hS1
    intro hS
    generalize H1 = H at hP hS ⊢; try clear H1
    replace hP : va_P (dC, dI) vwCl [(qf, .inr (13, fs_qf)), (h0, .inr (15, fs_13))] H := hP
    replace hD : va_D A [(qf, .inr (13, fs_qf)), (h0, .inr (15, fs_13))] := hD
    replace hK : va_K (dC, dI) vwCl [] s := hK
    have hw_15 : r_12 = 1 := hw; clear hw
    subst hw_15
    refine lv_if_eq (tgt := 29) hx hb dX15_told_24 (by decide) (fun hc => absurd hc (by decide)) (fun _ => ?_)
    refine lv_iconst (v := 0) hx hb dX15_told_27 (by decide) ?_
    have hP9 := hP.sub (ws' := [(h0, .inr (15, fs_13))]) [1] rfl
    have hD9 := hD.sub (ws' := [(h0, .inr (15, fs_13))]) [1] (by decide) rfl
    have hK9 := hK.sub (tys' := []) [] rfl
    rw [← hAe] at hD9
    refine W.widen (k := 0) (n := 0) (Nat.le_of_ble_eq_true rfl) (Nat.le_of_ble_eq_true rfl) ?_
    subst hAe
    exact (W.iret (v := 0) hx hb hr (fun t ht hW => ⟨⟨0, 1, rfl, Or.inr ⟨rfl, hw_3⟩, fs_13, by rw [ht]; exact hP9, va_K.moved hW.alike hK9, hD9, (mF.sub hp_14 [0] rfl)⟩, hS.F ht⟩) hS.2.2 dX15_told_28)
def wv_m_one0 : List Cond := .code yX15_one cX15_one 1 (some .long) :: ([] ++ ([]))
theorem gw_m_one0 : wv_m_one0.all goodWord = true := by decide +kernel
set_option maxHeartbeats 4000000 in
set_option maxRecDepth 100000 in
/-- one -/
theorem c_m_one0 (l : Launch) (dC : Nat → ClassId) (dI : Nat → Nat → Nat) (sz : Nat) : Met l yX15_one wv_m_one0 ({ frames := 0, cells := 0, slots := 0, locals := 0 }) (va_Pc [.int 0] (fun U => U.heap.size = sz ∧ va_P (dC, dI) vwCl [] U.heap ∧ va_K (dC, dI) vwCl [] U ∧ va_D (fun _ => True) [] ∧ w_N U)) (va_Ql (fun (r : Int64) (_ : Unit) => r = 1) (fun _ t => va_P (dC, dI) vwCl [] t.heap ∧ va_K (dC, dI) vwCl [] t ∧ va_D (va_A [] sz) []) (va_A [] sz)) 0 0 (va_A [] sz) := by
  refine Met.ofW (cc := cX15_one) (maxL := 1) (ret := (some .long)) (by decide) rfl ?_
  intro p e s m args below meth c s₁ B hml hv
  obtain ⟨rfl, hsz, hP, hK, hD0, hN⟩ := hv
  have hx := B.exec
  have hb := B.bytes
  have hr := B.returns
  have hts := atoms_spec (ws := wv_m_one0) B.pre
  have hown : s.vm.findClass RX15 = some m.cls := findClass_of_methodNamed B.named
  have hlocks := B.notSynchronized
  subst hsz
  have hD := hD0.self (sz := s.heap.size)
  generalize hAe : va_A [] s.heap.size = A at hD ⊢
  have hA : ∀ q : Nat, s.heap.size ≤ q → A q := fun q h => by rw [← hAe]; exact Or.inr h
  obtain ⟨H, hHe, hP, hS⟩ : ∃ H : Heap, H = s.heap ∧ va_P (dC, dI) vwCl [] H ∧ va_S A s.heap H [] := ⟨s.heap, rfl, hP, va_S.rf⟩
  have hl := lv_entry ([.int 0]) (n := 1) (Nat.le_of_ble_eq_true rfl)
  rw [lg_entry_eq]
  generalize (lg_sl ([.int 0]) ++ List.replicate (1 - (lg_sl ([.int 0])).length) Slot.unset).toArray = ls at hl ⊢
  have hl : lv_has ls 1 [(0, .int 0)] := hl
  rw [← hHe]; clear hHe
  refine lv_lconst (v := 1) hx hb dX15_one_0 (by decide) ?_
  refine lv_bipush (v := 6) hx hb dX15_one_1 (by decide) ?_
  refine lv_iload_n hx hb dX15_one_3 rfl (lv_at hl 0 rfl) ?_
  refine lv_imul hx hb dX15_one_4 ?_
  refine lv_topi (fun v_1 ev_1 => ?_)
  have ev_1 : v_1 = 0 := ev_1.trans (by decide)
  subst ev_1
  refine lv_lshl (v := 1) hx hb dX15_one_5 (by decide) ?_
  have hP9 := hP.sub (ws' := []) [] rfl
  have hD9 := hD.sub (ws' := []) [] (by decide) rfl
  have hK9 := hK.sub (tys' := []) [] rfl
  rw [← hAe] at hD9
  refine W.widen (k := 0) (n := 0) (Nat.le_of_ble_eq_true rfl) (Nat.le_of_ble_eq_true rfl) ?_
  subst hAe
  exact (W.lret (v := 1) hx hb hr (fun t ht hW => ⟨⟨1, (), rfl, rfl, by rw [ht]; exact hP9, va_K.moved hW.alike hK9, hD9⟩, hS.F ht⟩) hS.2.2 dX15_one_6)
def wv_m_one1 : List Cond := .code yX15_one cX15_one 1 (some .long) :: ([] ++ ([]))
theorem gw_m_one1 : wv_m_one1.all goodWord = true := by decide +kernel
set_option maxHeartbeats 4000000 in
set_option maxRecDepth 100000 in
/-- one -/
theorem c_m_one1 (l : Launch) (dC : Nat → ClassId) (dI : Nat → Nat → Nat) (sz : Nat) : Met l yX15_one wv_m_one1 ({ frames := 0, cells := 0, slots := 0, locals := 0 }) (va_Pc [.int 1] (fun U => U.heap.size = sz ∧ va_P (dC, dI) vwCl [] U.heap ∧ va_K (dC, dI) vwCl [] U ∧ va_D (fun _ => True) [] ∧ w_N U)) (va_Ql (fun (r : Int64) (_ : Unit) => r = 64) (fun _ t => va_P (dC, dI) vwCl [] t.heap ∧ va_K (dC, dI) vwCl [] t ∧ va_D (va_A [] sz) []) (va_A [] sz)) 0 0 (va_A [] sz) := by
  refine Met.ofW (cc := cX15_one) (maxL := 1) (ret := (some .long)) (by decide) rfl ?_
  intro p e s m args below meth c s₁ B hml hv
  obtain ⟨rfl, hsz, hP, hK, hD0, hN⟩ := hv
  have hx := B.exec
  have hb := B.bytes
  have hr := B.returns
  have hts := atoms_spec (ws := wv_m_one1) B.pre
  have hown : s.vm.findClass RX15 = some m.cls := findClass_of_methodNamed B.named
  have hlocks := B.notSynchronized
  subst hsz
  have hD := hD0.self (sz := s.heap.size)
  generalize hAe : va_A [] s.heap.size = A at hD ⊢
  have hA : ∀ q : Nat, s.heap.size ≤ q → A q := fun q h => by rw [← hAe]; exact Or.inr h
  obtain ⟨H, hHe, hP, hS⟩ : ∃ H : Heap, H = s.heap ∧ va_P (dC, dI) vwCl [] H ∧ va_S A s.heap H [] := ⟨s.heap, rfl, hP, va_S.rf⟩
  have hl := lv_entry ([.int 1]) (n := 1) (Nat.le_of_ble_eq_true rfl)
  rw [lg_entry_eq]
  generalize (lg_sl ([.int 1]) ++ List.replicate (1 - (lg_sl ([.int 1])).length) Slot.unset).toArray = ls at hl ⊢
  have hl : lv_has ls 1 [(0, .int 1)] := hl
  rw [← hHe]; clear hHe
  refine lv_lconst (v := 1) hx hb dX15_one_0 (by decide) ?_
  refine lv_bipush (v := 6) hx hb dX15_one_1 (by decide) ?_
  refine lv_iload_n hx hb dX15_one_3 rfl (lv_at hl 0 rfl) ?_
  refine lv_imul hx hb dX15_one_4 ?_
  refine lv_topi (fun v_1 ev_1 => ?_)
  have ev_1 : v_1 = 6 := ev_1.trans (by decide)
  subst ev_1
  refine lv_lshl (v := 64) hx hb dX15_one_5 (by decide) ?_
  have hP9 := hP.sub (ws' := []) [] rfl
  have hD9 := hD.sub (ws' := []) [] (by decide) rfl
  have hK9 := hK.sub (tys' := []) [] rfl
  rw [← hAe] at hD9
  refine W.widen (k := 0) (n := 0) (Nat.le_of_ble_eq_true rfl) (Nat.le_of_ble_eq_true rfl) ?_
  subst hAe
  exact (W.lret (v := 64) hx hb hr (fun t ht hW => ⟨⟨64, (), rfl, rfl, by rw [ht]; exact hP9, va_K.moved hW.alike hK9, hD9⟩, hS.F ht⟩) hS.2.2 dX15_one_6)
def wv_m_one2 : List Cond := .code yX15_one cX15_one 1 (some .long) :: ([] ++ ([]))
theorem gw_m_one2 : wv_m_one2.all goodWord = true := by decide +kernel
set_option maxHeartbeats 4000000 in
set_option maxRecDepth 100000 in
/-- one -/
theorem c_m_one2 (l : Launch) (dC : Nat → ClassId) (dI : Nat → Nat → Nat) (sz : Nat) : Met l yX15_one wv_m_one2 ({ frames := 0, cells := 0, slots := 0, locals := 0 }) (va_Pc [.int 2] (fun U => U.heap.size = sz ∧ va_P (dC, dI) vwCl [] U.heap ∧ va_K (dC, dI) vwCl [] U ∧ va_D (fun _ => True) [] ∧ w_N U)) (va_Ql (fun (r : Int64) (_ : Unit) => r = 4096) (fun _ t => va_P (dC, dI) vwCl [] t.heap ∧ va_K (dC, dI) vwCl [] t ∧ va_D (va_A [] sz) []) (va_A [] sz)) 0 0 (va_A [] sz) := by
  refine Met.ofW (cc := cX15_one) (maxL := 1) (ret := (some .long)) (by decide) rfl ?_
  intro p e s m args below meth c s₁ B hml hv
  obtain ⟨rfl, hsz, hP, hK, hD0, hN⟩ := hv
  have hx := B.exec
  have hb := B.bytes
  have hr := B.returns
  have hts := atoms_spec (ws := wv_m_one2) B.pre
  have hown : s.vm.findClass RX15 = some m.cls := findClass_of_methodNamed B.named
  have hlocks := B.notSynchronized
  subst hsz
  have hD := hD0.self (sz := s.heap.size)
  generalize hAe : va_A [] s.heap.size = A at hD ⊢
  have hA : ∀ q : Nat, s.heap.size ≤ q → A q := fun q h => by rw [← hAe]; exact Or.inr h
  obtain ⟨H, hHe, hP, hS⟩ : ∃ H : Heap, H = s.heap ∧ va_P (dC, dI) vwCl [] H ∧ va_S A s.heap H [] := ⟨s.heap, rfl, hP, va_S.rf⟩
  have hl := lv_entry ([.int 2]) (n := 1) (Nat.le_of_ble_eq_true rfl)
  rw [lg_entry_eq]
  generalize (lg_sl ([.int 2]) ++ List.replicate (1 - (lg_sl ([.int 2])).length) Slot.unset).toArray = ls at hl ⊢
  have hl : lv_has ls 1 [(0, .int 2)] := hl
  rw [← hHe]; clear hHe
  refine lv_lconst (v := 1) hx hb dX15_one_0 (by decide) ?_
  refine lv_bipush (v := 6) hx hb dX15_one_1 (by decide) ?_
  refine lv_iload_n hx hb dX15_one_3 rfl (lv_at hl 0 rfl) ?_
  refine lv_imul hx hb dX15_one_4 ?_
  refine lv_topi (fun v_1 ev_1 => ?_)
  have ev_1 : v_1 = 12 := ev_1.trans (by decide)
  subst ev_1
  refine lv_lshl (v := 4096) hx hb dX15_one_5 (by decide) ?_
  have hP9 := hP.sub (ws' := []) [] rfl
  have hD9 := hD.sub (ws' := []) [] (by decide) rfl
  have hK9 := hK.sub (tys' := []) [] rfl
  rw [← hAe] at hD9
  refine W.widen (k := 0) (n := 0) (Nat.le_of_ble_eq_true rfl) (Nat.le_of_ble_eq_true rfl) ?_
  subst hAe
  exact (W.lret (v := 4096) hx hb hr (fun t ht hW => ⟨⟨4096, (), rfl, rfl, by rw [ht]; exact hP9, va_K.moved hW.alike hK9, hD9⟩, hS.F ht⟩) hS.2.2 dX15_one_6)
def wv_m_one3 : List Cond := .code yX15_one cX15_one 1 (some .long) :: ([] ++ ([]))
theorem gw_m_one3 : wv_m_one3.all goodWord = true := by decide +kernel
set_option maxHeartbeats 4000000 in
set_option maxRecDepth 100000 in
/-- one -/
theorem c_m_one3 (l : Launch) (dC : Nat → ClassId) (dI : Nat → Nat → Nat) (sz : Nat) : Met l yX15_one wv_m_one3 ({ frames := 0, cells := 0, slots := 0, locals := 0 }) (va_Pc [.int 3] (fun U => U.heap.size = sz ∧ va_P (dC, dI) vwCl [] U.heap ∧ va_K (dC, dI) vwCl [] U ∧ va_D (fun _ => True) [] ∧ w_N U)) (va_Ql (fun (r : Int64) (_ : Unit) => r = 262144) (fun _ t => va_P (dC, dI) vwCl [] t.heap ∧ va_K (dC, dI) vwCl [] t ∧ va_D (va_A [] sz) []) (va_A [] sz)) 0 0 (va_A [] sz) := by
  refine Met.ofW (cc := cX15_one) (maxL := 1) (ret := (some .long)) (by decide) rfl ?_
  intro p e s m args below meth c s₁ B hml hv
  obtain ⟨rfl, hsz, hP, hK, hD0, hN⟩ := hv
  have hx := B.exec
  have hb := B.bytes
  have hr := B.returns
  have hts := atoms_spec (ws := wv_m_one3) B.pre
  have hown : s.vm.findClass RX15 = some m.cls := findClass_of_methodNamed B.named
  have hlocks := B.notSynchronized
  subst hsz
  have hD := hD0.self (sz := s.heap.size)
  generalize hAe : va_A [] s.heap.size = A at hD ⊢
  have hA : ∀ q : Nat, s.heap.size ≤ q → A q := fun q h => by rw [← hAe]; exact Or.inr h
  obtain ⟨H, hHe, hP, hS⟩ : ∃ H : Heap, H = s.heap ∧ va_P (dC, dI) vwCl [] H ∧ va_S A s.heap H [] := ⟨s.heap, rfl, hP, va_S.rf⟩
  have hl := lv_entry ([.int 3]) (n := 1) (Nat.le_of_ble_eq_true rfl)
  rw [lg_entry_eq]
  generalize (lg_sl ([.int 3]) ++ List.replicate (1 - (lg_sl ([.int 3])).length) Slot.unset).toArray = ls at hl ⊢
  have hl : lv_has ls 1 [(0, .int 3)] := hl
  rw [← hHe]; clear hHe
  refine lv_lconst (v := 1) hx hb dX15_one_0 (by decide) ?_
  refine lv_bipush (v := 6) hx hb dX15_one_1 (by decide) ?_
  refine lv_iload_n hx hb dX15_one_3 rfl (lv_at hl 0 rfl) ?_
  refine lv_imul hx hb dX15_one_4 ?_
  refine lv_topi (fun v_1 ev_1 => ?_)
  have ev_1 : v_1 = 18 := ev_1.trans (by decide)
  subst ev_1
  refine lv_lshl (v := 262144) hx hb dX15_one_5 (by decide) ?_
  have hP9 := hP.sub (ws' := []) [] rfl
  have hD9 := hD.sub (ws' := []) [] (by decide) rfl
  have hK9 := hK.sub (tys' := []) [] rfl
  rw [← hAe] at hD9
  refine W.widen (k := 0) (n := 0) (Nat.le_of_ble_eq_true rfl) (Nat.le_of_ble_eq_true rfl) ?_
  subst hAe
  exact (W.lret (v := 262144) hx hb hr (fun t ht hW => ⟨⟨262144, (), rfl, rfl, by rw [ht]; exact hP9, va_K.moved hW.alike hK9, hD9⟩, hS.F ht⟩) hS.2.2 dX15_one_6)
def wv_m_one4 : List Cond := .code yX15_one cX15_one 1 (some .long) :: ([] ++ ([]))
theorem gw_m_one4 : wv_m_one4.all goodWord = true := by decide +kernel
set_option maxHeartbeats 4000000 in
set_option maxRecDepth 100000 in
/-- one -/
theorem c_m_one4 (l : Launch) (dC : Nat → ClassId) (dI : Nat → Nat → Nat) (sz : Nat) : Met l yX15_one wv_m_one4 ({ frames := 0, cells := 0, slots := 0, locals := 0 }) (va_Pc [.int 4] (fun U => U.heap.size = sz ∧ va_P (dC, dI) vwCl [] U.heap ∧ va_K (dC, dI) vwCl [] U ∧ va_D (fun _ => True) [] ∧ w_N U)) (va_Ql (fun (r : Int64) (_ : Unit) => r = 16777216) (fun _ t => va_P (dC, dI) vwCl [] t.heap ∧ va_K (dC, dI) vwCl [] t ∧ va_D (va_A [] sz) []) (va_A [] sz)) 0 0 (va_A [] sz) := by
  refine Met.ofW (cc := cX15_one) (maxL := 1) (ret := (some .long)) (by decide) rfl ?_
  intro p e s m args below meth c s₁ B hml hv
  obtain ⟨rfl, hsz, hP, hK, hD0, hN⟩ := hv
  have hx := B.exec
  have hb := B.bytes
  have hr := B.returns
  have hts := atoms_spec (ws := wv_m_one4) B.pre
  have hown : s.vm.findClass RX15 = some m.cls := findClass_of_methodNamed B.named
  have hlocks := B.notSynchronized
  subst hsz
  have hD := hD0.self (sz := s.heap.size)
  generalize hAe : va_A [] s.heap.size = A at hD ⊢
  have hA : ∀ q : Nat, s.heap.size ≤ q → A q := fun q h => by rw [← hAe]; exact Or.inr h
  obtain ⟨H, hHe, hP, hS⟩ : ∃ H : Heap, H = s.heap ∧ va_P (dC, dI) vwCl [] H ∧ va_S A s.heap H [] := ⟨s.heap, rfl, hP, va_S.rf⟩
  have hl := lv_entry ([.int 4]) (n := 1) (Nat.le_of_ble_eq_true rfl)
  rw [lg_entry_eq]
  generalize (lg_sl ([.int 4]) ++ List.replicate (1 - (lg_sl ([.int 4])).length) Slot.unset).toArray = ls at hl ⊢
  have hl : lv_has ls 1 [(0, .int 4)] := hl
  rw [← hHe]; clear hHe
  refine lv_lconst (v := 1) hx hb dX15_one_0 (by decide) ?_
  refine lv_bipush (v := 6) hx hb dX15_one_1 (by decide) ?_
  refine lv_iload_n hx hb dX15_one_3 rfl (lv_at hl 0 rfl) ?_
  refine lv_imul hx hb dX15_one_4 ?_
  refine lv_topi (fun v_1 ev_1 => ?_)
  have ev_1 : v_1 = 24 := ev_1.trans (by decide)
  subst ev_1
  refine lv_lshl (v := 16777216) hx hb dX15_one_5 (by decide) ?_
  have hP9 := hP.sub (ws' := []) [] rfl
  have hD9 := hD.sub (ws' := []) [] (by decide) rfl
  have hK9 := hK.sub (tys' := []) [] rfl
  rw [← hAe] at hD9
  refine W.widen (k := 0) (n := 0) (Nat.le_of_ble_eq_true rfl) (Nat.le_of_ble_eq_true rfl) ?_
  subst hAe
  exact (W.lret (v := 16777216) hx hb hr (fun t ht hW => ⟨⟨16777216, (), rfl, rfl, by rw [ht]; exact hP9, va_K.moved hW.alike hK9, hD9⟩, hS.F ht⟩) hS.2.2 dX15_one_6)
def wv_m_one5 : List Cond := .code yX15_one cX15_one 1 (some .long) :: ([] ++ ([]))
theorem gw_m_one5 : wv_m_one5.all goodWord = true := by decide +kernel
set_option maxHeartbeats 4000000 in
set_option maxRecDepth 100000 in
/-- one -/
theorem c_m_one5 (l : Launch) (dC : Nat → ClassId) (dI : Nat → Nat → Nat) (sz : Nat) : Met l yX15_one wv_m_one5 ({ frames := 0, cells := 0, slots := 0, locals := 0 }) (va_Pc [.int 5] (fun U => U.heap.size = sz ∧ va_P (dC, dI) vwCl [] U.heap ∧ va_K (dC, dI) vwCl [] U ∧ va_D (fun _ => True) [] ∧ w_N U)) (va_Ql (fun (r : Int64) (_ : Unit) => r = 1073741824) (fun _ t => va_P (dC, dI) vwCl [] t.heap ∧ va_K (dC, dI) vwCl [] t ∧ va_D (va_A [] sz) []) (va_A [] sz)) 0 0 (va_A [] sz) := by
  refine Met.ofW (cc := cX15_one) (maxL := 1) (ret := (some .long)) (by decide) rfl ?_
  intro p e s m args below meth c s₁ B hml hv
  obtain ⟨rfl, hsz, hP, hK, hD0, hN⟩ := hv
  have hx := B.exec
  have hb := B.bytes
  have hr := B.returns
  have hts := atoms_spec (ws := wv_m_one5) B.pre
  have hown : s.vm.findClass RX15 = some m.cls := findClass_of_methodNamed B.named
  have hlocks := B.notSynchronized
  subst hsz
  have hD := hD0.self (sz := s.heap.size)
  generalize hAe : va_A [] s.heap.size = A at hD ⊢
  have hA : ∀ q : Nat, s.heap.size ≤ q → A q := fun q h => by rw [← hAe]; exact Or.inr h
  obtain ⟨H, hHe, hP, hS⟩ : ∃ H : Heap, H = s.heap ∧ va_P (dC, dI) vwCl [] H ∧ va_S A s.heap H [] := ⟨s.heap, rfl, hP, va_S.rf⟩
  have hl := lv_entry ([.int 5]) (n := 1) (Nat.le_of_ble_eq_true rfl)
  rw [lg_entry_eq]
  generalize (lg_sl ([.int 5]) ++ List.replicate (1 - (lg_sl ([.int 5])).length) Slot.unset).toArray = ls at hl ⊢
  have hl : lv_has ls 1 [(0, .int 5)] := hl
  rw [← hHe]; clear hHe
  refine lv_lconst (v := 1) hx hb dX15_one_0 (by decide) ?_
  refine lv_bipush (v := 6) hx hb dX15_one_1 (by decide) ?_
  refine lv_iload_n hx hb dX15_one_3 rfl (lv_at hl 0 rfl) ?_
  refine lv_imul hx hb dX15_one_4 ?_
  refine lv_topi (fun v_1 ev_1 => ?_)
  have ev_1 : v_1 = 30 := ev_1.trans (by decide)
  subst ev_1
  refine lv_lshl (v := 1073741824) hx hb dX15_one_5 (by decide) ?_
  have hP9 := hP.sub (ws' := []) [] rfl
  have hD9 := hD.sub (ws' := []) [] (by decide) rfl
  have hK9 := hK.sub (tys' := []) [] rfl
  rw [← hAe] at hD9
  refine W.widen (k := 0) (n := 0) (Nat.le_of_ble_eq_true rfl) (Nat.le_of_ble_eq_true rfl) ?_
  subst hAe
  exact (W.lret (v := 1073741824) hx hb hr (fun t ht hW => ⟨⟨1073741824, (), rfl, rfl, by rw [ht]; exact hP9, va_K.moved hW.alike hK9, hD9⟩, hS.F ht⟩) hS.2.2 dX15_one_6)
def wv_m_keyOf : List Cond := .code yX15_keyOf cX15_keyOf 7 (some .long) :: ([.methodLink RX15 416 yX15_one, .static yX15_one, .initialized RX15, .constantLong RX15 389 (-1)] ++ (wv_m_one5 ++ (wv_m_one4 ++ (wv_m_one3 ++ (wv_m_one2 ++ (wv_m_one1 ++ (wv_m_one0 ++ ([]))))))))
theorem gw_m_keyOf : wv_m_keyOf.all goodWord = true := by decide +kernel
theorem g_m_keyOf_m_one5_416 : GoodIn wv_m_keyOf (va_wsS RX15 416 yX15_one wv_m_one5) := goodIn_app (goodIn_of _ (by decide +kernel)) (goodIn_sub (fun _ h => List.mem_cons_of_mem _ (List.mem_append_right _ (List.mem_append_left _ h))) gw_m_one5)
theorem g_m_keyOf_m_one4_416 : GoodIn wv_m_keyOf (va_wsS RX15 416 yX15_one wv_m_one4) := goodIn_app (goodIn_of _ (by decide +kernel)) (goodIn_sub (fun _ h => List.mem_cons_of_mem _ (List.mem_append_right _ (List.mem_append_right _ (List.mem_append_left _ h)))) gw_m_one4)
theorem g_m_keyOf_m_one3_416 : GoodIn wv_m_keyOf (va_wsS RX15 416 yX15_one wv_m_one3) := goodIn_app (goodIn_of _ (by decide +kernel)) (goodIn_sub (fun _ h => List.mem_cons_of_mem _ (List.mem_append_right _ (List.mem_append_right _ (List.mem_append_right _ (List.mem_append_left _ h))))) gw_m_one3)
theorem g_m_keyOf_m_one2_416 : GoodIn wv_m_keyOf (va_wsS RX15 416 yX15_one wv_m_one2) := goodIn_app (goodIn_of _ (by decide +kernel)) (goodIn_sub (fun _ h => List.mem_cons_of_mem _ (List.mem_append_right _ (List.mem_append_right _ (List.mem_append_right _ (List.mem_append_right _ (List.mem_append_left _ h)))))) gw_m_one2)
theorem g_m_keyOf_m_one1_416 : GoodIn wv_m_keyOf (va_wsS RX15 416 yX15_one wv_m_one1) := goodIn_app (goodIn_of _ (by decide +kernel)) (goodIn_sub (fun _ h => List.mem_cons_of_mem _ (List.mem_append_right _ (List.mem_append_right _ (List.mem_append_right _ (List.mem_append_right _ (List.mem_append_right _ (List.mem_append_left _ h))))))) gw_m_one1)
theorem g_m_keyOf_m_one0_416 : GoodIn wv_m_keyOf (va_wsS RX15 416 yX15_one wv_m_one0) := goodIn_app (goodIn_of _ (by decide +kernel)) (goodIn_sub (fun _ h => List.mem_cons_of_mem _ (List.mem_append_right _ (List.mem_append_right _ (List.mem_append_right _ (List.mem_append_right _ (List.mem_append_right _ (List.mem_append_right _ (List.mem_append_left _ h)))))))) gw_m_one0)
set_option maxHeartbeats 4000000 in
set_option maxRecDepth 100000 in
/-- keyOf -/
theorem c_m_keyOf (l : Launch) (dC : Nat → ClassId) (dI : Nat → Nat → Nat) (x0 : Int32) (sz : Nat) : Met l yX15_keyOf wv_m_keyOf ({ frames := 1, cells := 0, slots := 0, locals := 20 }) (va_Pc [.int x0, .int 6, .int 4] (fun U => U.heap.size = sz ∧ va_P (dC, dI) vwCl [] U.heap ∧ va_K (dC, dI) vwCl [] U ∧ va_D (fun _ => True) [] ∧ w_N U)) (va_Ql (fun (r : Int64) (_ : Unit) => (r = (-1) ∧ ¬ kKey x0) ∨ (¬ r = (-1) ∧ kKey x0)) (fun _ t => va_P (dC, dI) vwCl [] t.heap ∧ va_K (dC, dI) vwCl [] t ∧ va_D (va_A [] sz) []) (va_A [] sz)) 0 0 (va_A [] sz) := by
  refine Met.ofW (cc := cX15_keyOf) (maxL := 7) (ret := (some .long)) (by decide) rfl ?_
  intro p e s m args below meth c s₁ B hml hv
  obtain ⟨rfl, hsz, hP, hK, hD0, hN⟩ := hv
  have hx := B.exec
  have hb := B.bytes
  have hr := B.returns
  have hts := atoms_spec (ws := wv_m_keyOf) B.pre
  have hown : s.vm.findClass RX15 = some m.cls := findClass_of_methodNamed B.named
  have hlocks := B.notSynchronized
  subst hsz
  have hD := hD0.self (sz := s.heap.size)
  generalize hAe : va_A [] s.heap.size = A at hD ⊢
  have hA : ∀ q : Nat, s.heap.size ≤ q → A q := fun q h => by rw [← hAe]; exact Or.inr h
  obtain ⟨H, hHe, hP, hS⟩ : ∃ H : Heap, H = s.heap ∧ va_P (dC, dI) vwCl [] H ∧ va_S A s.heap H [] := ⟨s.heap, rfl, hP, va_S.rf⟩
  have hl := lv_entry ([.int x0, .int 6, .int 4]) (n := 7) (Nat.le_of_ble_eq_true rfl)
  rw [lg_entry_eq]
  generalize (lg_sl ([.int x0, .int 6, .int 4]) ++ List.replicate (7 - (lg_sl ([.int x0, .int 6, .int 4])).length) Slot.unset).toArray = ls at hl ⊢
  have hl : lv_has ls 7 [(0, .int x0), (1, .int 6), (2, .int 4)] := hl
  rw [← hHe]; clear hHe
  refine lv_lconst (v := 0) hx hb dX15_keyOf_0 (by decide) ?_
  refine lv_lstore_n (lv' := [(3, .long 0), (0, .int x0), (1, .int 6), (2, .int 4)]) hx hb dX15_keyOf_1 rfl hl (by decide) rfl (fun ls hl => ?_)
  refine lv_iload_n hx hb dX15_keyOf_2 rfl (lv_at hl 1 rfl) ?_
  refine lv_istore (lv' := [(5, .int x0), (3, .long 0), (0, .int x0), (1, .int 6), (2, .int 4)]) hx hb dX15_keyOf_3 hl (by decide) rfl (fun ls hl => ?_)
  refine lv_iload_n hx hb dX15_keyOf_5 rfl (lv_at hl 3 rfl) ?_
  refine lv_iconst (v := 1) hx hb dX15_keyOf_6 (by decide) ?_
  refine lv_isub hx hb dX15_keyOf_7 ?_
  refine lv_topi (fun v_1 ev_1 => ?_)
  have ev_1 : v_1 = 5 := ev_1.trans (by decide)
  subst ev_1
  refine lv_istore (lv' := [(6, .int 5), (5, .int x0), (3, .long 0), (0, .int x0), (1, .int 6), (2, .int 4)]) hx hb dX15_keyOf_8 hl (by decide) rfl (fun ls hl => ?_)
  refine lv_iload hx hb dX15_keyOf_10 (lv_at hl 0 rfl) ?_
  refine lv_if_lt (tgt := 56) hx hb dX15_keyOf_12 (by decide) (fun hc => absurd hc (by decide)) (fun _ => ?_)
  refine lv_iload hx hb dX15_keyOf_15 (lv_at hl 1 rfl) ?_
  refine lv_bipush (v := 10) hx hb dX15_keyOf_17 (by decide) ?_
  refine lv_irem hx hb dX15_keyOf_19 (by decide) ?_
  refine lv_iload_n hx hb dX15_keyOf_20 rfl (lv_at hl 5 rfl) ?_
  refine lv_icmp_le (tgt := 28) hx hb dX15_keyOf_21 (by decide) (fun hc_2 => ?_) (fun hc_2 => ?_)
  · skip
    refine lv_lload_n hx hb dX15_keyOf_28 rfl (lv_at hl 2 rfl) ?_
    refine lv_iload hx hb dX15_keyOf_29 (lv_at hl 1 rfl) ?_
    refine lv_bipush (v := 10) hx hb dX15_keyOf_31 (by decide) ?_
    refine lv_irem hx hb dX15_keyOf_33 (by decide) ?_
    refine lv_i2l (v := (((x0 - x0 / 10 * 10) : Int32).toInt64)) hx hb dX15_keyOf_34 rfl ?_
    refine lv_iload hx hb dX15_keyOf_35 (lv_at hl 0 rfl) ?_
    have hPc := hP.sub (ws' := []) [] rfl
    have hDc := hD.sub (ws' := []) [] (by decide) rfl
    have hKc := hK.sub (tys' := []) [] rfl
    have hFc := va_free (wc := []) hD hS hA [] rfl
    refine va_calll (va_runS (As := [.int 5]) (rest := [.long (((x0 - x0 / 10 * 10) : Int32).toInt64), .long 0]) ⟨hx, hb, hml, hown, hts⟩ (c_m_one5 l dC dI  H.size) (va_cwS 1 hts g_m_keyOf_m_one5_416 rfl rfl rfl hd_X15_one ⟨Nat.le_of_ble_eq_true rfl, Nat.le_of_ble_eq_true rfl⟩) ⟨fun a U g mk q => by obtain ⟨q0, q1, qP, qK, qD, qE0⟩ := q; exact ⟨q0, q1, qP, va_K.moved (u := U) (U := U.calling g mk a) (Vm.Alike.refl U.vm) qK, qD, w_N.same rfl qE0⟩, fun U hU hW => ⟨rfl, by rw [hU], by rw [hU]; exact hPc, va_K.moved hW.alike hKc, hDc.weaken (fun _ _ _ _ => trivial), w_N.warm hW hN⟩⟩ rfl rfl hl.1 rfl (lv_room (Nat.le_of_ble_eq_true rfl)) dX15_keyOf_37 ⟨(Nat.le_of_ble_eq_true rfl), (Nat.le_of_ble_eq_true rfl)⟩) hS (fun q _ h => hFc q h) hFc (fun r_3 u t H1 locs1 ht hvm hw hB hz1 hk1 hS1 => ?_)
    obtain ⟨hP1, hK1, hD1⟩ := hB
    rw [ht] at hP1
    have hK1 := va_K.moved hvm.symm hK1
    have hJ := va_join (wr := []) (w1 := []) hP hD [] [] rfl rfl (by decide) (by decide) hk1 hFc hP1 hD1
    clear hP hD hPc hDc hKc hFc hz1; try clear hk1
    obtain ⟨hP, hD⟩ := hJ
    replace hK := (hK.sub (tys' := []) [] rfl).app (hK1.sub (tys' := []) [] rfl)
    clear hP1 hK1 hD1 hvm ht hS; try clear t
    try clear H
    revert hS1
    intro hS
    generalize H1 = H at hP hS ⊢; try clear H1
    replace hP : va_P (dC, dI) vwCl [] H := hP
    replace hD : va_D A [] := hD
    replace hK : va_K (dC, dI) vwCl [] s := hK
    have hw_4 : r_3 = 1073741824 := hw; clear hw
    subst hw_4
    refine lv_lmul hx hb dX15_keyOf_40 ?_
    refine lv_ladd hx hb dX15_keyOf_41 ?_
    refine lv_lstore_n (lv' := [(3, .long (0 + ((((x0 - x0 / 10 * 10) : Int32).toInt64) * 1073741824))), (6, .int 5), (5, .int x0), (0, .int x0), (1, .int 6), (2, .int 4)]) hx hb dX15_keyOf_42 rfl hl (by decide) rfl (fun ls hl => ?_)
    refine lv_iload hx hb dX15_keyOf_43 (lv_at hl 2 rfl) ?_
    refine lv_bipush (v := 10) hx hb dX15_keyOf_45 (by decide) ?_
    refine lv_idiv hx hb dX15_keyOf_47 (by decide) ?_
    refine lv_istore (lv' := [(5, .int (x0 / 10)), (3, .long (0 + ((((x0 - x0 / 10 * 10) : Int32).toInt64) * 1073741824))), (6, .int 5), (0, .int x0), (1, .int 6), (2, .int 4)]) hx hb dX15_keyOf_48 hl (by decide) rfl (fun ls hl => ?_)
    refine lv_iinc (v := 4) (lv' := [(6, .int 4), (5, .int (x0 / 10)), (3, .long (0 + ((((x0 - x0 / 10 * 10) : Int32).toInt64) * 1073741824))), (0, .int x0), (1, .int 6), (2, .int 4)]) hx hb dX15_keyOf_50 hl (k := 2) rfl (by decide) (by decide) rfl (fun ls hl => ?_)
    refine lv_goto (tgt := 10) hx hb dX15_keyOf_53 (by decide) ?_
    refine lv_iload hx hb dX15_keyOf_10 (lv_at hl 0 rfl) ?_
    refine lv_if_lt (tgt := 56) hx hb dX15_keyOf_12 (by decide) (fun hc => absurd hc (by decide)) (fun _ => ?_)
    refine lv_iload hx hb dX15_keyOf_15 (lv_at hl 1 rfl) ?_
    refine lv_bipush (v := 10) hx hb dX15_keyOf_17 (by decide) ?_
    refine lv_irem hx hb dX15_keyOf_19 (by decide) ?_
    refine lv_iload_n hx hb dX15_keyOf_20 rfl (lv_at hl 5 rfl) ?_
    refine lv_icmp_le (tgt := 28) hx hb dX15_keyOf_21 (by decide) (fun hc_5 => ?_) (fun hc_5 => ?_)
    · skip
      refine lv_lload_n hx hb dX15_keyOf_28 rfl (lv_at hl 2 rfl) ?_
      refine lv_iload hx hb dX15_keyOf_29 (lv_at hl 1 rfl) ?_
      refine lv_bipush (v := 10) hx hb dX15_keyOf_31 (by decide) ?_
      refine lv_irem hx hb dX15_keyOf_33 (by decide) ?_
      refine lv_i2l (v := ((((x0 / 10) - (x0 / 10) / 10 * 10) : Int32).toInt64)) hx hb dX15_keyOf_34 rfl ?_
      refine lv_iload hx hb dX15_keyOf_35 (lv_at hl 0 rfl) ?_
      have hPc := hP.sub (ws' := []) [] rfl
      have hDc := hD.sub (ws' := []) [] (by decide) rfl
      have hKc := hK.sub (tys' := []) [] rfl
      have hFc := va_free (wc := []) hD hS hA [] rfl
      refine va_calll (va_runS (As := [.int 4]) (rest := [.long ((((x0 / 10) - (x0 / 10) / 10 * 10) : Int32).toInt64), .long (0 + ((((x0 - x0 / 10 * 10) : Int32).toInt64) * 1073741824))]) ⟨hx, hb, hml, hown, hts⟩ (c_m_one4 l dC dI  H.size) (va_cwS 1 hts g_m_keyOf_m_one4_416 rfl rfl rfl hd_X15_one ⟨Nat.le_of_ble_eq_true rfl, Nat.le_of_ble_eq_true rfl⟩) ⟨fun a U g mk q => by obtain ⟨q0, q1, qP, qK, qD, qE0⟩ := q; exact ⟨q0, q1, qP, va_K.moved (u := U) (U := U.calling g mk a) (Vm.Alike.refl U.vm) qK, qD, w_N.same rfl qE0⟩, fun U hU hW => ⟨rfl, by rw [hU], by rw [hU]; exact hPc, va_K.moved hW.alike hKc, hDc.weaken (fun _ _ _ _ => trivial), w_N.warm hW hN⟩⟩ rfl rfl hl.1 rfl (lv_room (Nat.le_of_ble_eq_true rfl)) dX15_keyOf_37 ⟨(Nat.le_of_ble_eq_true rfl), (Nat.le_of_ble_eq_true rfl)⟩) hS (fun q _ h => hFc q h) hFc (fun r_6 u t H1 locs1 ht hvm hw hB hz1 hk1 hS1 => ?_)
      obtain ⟨hP1, hK1, hD1⟩ := hB
      rw [ht] at hP1
      have hK1 := va_K.moved hvm.symm hK1
      have hJ := va_join (wr := []) (w1 := []) hP hD [] [] rfl rfl (by decide) (by decide) hk1 hFc hP1 hD1
      clear hP hD hPc hDc hKc hFc hz1; try clear hk1
      obtain ⟨hP, hD⟩ := hJ
      replace hK := (hK.sub (tys' := []) [] rfl).app (hK1.sub (tys' := []) [] rfl)
      clear hP1 hK1 hD1 hvm ht hS; try clear t
      try clear H
      revert hS1
      intro hS
      generalize H1 = H at hP hS ⊢; try clear H1
      replace hP : va_P (dC, dI) vwCl [] H := hP
      replace hD : va_D A [] := hD
      replace hK : va_K (dC, dI) vwCl [] s := hK
      have hw_7 : r_6 = 16777216 := hw; clear hw
      subst hw_7
      refine lv_lmul hx hb dX15_keyOf_40 ?_
      refine lv_ladd hx hb dX15_keyOf_41 ?_
      refine lv_lstore_n (lv' := [(3, .long ((0 + ((((x0 - x0 / 10 * 10) : Int32).toInt64) * 1073741824)) + (((((x0 / 10) - (x0 / 10) / 10 * 10) : Int32).toInt64) * 16777216))), (6, .int 4), (5, .int (x0 / 10)), (0, .int x0), (1, .int 6), (2, .int 4)]) hx hb dX15_keyOf_42 rfl hl (by decide) rfl (fun ls hl => ?_)
      refine lv_iload hx hb dX15_keyOf_43 (lv_at hl 2 rfl) ?_
      refine lv_bipush (v := 10) hx hb dX15_keyOf_45 (by decide) ?_
      refine lv_idiv hx hb dX15_keyOf_47 (by decide) ?_
      refine lv_istore (lv' := [(5, .int ((x0 / 10) / 10)), (3, .long ((0 + ((((x0 - x0 / 10 * 10) : Int32).toInt64) * 1073741824)) + (((((x0 / 10) - (x0 / 10) / 10 * 10) : Int32).toInt64) * 16777216))), (6, .int 4), (0, .int x0), (1, .int 6), (2, .int 4)]) hx hb dX15_keyOf_48 hl (by decide) rfl (fun ls hl => ?_)
      refine lv_iinc (v := 3) (lv' := [(6, .int 3), (5, .int ((x0 / 10) / 10)), (3, .long ((0 + ((((x0 - x0 / 10 * 10) : Int32).toInt64) * 1073741824)) + (((((x0 / 10) - (x0 / 10) / 10 * 10) : Int32).toInt64) * 16777216))), (0, .int x0), (1, .int 6), (2, .int 4)]) hx hb dX15_keyOf_50 hl (k := 2) rfl (by decide) (by decide) rfl (fun ls hl => ?_)
      refine lv_goto (tgt := 10) hx hb dX15_keyOf_53 (by decide) ?_
      refine lv_iload hx hb dX15_keyOf_10 (lv_at hl 0 rfl) ?_
      refine lv_if_lt (tgt := 56) hx hb dX15_keyOf_12 (by decide) (fun hc => absurd hc (by decide)) (fun _ => ?_)
      refine lv_iload hx hb dX15_keyOf_15 (lv_at hl 1 rfl) ?_
      refine lv_bipush (v := 10) hx hb dX15_keyOf_17 (by decide) ?_
      refine lv_irem hx hb dX15_keyOf_19 (by decide) ?_
      refine lv_iload_n hx hb dX15_keyOf_20 rfl (lv_at hl 5 rfl) ?_
      refine lv_icmp_le (tgt := 28) hx hb dX15_keyOf_21 (by decide) (fun hc_8 => ?_) (fun hc_8 => ?_)
      · skip
        refine lv_lload_n hx hb dX15_keyOf_28 rfl (lv_at hl 2 rfl) ?_
        refine lv_iload hx hb dX15_keyOf_29 (lv_at hl 1 rfl) ?_
        refine lv_bipush (v := 10) hx hb dX15_keyOf_31 (by decide) ?_
        refine lv_irem hx hb dX15_keyOf_33 (by decide) ?_
        refine lv_i2l (v := (((((x0 / 10) / 10) - ((x0 / 10) / 10) / 10 * 10) : Int32).toInt64)) hx hb dX15_keyOf_34 rfl ?_
        refine lv_iload hx hb dX15_keyOf_35 (lv_at hl 0 rfl) ?_
        have hPc := hP.sub (ws' := []) [] rfl
        have hDc := hD.sub (ws' := []) [] (by decide) rfl
        have hKc := hK.sub (tys' := []) [] rfl
        have hFc := va_free (wc := []) hD hS hA [] rfl
        refine va_calll (va_runS (As := [.int 3]) (rest := [.long (((((x0 / 10) / 10) - ((x0 / 10) / 10) / 10 * 10) : Int32).toInt64), .long ((0 + ((((x0 - x0 / 10 * 10) : Int32).toInt64) * 1073741824)) + (((((x0 / 10) - (x0 / 10) / 10 * 10) : Int32).toInt64) * 16777216))]) ⟨hx, hb, hml, hown, hts⟩ (c_m_one3 l dC dI  H.size) (va_cwS 1 hts g_m_keyOf_m_one3_416 rfl rfl rfl hd_X15_one ⟨Nat.le_of_ble_eq_true rfl, Nat.le_of_ble_eq_true rfl⟩) ⟨fun a U g mk q => by obtain ⟨q0, q1, qP, qK, qD, qE0⟩ := q; exact ⟨q0, q1, qP, va_K.moved (u := U) (U := U.calling g mk a) (Vm.Alike.refl U.vm) qK, qD, w_N.same rfl qE0⟩, fun U hU hW => ⟨rfl, by rw [hU], by rw [hU]; exact hPc, va_K.moved hW.alike hKc, hDc.weaken (fun _ _ _ _ => trivial), w_N.warm hW hN⟩⟩ rfl rfl hl.1 rfl (lv_room (Nat.le_of_ble_eq_true rfl)) dX15_keyOf_37 ⟨(Nat.le_of_ble_eq_true rfl), (Nat.le_of_ble_eq_true rfl)⟩) hS (fun q _ h => hFc q h) hFc (fun r_9 u t H1 locs1 ht hvm hw hB hz1 hk1 hS1 => ?_)
        obtain ⟨hP1, hK1, hD1⟩ := hB
        rw [ht] at hP1
        have hK1 := va_K.moved hvm.symm hK1
        have hJ := va_join (wr := []) (w1 := []) hP hD [] [] rfl rfl (by decide) (by decide) hk1 hFc hP1 hD1
        clear hP hD hPc hDc hKc hFc hz1; try clear hk1
        obtain ⟨hP, hD⟩ := hJ
        replace hK := (hK.sub (tys' := []) [] rfl).app (hK1.sub (tys' := []) [] rfl)
        clear hP1 hK1 hD1 hvm ht hS; try clear t
        try clear H
        revert hS1
        intro hS
        generalize H1 = H at hP hS ⊢; try clear H1
        replace hP : va_P (dC, dI) vwCl [] H := hP
        replace hD : va_D A [] := hD
        replace hK : va_K (dC, dI) vwCl [] s := hK
        have hw_10 : r_9 = 262144 := hw; clear hw
        subst hw_10
        refine lv_lmul hx hb dX15_keyOf_40 ?_
        refine lv_ladd hx hb dX15_keyOf_41 ?_
        refine lv_lstore_n (lv' := [(3, .long (((0 + ((((x0 - x0 / 10 * 10) : Int32).toInt64) * 1073741824)) + (((((x0 / 10) - (x0 / 10) / 10 * 10) : Int32).toInt64) * 16777216)) + ((((((x0 / 10) / 10) - ((x0 / 10) / 10) / 10 * 10) : Int32).toInt64) * 262144))), (6, .int 3), (5, .int ((x0 / 10) / 10)), (0, .int x0), (1, .int 6), (2, .int 4)]) hx hb dX15_keyOf_42 rfl hl (by decide) rfl (fun ls hl => ?_)
        refine lv_iload hx hb dX15_keyOf_43 (lv_at hl 2 rfl) ?_
        refine lv_bipush (v := 10) hx hb dX15_keyOf_45 (by decide) ?_
        refine lv_idiv hx hb dX15_keyOf_47 (by decide) ?_
        refine lv_istore (lv' := [(5, .int (((x0 / 10) / 10) / 10)), (3, .long (((0 + ((((x0 - x0 / 10 * 10) : Int32).toInt64) * 1073741824)) + (((((x0 / 10) - (x0 / 10) / 10 * 10) : Int32).toInt64) * 16777216)) + ((((((x0 / 10) / 10) - ((x0 / 10) / 10) / 10 * 10) : Int32).toInt64) * 262144))), (6, .int 3), (0, .int x0), (1, .int 6), (2, .int 4)]) hx hb dX15_keyOf_48 hl (by decide) rfl (fun ls hl => ?_)
        refine lv_iinc (v := 2) (lv' := [(6, .int 2), (5, .int (((x0 / 10) / 10) / 10)), (3, .long (((0 + ((((x0 - x0 / 10 * 10) : Int32).toInt64) * 1073741824)) + (((((x0 / 10) - (x0 / 10) / 10 * 10) : Int32).toInt64) * 16777216)) + ((((((x0 / 10) / 10) - ((x0 / 10) / 10) / 10 * 10) : Int32).toInt64) * 262144))), (0, .int x0), (1, .int 6), (2, .int 4)]) hx hb dX15_keyOf_50 hl (k := 2) rfl (by decide) (by decide) rfl (fun ls hl => ?_)
        refine lv_goto (tgt := 10) hx hb dX15_keyOf_53 (by decide) ?_
        refine lv_iload hx hb dX15_keyOf_10 (lv_at hl 0 rfl) ?_
        refine lv_if_lt (tgt := 56) hx hb dX15_keyOf_12 (by decide) (fun hc => absurd hc (by decide)) (fun _ => ?_)
        refine lv_iload hx hb dX15_keyOf_15 (lv_at hl 1 rfl) ?_
        refine lv_bipush (v := 10) hx hb dX15_keyOf_17 (by decide) ?_
        refine lv_irem hx hb dX15_keyOf_19 (by decide) ?_
        refine lv_iload_n hx hb dX15_keyOf_20 rfl (lv_at hl 5 rfl) ?_
        refine lv_icmp_le (tgt := 28) hx hb dX15_keyOf_21 (by decide) (fun hc_11 => ?_) (fun hc_11 => ?_)
        · skip
          refine lv_lload_n hx hb dX15_keyOf_28 rfl (lv_at hl 2 rfl) ?_
          refine lv_iload hx hb dX15_keyOf_29 (lv_at hl 1 rfl) ?_
          refine lv_bipush (v := 10) hx hb dX15_keyOf_31 (by decide) ?_
          refine lv_irem hx hb dX15_keyOf_33 (by decide) ?_
          refine lv_i2l (v := ((((((x0 / 10) / 10) / 10) - (((x0 / 10) / 10) / 10) / 10 * 10) : Int32).toInt64)) hx hb dX15_keyOf_34 rfl ?_
          refine lv_iload hx hb dX15_keyOf_35 (lv_at hl 0 rfl) ?_
          have hPc := hP.sub (ws' := []) [] rfl
          have hDc := hD.sub (ws' := []) [] (by decide) rfl
          have hKc := hK.sub (tys' := []) [] rfl
          have hFc := va_free (wc := []) hD hS hA [] rfl
          refine va_calll (va_runS (As := [.int 2]) (rest := [.long ((((((x0 / 10) / 10) / 10) - (((x0 / 10) / 10) / 10) / 10 * 10) : Int32).toInt64), .long (((0 + ((((x0 - x0 / 10 * 10) : Int32).toInt64) * 1073741824)) + (((((x0 / 10) - (x0 / 10) / 10 * 10) : Int32).toInt64) * 16777216)) + ((((((x0 / 10) / 10) - ((x0 / 10) / 10) / 10 * 10) : Int32).toInt64) * 262144))]) ⟨hx, hb, hml, hown, hts⟩ (c_m_one2 l dC dI  H.size) (va_cwS 1 hts g_m_keyOf_m_one2_416 rfl rfl rfl hd_X15_one ⟨Nat.le_of_ble_eq_true rfl, Nat.le_of_ble_eq_true rfl⟩) ⟨fun a U g mk q => by obtain ⟨q0, q1, qP, qK, qD, qE0⟩ := q; exact ⟨q0, q1, qP, va_K.moved (u := U) (U := U.calling g mk a) (Vm.Alike.refl U.vm) qK, qD, w_N.same rfl qE0⟩, fun U hU hW => ⟨rfl, by rw [hU], by rw [hU]; exact hPc, va_K.moved hW.alike hKc, hDc.weaken (fun _ _ _ _ => trivial), w_N.warm hW hN⟩⟩ rfl rfl hl.1 rfl (lv_room (Nat.le_of_ble_eq_true rfl)) dX15_keyOf_37 ⟨(Nat.le_of_ble_eq_true rfl), (Nat.le_of_ble_eq_true rfl)⟩) hS (fun q _ h => hFc q h) hFc (fun r_12 u t H1 locs1 ht hvm hw hB hz1 hk1 hS1 => ?_)
          obtain ⟨hP1, hK1, hD1⟩ := hB
          rw [ht] at hP1
          have hK1 := va_K.moved hvm.symm hK1
          have hJ := va_join (wr := []) (w1 := []) hP hD [] [] rfl rfl (by decide) (by decide) hk1 hFc hP1 hD1
          clear hP hD hPc hDc hKc hFc hz1; try clear hk1
          obtain ⟨hP, hD⟩ := hJ
          replace hK := (hK.sub (tys' := []) [] rfl).app (hK1.sub (tys' := []) [] rfl)
          clear hP1 hK1 hD1 hvm ht hS; try clear t
          try clear H
          revert hS1
          intro hS
          generalize H1 = H at hP hS ⊢; try clear H1
          replace hP : va_P (dC, dI) vwCl [] H := hP
          replace hD : va_D A [] := hD
          replace hK : va_K (dC, dI) vwCl [] s := hK
          have hw_13 : r_12 = 4096 := hw; clear hw
          subst hw_13
          refine lv_lmul hx hb dX15_keyOf_40 ?_
          refine lv_ladd hx hb dX15_keyOf_41 ?_
          refine lv_lstore_n (lv' := [(3, .long ((((0 + ((((x0 - x0 / 10 * 10) : Int32).toInt64) * 1073741824)) + (((((x0 / 10) - (x0 / 10) / 10 * 10) : Int32).toInt64) * 16777216)) + ((((((x0 / 10) / 10) - ((x0 / 10) / 10) / 10 * 10) : Int32).toInt64) * 262144)) + (((((((x0 / 10) / 10) / 10) - (((x0 / 10) / 10) / 10) / 10 * 10) : Int32).toInt64) * 4096))), (6, .int 2), (5, .int (((x0 / 10) / 10) / 10)), (0, .int x0), (1, .int 6), (2, .int 4)]) hx hb dX15_keyOf_42 rfl hl (by decide) rfl (fun ls hl => ?_)
          refine lv_iload hx hb dX15_keyOf_43 (lv_at hl 2 rfl) ?_
          refine lv_bipush (v := 10) hx hb dX15_keyOf_45 (by decide) ?_
          refine lv_idiv hx hb dX15_keyOf_47 (by decide) ?_
          refine lv_istore (lv' := [(5, .int ((((x0 / 10) / 10) / 10) / 10)), (3, .long ((((0 + ((((x0 - x0 / 10 * 10) : Int32).toInt64) * 1073741824)) + (((((x0 / 10) - (x0 / 10) / 10 * 10) : Int32).toInt64) * 16777216)) + ((((((x0 / 10) / 10) - ((x0 / 10) / 10) / 10 * 10) : Int32).toInt64) * 262144)) + (((((((x0 / 10) / 10) / 10) - (((x0 / 10) / 10) / 10) / 10 * 10) : Int32).toInt64) * 4096))), (6, .int 2), (0, .int x0), (1, .int 6), (2, .int 4)]) hx hb dX15_keyOf_48 hl (by decide) rfl (fun ls hl => ?_)
          refine lv_iinc (v := 1) (lv' := [(6, .int 1), (5, .int ((((x0 / 10) / 10) / 10) / 10)), (3, .long ((((0 + ((((x0 - x0 / 10 * 10) : Int32).toInt64) * 1073741824)) + (((((x0 / 10) - (x0 / 10) / 10 * 10) : Int32).toInt64) * 16777216)) + ((((((x0 / 10) / 10) - ((x0 / 10) / 10) / 10 * 10) : Int32).toInt64) * 262144)) + (((((((x0 / 10) / 10) / 10) - (((x0 / 10) / 10) / 10) / 10 * 10) : Int32).toInt64) * 4096))), (0, .int x0), (1, .int 6), (2, .int 4)]) hx hb dX15_keyOf_50 hl (k := 2) rfl (by decide) (by decide) rfl (fun ls hl => ?_)
          refine lv_goto (tgt := 10) hx hb dX15_keyOf_53 (by decide) ?_
          refine lv_iload hx hb dX15_keyOf_10 (lv_at hl 0 rfl) ?_
          refine lv_if_lt (tgt := 56) hx hb dX15_keyOf_12 (by decide) (fun hc => absurd hc (by decide)) (fun _ => ?_)
          refine lv_iload hx hb dX15_keyOf_15 (lv_at hl 1 rfl) ?_
          refine lv_bipush (v := 10) hx hb dX15_keyOf_17 (by decide) ?_
          refine lv_irem hx hb dX15_keyOf_19 (by decide) ?_
          refine lv_iload_n hx hb dX15_keyOf_20 rfl (lv_at hl 5 rfl) ?_
          refine lv_icmp_le (tgt := 28) hx hb dX15_keyOf_21 (by decide) (fun hc_14 => ?_) (fun hc_14 => ?_)
          · skip
            refine lv_lload_n hx hb dX15_keyOf_28 rfl (lv_at hl 2 rfl) ?_
            refine lv_iload hx hb dX15_keyOf_29 (lv_at hl 1 rfl) ?_
            refine lv_bipush (v := 10) hx hb dX15_keyOf_31 (by decide) ?_
            refine lv_irem hx hb dX15_keyOf_33 (by decide) ?_
            refine lv_i2l (v := (((((((x0 / 10) / 10) / 10) / 10) - ((((x0 / 10) / 10) / 10) / 10) / 10 * 10) : Int32).toInt64)) hx hb dX15_keyOf_34 rfl ?_
            refine lv_iload hx hb dX15_keyOf_35 (lv_at hl 0 rfl) ?_
            have hPc := hP.sub (ws' := []) [] rfl
            have hDc := hD.sub (ws' := []) [] (by decide) rfl
            have hKc := hK.sub (tys' := []) [] rfl
            have hFc := va_free (wc := []) hD hS hA [] rfl
            refine va_calll (va_runS (As := [.int 1]) (rest := [.long (((((((x0 / 10) / 10) / 10) / 10) - ((((x0 / 10) / 10) / 10) / 10) / 10 * 10) : Int32).toInt64), .long ((((0 + ((((x0 - x0 / 10 * 10) : Int32).toInt64) * 1073741824)) + (((((x0 / 10) - (x0 / 10) / 10 * 10) : Int32).toInt64) * 16777216)) + ((((((x0 / 10) / 10) - ((x0 / 10) / 10) / 10 * 10) : Int32).toInt64) * 262144)) + (((((((x0 / 10) / 10) / 10) - (((x0 / 10) / 10) / 10) / 10 * 10) : Int32).toInt64) * 4096))]) ⟨hx, hb, hml, hown, hts⟩ (c_m_one1 l dC dI  H.size) (va_cwS 1 hts g_m_keyOf_m_one1_416 rfl rfl rfl hd_X15_one ⟨Nat.le_of_ble_eq_true rfl, Nat.le_of_ble_eq_true rfl⟩) ⟨fun a U g mk q => by obtain ⟨q0, q1, qP, qK, qD, qE0⟩ := q; exact ⟨q0, q1, qP, va_K.moved (u := U) (U := U.calling g mk a) (Vm.Alike.refl U.vm) qK, qD, w_N.same rfl qE0⟩, fun U hU hW => ⟨rfl, by rw [hU], by rw [hU]; exact hPc, va_K.moved hW.alike hKc, hDc.weaken (fun _ _ _ _ => trivial), w_N.warm hW hN⟩⟩ rfl rfl hl.1 rfl (lv_room (Nat.le_of_ble_eq_true rfl)) dX15_keyOf_37 ⟨(Nat.le_of_ble_eq_true rfl), (Nat.le_of_ble_eq_true rfl)⟩) hS (fun q _ h => hFc q h) hFc (fun r_15 u t H1 locs1 ht hvm hw hB hz1 hk1 hS1 => ?_)
            obtain ⟨hP1, hK1, hD1⟩ := hB
            rw [ht] at hP1
            have hK1 := va_K.moved hvm.symm hK1
            have hJ := va_join (wr := []) (w1 := []) hP hD [] [] rfl rfl (by decide) (by decide) hk1 hFc hP1 hD1
            clear hP hD hPc hDc hKc hFc hz1; try clear hk1
            obtain ⟨hP, hD⟩ := hJ
            replace hK := (hK.sub (tys' := []) [] rfl).app (hK1.sub (tys' := []) [] rfl)
            clear hP1 hK1 hD1 hvm ht hS; try clear t
            try clear H
            revert hS1
            intro hS
            generalize H1 = H at hP hS ⊢; try clear H1
            replace hP : va_P (dC, dI) vwCl [] H := hP
            replace hD : va_D A [] := hD
            replace hK : va_K (dC, dI) vwCl [] s := hK
            have hw_16 : r_15 = 64 := hw; clear hw
            subst hw_16
            refine lv_lmul hx hb dX15_keyOf_40 ?_
            refine lv_ladd hx hb dX15_keyOf_41 ?_
            refine lv_lstore_n (lv' := [(3, .long (((((0 + ((((x0 - x0 / 10 * 10) : Int32).toInt64) * 1073741824)) + (((((x0 / 10) - (x0 / 10) / 10 * 10) : Int32).toInt64) * 16777216)) + ((((((x0 / 10) / 10) - ((x0 / 10) / 10) / 10 * 10) : Int32).toInt64) * 262144)) + (((((((x0 / 10) / 10) / 10) - (((x0 / 10) / 10) / 10) / 10 * 10) : Int32).toInt64) * 4096)) + ((((((((x0 / 10) / 10) / 10) / 10) - ((((x0 / 10) / 10) / 10) / 10) / 10 * 10) : Int32).toInt64) * 64))), (6, .int 1), (5, .int ((((x0 / 10) / 10) / 10) / 10)), (0, .int x0), (1, .int 6), (2, .int 4)]) hx hb dX15_keyOf_42 rfl hl (by decide) rfl (fun ls hl => ?_)
            refine lv_iload hx hb dX15_keyOf_43 (lv_at hl 2 rfl) ?_
            refine lv_bipush (v := 10) hx hb dX15_keyOf_45 (by decide) ?_
            refine lv_idiv hx hb dX15_keyOf_47 (by decide) ?_
            refine lv_istore (lv' := [(5, .int (((((x0 / 10) / 10) / 10) / 10) / 10)), (3, .long (((((0 + ((((x0 - x0 / 10 * 10) : Int32).toInt64) * 1073741824)) + (((((x0 / 10) - (x0 / 10) / 10 * 10) : Int32).toInt64) * 16777216)) + ((((((x0 / 10) / 10) - ((x0 / 10) / 10) / 10 * 10) : Int32).toInt64) * 262144)) + (((((((x0 / 10) / 10) / 10) - (((x0 / 10) / 10) / 10) / 10 * 10) : Int32).toInt64) * 4096)) + ((((((((x0 / 10) / 10) / 10) / 10) - ((((x0 / 10) / 10) / 10) / 10) / 10 * 10) : Int32).toInt64) * 64))), (6, .int 1), (0, .int x0), (1, .int 6), (2, .int 4)]) hx hb dX15_keyOf_48 hl (by decide) rfl (fun ls hl => ?_)
            refine lv_iinc (v := 0) (lv' := [(6, .int 0), (5, .int (((((x0 / 10) / 10) / 10) / 10) / 10)), (3, .long (((((0 + ((((x0 - x0 / 10 * 10) : Int32).toInt64) * 1073741824)) + (((((x0 / 10) - (x0 / 10) / 10 * 10) : Int32).toInt64) * 16777216)) + ((((((x0 / 10) / 10) - ((x0 / 10) / 10) / 10 * 10) : Int32).toInt64) * 262144)) + (((((((x0 / 10) / 10) / 10) - (((x0 / 10) / 10) / 10) / 10 * 10) : Int32).toInt64) * 4096)) + ((((((((x0 / 10) / 10) / 10) / 10) - ((((x0 / 10) / 10) / 10) / 10) / 10 * 10) : Int32).toInt64) * 64))), (0, .int x0), (1, .int 6), (2, .int 4)]) hx hb dX15_keyOf_50 hl (k := 2) rfl (by decide) (by decide) rfl (fun ls hl => ?_)
            refine lv_goto (tgt := 10) hx hb dX15_keyOf_53 (by decide) ?_
            refine lv_iload hx hb dX15_keyOf_10 (lv_at hl 0 rfl) ?_
            refine lv_if_lt (tgt := 56) hx hb dX15_keyOf_12 (by decide) (fun hc => absurd hc (by decide)) (fun _ => ?_)
            refine lv_iload hx hb dX15_keyOf_15 (lv_at hl 1 rfl) ?_
            refine lv_bipush (v := 10) hx hb dX15_keyOf_17 (by decide) ?_
            refine lv_irem hx hb dX15_keyOf_19 (by decide) ?_
            refine lv_iload_n hx hb dX15_keyOf_20 rfl (lv_at hl 5 rfl) ?_
            refine lv_icmp_le (tgt := 28) hx hb dX15_keyOf_21 (by decide) (fun hc_17 => ?_) (fun hc_17 => ?_)
            · skip
              refine lv_lload_n hx hb dX15_keyOf_28 rfl (lv_at hl 2 rfl) ?_
              refine lv_iload hx hb dX15_keyOf_29 (lv_at hl 1 rfl) ?_
              refine lv_bipush (v := 10) hx hb dX15_keyOf_31 (by decide) ?_
              refine lv_irem hx hb dX15_keyOf_33 (by decide) ?_
              refine lv_i2l (v := ((((((((x0 / 10) / 10) / 10) / 10) / 10) - (((((x0 / 10) / 10) / 10) / 10) / 10) / 10 * 10) : Int32).toInt64)) hx hb dX15_keyOf_34 rfl ?_
              refine lv_iload hx hb dX15_keyOf_35 (lv_at hl 0 rfl) ?_
              have hPc := hP.sub (ws' := []) [] rfl
              have hDc := hD.sub (ws' := []) [] (by decide) rfl
              have hKc := hK.sub (tys' := []) [] rfl
              have hFc := va_free (wc := []) hD hS hA [] rfl
              refine va_calll (va_runS (As := [.int 0]) (rest := [.long ((((((((x0 / 10) / 10) / 10) / 10) / 10) - (((((x0 / 10) / 10) / 10) / 10) / 10) / 10 * 10) : Int32).toInt64), .long (((((0 + ((((x0 - x0 / 10 * 10) : Int32).toInt64) * 1073741824)) + (((((x0 / 10) - (x0 / 10) / 10 * 10) : Int32).toInt64) * 16777216)) + ((((((x0 / 10) / 10) - ((x0 / 10) / 10) / 10 * 10) : Int32).toInt64) * 262144)) + (((((((x0 / 10) / 10) / 10) - (((x0 / 10) / 10) / 10) / 10 * 10) : Int32).toInt64) * 4096)) + ((((((((x0 / 10) / 10) / 10) / 10) - ((((x0 / 10) / 10) / 10) / 10) / 10 * 10) : Int32).toInt64) * 64))]) ⟨hx, hb, hml, hown, hts⟩ (c_m_one0 l dC dI  H.size) (va_cwS 1 hts g_m_keyOf_m_one0_416 rfl rfl rfl hd_X15_one ⟨Nat.le_of_ble_eq_true rfl, Nat.le_of_ble_eq_true rfl⟩) ⟨fun a U g mk q => by obtain ⟨q0, q1, qP, qK, qD, qE0⟩ := q; exact ⟨q0, q1, qP, va_K.moved (u := U) (U := U.calling g mk a) (Vm.Alike.refl U.vm) qK, qD, w_N.same rfl qE0⟩, fun U hU hW => ⟨rfl, by rw [hU], by rw [hU]; exact hPc, va_K.moved hW.alike hKc, hDc.weaken (fun _ _ _ _ => trivial), w_N.warm hW hN⟩⟩ rfl rfl hl.1 rfl (lv_room (Nat.le_of_ble_eq_true rfl)) dX15_keyOf_37 ⟨(Nat.le_of_ble_eq_true rfl), (Nat.le_of_ble_eq_true rfl)⟩) hS (fun q _ h => hFc q h) hFc (fun r_18 u t H1 locs1 ht hvm hw hB hz1 hk1 hS1 => ?_)
              obtain ⟨hP1, hK1, hD1⟩ := hB
              rw [ht] at hP1
              have hK1 := va_K.moved hvm.symm hK1
              have hJ := va_join (wr := []) (w1 := []) hP hD [] [] rfl rfl (by decide) (by decide) hk1 hFc hP1 hD1
              clear hP hD hPc hDc hKc hFc hz1; try clear hk1
              obtain ⟨hP, hD⟩ := hJ
              replace hK := (hK.sub (tys' := []) [] rfl).app (hK1.sub (tys' := []) [] rfl)
              clear hP1 hK1 hD1 hvm ht hS; try clear t
              try clear H
              revert hS1
              intro hS
              generalize H1 = H at hP hS ⊢; try clear H1
              replace hP : va_P (dC, dI) vwCl [] H := hP
              replace hD : va_D A [] := hD
              replace hK : va_K (dC, dI) vwCl [] s := hK
              have hw_19 : r_18 = 1 := hw; clear hw
              subst hw_19
              refine lv_lmul hx hb dX15_keyOf_40 ?_
              refine lv_ladd hx hb dX15_keyOf_41 ?_
              refine lv_lstore_n (lv' := [(3, .long ((((((0 + ((((x0 - x0 / 10 * 10) : Int32).toInt64) * 1073741824)) + (((((x0 / 10) - (x0 / 10) / 10 * 10) : Int32).toInt64) * 16777216)) + ((((((x0 / 10) / 10) - ((x0 / 10) / 10) / 10 * 10) : Int32).toInt64) * 262144)) + (((((((x0 / 10) / 10) / 10) - (((x0 / 10) / 10) / 10) / 10 * 10) : Int32).toInt64) * 4096)) + ((((((((x0 / 10) / 10) / 10) / 10) - ((((x0 / 10) / 10) / 10) / 10) / 10 * 10) : Int32).toInt64) * 64)) + (((((((((x0 / 10) / 10) / 10) / 10) / 10) - (((((x0 / 10) / 10) / 10) / 10) / 10) / 10 * 10) : Int32).toInt64) * 1))), (6, .int 0), (5, .int (((((x0 / 10) / 10) / 10) / 10) / 10)), (0, .int x0), (1, .int 6), (2, .int 4)]) hx hb dX15_keyOf_42 rfl hl (by decide) rfl (fun ls hl => ?_)
              refine lv_iload hx hb dX15_keyOf_43 (lv_at hl 2 rfl) ?_
              refine lv_bipush (v := 10) hx hb dX15_keyOf_45 (by decide) ?_
              refine lv_idiv hx hb dX15_keyOf_47 (by decide) ?_
              refine lv_istore (lv' := [(5, .int ((((((x0 / 10) / 10) / 10) / 10) / 10) / 10)), (3, .long ((((((0 + ((((x0 - x0 / 10 * 10) : Int32).toInt64) * 1073741824)) + (((((x0 / 10) - (x0 / 10) / 10 * 10) : Int32).toInt64) * 16777216)) + ((((((x0 / 10) / 10) - ((x0 / 10) / 10) / 10 * 10) : Int32).toInt64) * 262144)) + (((((((x0 / 10) / 10) / 10) - (((x0 / 10) / 10) / 10) / 10 * 10) : Int32).toInt64) * 4096)) + ((((((((x0 / 10) / 10) / 10) / 10) - ((((x0 / 10) / 10) / 10) / 10) / 10 * 10) : Int32).toInt64) * 64)) + (((((((((x0 / 10) / 10) / 10) / 10) / 10) - (((((x0 / 10) / 10) / 10) / 10) / 10) / 10 * 10) : Int32).toInt64) * 1))), (6, .int 0), (0, .int x0), (1, .int 6), (2, .int 4)]) hx hb dX15_keyOf_48 hl (by decide) rfl (fun ls hl => ?_)
              refine lv_iinc (v := (-1)) (lv' := [(6, .int (-1)), (5, .int ((((((x0 / 10) / 10) / 10) / 10) / 10) / 10)), (3, .long ((((((0 + ((((x0 - x0 / 10 * 10) : Int32).toInt64) * 1073741824)) + (((((x0 / 10) - (x0 / 10) / 10 * 10) : Int32).toInt64) * 16777216)) + ((((((x0 / 10) / 10) - ((x0 / 10) / 10) / 10 * 10) : Int32).toInt64) * 262144)) + (((((((x0 / 10) / 10) / 10) - (((x0 / 10) / 10) / 10) / 10 * 10) : Int32).toInt64) * 4096)) + ((((((((x0 / 10) / 10) / 10) / 10) - ((((x0 / 10) / 10) / 10) / 10) / 10 * 10) : Int32).toInt64) * 64)) + (((((((((x0 / 10) / 10) / 10) / 10) / 10) - (((((x0 / 10) / 10) / 10) / 10) / 10) / 10 * 10) : Int32).toInt64) * 1))), (0, .int x0), (1, .int 6), (2, .int 4)]) hx hb dX15_keyOf_50 hl (k := 2) rfl (by decide) (by decide) rfl (fun ls hl => ?_)
              refine lv_goto (tgt := 10) hx hb dX15_keyOf_53 (by decide) ?_
              refine lv_iload hx hb dX15_keyOf_10 (lv_at hl 0 rfl) ?_
              refine lv_if_lt (tgt := 56) hx hb dX15_keyOf_12 (by decide) (fun _ => ?_) (fun hc => absurd (by decide) hc)
              refine lv_iload_n hx hb dX15_keyOf_56 rfl (lv_at hl 3 rfl) ?_
              refine lv_if_lt (tgt := 65) hx hb dX15_keyOf_57 (by decide) (fun hc_20 => ?_) (fun hc_20 => ?_)
              · skip
                refine lv_ldc2 (v := (-1)) hx hb hown (hts (.constantLong RX15 389 (-1)) (List.mem_of_getElem? (i := 4) rfl)) dX15_keyOf_65 ?_
                refine lv_goto (tgt := 72) hx hb dX15_keyOf_68 (by decide) ?_
                have hP9 := hP.sub (ws' := []) [] rfl
                have hD9 := hD.sub (ws' := []) [] (by decide) rfl
                have hK9 := hK.sub (tys' := []) [] rfl
                rw [← hAe] at hD9
                refine W.widen (k := 0) (n := 0) (Nat.le_of_ble_eq_true rfl) (Nat.le_of_ble_eq_true rfl) ?_
                subst hAe
                exact (W.lret (v := (-1)) hx hb hr (fun t ht hW => ⟨⟨(-1), (), rfl, Or.inl ⟨rfl, fun h9 => h9.2.2.2.2.2.2.1 hc_20⟩, by rw [ht]; exact hP9, va_K.moved hW.alike hK9, hD9⟩, hS.F ht⟩) hS.2.2 dX15_keyOf_72)
              · skip
                refine lv_iload hx hb dX15_keyOf_60 (lv_at hl 1 rfl) ?_
                refine lv_if_le (tgt := 71) hx hb dX15_keyOf_62 (by decide) (fun hc_21 => ?_) (fun hc_21 => ?_)
                · skip
                  refine lv_lload_n hx hb dX15_keyOf_71 rfl (lv_at hl 2 rfl) ?_
                  have hP9 := hP.sub (ws' := []) [] rfl
                  have hD9 := hD.sub (ws' := []) [] (by decide) rfl
                  have hK9 := hK.sub (tys' := []) [] rfl
                  rw [← hAe] at hD9
                  refine W.widen (k := 0) (n := 0) (Nat.le_of_ble_eq_true rfl) (Nat.le_of_ble_eq_true rfl) ?_
                  subst hAe
                  exact (W.lret (v := ((((((0 + ((((x0 - x0 / 10 * 10) : Int32).toInt64) * 1073741824)) + (((((x0 / 10) - (x0 / 10) / 10 * 10) : Int32).toInt64) * 16777216)) + ((((((x0 / 10) / 10) - ((x0 / 10) / 10) / 10 * 10) : Int32).toInt64) * 262144)) + (((((((x0 / 10) / 10) / 10) - (((x0 / 10) / 10) / 10) / 10 * 10) : Int32).toInt64) * 4096)) + ((((((((x0 / 10) / 10) / 10) / 10) - ((((x0 / 10) / 10) / 10) / 10) / 10 * 10) : Int32).toInt64) * 64)) + (((((((((x0 / 10) / 10) / 10) / 10) / 10) - (((((x0 / 10) / 10) / 10) / 10) / 10) / 10 * 10) : Int32).toInt64) * 1))) hx hb hr (fun t ht hW => ⟨⟨((((((0 + ((((x0 - x0 / 10 * 10) : Int32).toInt64) * 1073741824)) + (((((x0 / 10) - (x0 / 10) / 10 * 10) : Int32).toInt64) * 16777216)) + ((((((x0 / 10) / 10) - ((x0 / 10) / 10) / 10 * 10) : Int32).toInt64) * 262144)) + (((((((x0 / 10) / 10) / 10) - (((x0 / 10) / 10) / 10) / 10 * 10) : Int32).toInt64) * 4096)) + ((((((((x0 / 10) / 10) / 10) / 10) - ((((x0 / 10) / 10) / 10) / 10) / 10 * 10) : Int32).toInt64) * 64)) + (((((((((x0 / 10) / 10) / 10) / 10) / 10) - (((((x0 / 10) / 10) / 10) / 10) / 10) / 10 * 10) : Int32).toInt64) * 1)), (), rfl, Or.inr (key_ok ⟨hc_2, hc_5, hc_8, hc_11, hc_14, hc_17, hc_20, hc_21⟩), by rw [ht]; exact hP9, va_K.moved hW.alike hK9, hD9⟩, hS.F ht⟩) hS.2.2 dX15_keyOf_72)
                · skip
                  refine lv_ldc2 (v := (-1)) hx hb hown (hts (.constantLong RX15 389 (-1)) (List.mem_of_getElem? (i := 4) rfl)) dX15_keyOf_65 ?_
                  refine lv_goto (tgt := 72) hx hb dX15_keyOf_68 (by decide) ?_
                  have hP9 := hP.sub (ws' := []) [] rfl
                  have hD9 := hD.sub (ws' := []) [] (by decide) rfl
                  have hK9 := hK.sub (tys' := []) [] rfl
                  rw [← hAe] at hD9
                  refine W.widen (k := 0) (n := 0) (Nat.le_of_ble_eq_true rfl) (Nat.le_of_ble_eq_true rfl) ?_
                  subst hAe
                  exact (W.lret (v := (-1)) hx hb hr (fun t ht hW => ⟨⟨(-1), (), rfl, Or.inl ⟨rfl, fun h9 => hc_21 h9.2.2.2.2.2.2.2⟩, by rw [ht]; exact hP9, va_K.moved hW.alike hK9, hD9⟩, hS.F ht⟩) hS.2.2 dX15_keyOf_72)
            · skip
              refine lv_ldc2 (v := (-1)) hx hb hown (hts (.constantLong RX15 389 (-1)) (List.mem_of_getElem? (i := 4) rfl)) dX15_keyOf_24 ?_
              have hP9 := hP.sub (ws' := []) [] rfl
              have hD9 := hD.sub (ws' := []) [] (by decide) rfl
              have hK9 := hK.sub (tys' := []) [] rfl
              rw [← hAe] at hD9
              refine W.widen (k := 0) (n := 0) (Nat.le_of_ble_eq_true rfl) (Nat.le_of_ble_eq_true rfl) ?_
              subst hAe
              exact (W.lret (v := (-1)) hx hb hr (fun t ht hW => ⟨⟨(-1), (), rfl, Or.inl ⟨rfl, fun h9 => hc_17 h9.2.2.2.2.2.1⟩, by rw [ht]; exact hP9, va_K.moved hW.alike hK9, hD9⟩, hS.F ht⟩) hS.2.2 dX15_keyOf_27)
          · skip
            refine lv_ldc2 (v := (-1)) hx hb hown (hts (.constantLong RX15 389 (-1)) (List.mem_of_getElem? (i := 4) rfl)) dX15_keyOf_24 ?_
            have hP9 := hP.sub (ws' := []) [] rfl
            have hD9 := hD.sub (ws' := []) [] (by decide) rfl
            have hK9 := hK.sub (tys' := []) [] rfl
            rw [← hAe] at hD9
            refine W.widen (k := 0) (n := 0) (Nat.le_of_ble_eq_true rfl) (Nat.le_of_ble_eq_true rfl) ?_
            subst hAe
            exact (W.lret (v := (-1)) hx hb hr (fun t ht hW => ⟨⟨(-1), (), rfl, Or.inl ⟨rfl, fun h9 => hc_14 h9.2.2.2.2.1⟩, by rw [ht]; exact hP9, va_K.moved hW.alike hK9, hD9⟩, hS.F ht⟩) hS.2.2 dX15_keyOf_27)
        · skip
          refine lv_ldc2 (v := (-1)) hx hb hown (hts (.constantLong RX15 389 (-1)) (List.mem_of_getElem? (i := 4) rfl)) dX15_keyOf_24 ?_
          have hP9 := hP.sub (ws' := []) [] rfl
          have hD9 := hD.sub (ws' := []) [] (by decide) rfl
          have hK9 := hK.sub (tys' := []) [] rfl
          rw [← hAe] at hD9
          refine W.widen (k := 0) (n := 0) (Nat.le_of_ble_eq_true rfl) (Nat.le_of_ble_eq_true rfl) ?_
          subst hAe
          exact (W.lret (v := (-1)) hx hb hr (fun t ht hW => ⟨⟨(-1), (), rfl, Or.inl ⟨rfl, fun h9 => hc_11 h9.2.2.2.1⟩, by rw [ht]; exact hP9, va_K.moved hW.alike hK9, hD9⟩, hS.F ht⟩) hS.2.2 dX15_keyOf_27)
      · skip
        refine lv_ldc2 (v := (-1)) hx hb hown (hts (.constantLong RX15 389 (-1)) (List.mem_of_getElem? (i := 4) rfl)) dX15_keyOf_24 ?_
        have hP9 := hP.sub (ws' := []) [] rfl
        have hD9 := hD.sub (ws' := []) [] (by decide) rfl
        have hK9 := hK.sub (tys' := []) [] rfl
        rw [← hAe] at hD9
        refine W.widen (k := 0) (n := 0) (Nat.le_of_ble_eq_true rfl) (Nat.le_of_ble_eq_true rfl) ?_
        subst hAe
        exact (W.lret (v := (-1)) hx hb hr (fun t ht hW => ⟨⟨(-1), (), rfl, Or.inl ⟨rfl, fun h9 => hc_8 h9.2.2.1⟩, by rw [ht]; exact hP9, va_K.moved hW.alike hK9, hD9⟩, hS.F ht⟩) hS.2.2 dX15_keyOf_27)
    · skip
      refine lv_ldc2 (v := (-1)) hx hb hown (hts (.constantLong RX15 389 (-1)) (List.mem_of_getElem? (i := 4) rfl)) dX15_keyOf_24 ?_
      have hP9 := hP.sub (ws' := []) [] rfl
      have hD9 := hD.sub (ws' := []) [] (by decide) rfl
      have hK9 := hK.sub (tys' := []) [] rfl
      rw [← hAe] at hD9
      refine W.widen (k := 0) (n := 0) (Nat.le_of_ble_eq_true rfl) (Nat.le_of_ble_eq_true rfl) ?_
      subst hAe
      exact (W.lret (v := (-1)) hx hb hr (fun t ht hW => ⟨⟨(-1), (), rfl, Or.inl ⟨rfl, fun h9 => hc_5 h9.2.1⟩, by rw [ht]; exact hP9, va_K.moved hW.alike hK9, hD9⟩, hS.F ht⟩) hS.2.2 dX15_keyOf_27)
  · skip
    refine lv_ldc2 (v := (-1)) hx hb hown (hts (.constantLong RX15 389 (-1)) (List.mem_of_getElem? (i := 4) rfl)) dX15_keyOf_24 ?_
    have hP9 := hP.sub (ws' := []) [] rfl
    have hD9 := hD.sub (ws' := []) [] (by decide) rfl
    have hK9 := hK.sub (tys' := []) [] rfl
    rw [← hAe] at hD9
    refine W.widen (k := 0) (n := 0) (Nat.le_of_ble_eq_true rfl) (Nat.le_of_ble_eq_true rfl) ?_
    subst hAe
    exact (W.lret (v := (-1)) hx hb hr (fun t ht hW => ⟨⟨(-1), (), rfl, Or.inl ⟨rfl, fun h9 => hc_2 h9.1⟩, by rw [ht]; exact hP9, va_K.moved hW.alike hK9, hD9⟩, hS.F ht⟩) hS.2.2 dX15_keyOf_27)
def wv_q_placeOf : List Cond := .code yX13_placeOf cX13_placeOf 5 (some .int) :: ([.constantLong RX13 29 (7046029254386353131), .fieldLink RX13 18 "MotionSignsModel$Poly" "slot" "[I"] ++ (wsX130 ++ ([])))
theorem gw_q_placeOf : wv_q_placeOf.all goodWord = true := by decide +kernel
theorem in_q_placeOf_X13 : ∀ w ∈ wsX130, w ∈ wv_q_placeOf := fun _ h => List.mem_cons_of_mem _ (List.mem_append_right _ (List.mem_append_left _ h))
set_option maxHeartbeats 4000000 in
set_option maxRecDepth 100000 in
/-- placeOf -/
theorem c_q_placeOf (l : Launch) (dC : Nat → ClassId) (dI : Nat → Nat → Nat) (h0 : Nat) (h0s : Nat) (ks : Nat) (k : Int64) (fs_h0 : List Value) (hF_h0 : mF 5 [(2, .ref h0s)] fs_h0) (sz : Nat) : Met l yX13_placeOf wv_q_placeOf ({ frames := 0, cells := 0, slots := 0, locals := 0 }) (va_Pc [.ref h0, .long k] (fun U => U.heap.size = sz ∧ va_P (dC, dI) vwCl [(h0, .inr (13, fs_h0)), (h0s, .inl (ks, 128, .inl (fun _ => 0)))] U.heap ∧ va_K (dC, dI) vwCl [(ks, .int)] U ∧ va_D (fun _ => True) [(h0, .inr (13, fs_h0)), (h0s, .inl (ks, 128, .inl (fun _ => 0)))] ∧ w_N U)) (va_Qi (fun (r : Int32) (_ : Unit) => vp_in r 128) (fun _ t => va_P (dC, dI) vwCl [(h0, .inr (13, fs_h0)), (h0s, .inl (ks, 128, .inl (fun _ => 0)))] t.heap ∧ va_K (dC, dI) vwCl [(ks, .int)] t ∧ va_D (va_A [(h0, .inr (13, fs_h0)), (h0s, .inl (ks, 128, .inl (fun _ => 0)))] sz) [(h0, .inr (13, fs_h0)), (h0s, .inl (ks, 128, .inl (fun _ => 0)))]) (va_A [(h0, .inr (13, fs_h0)), (h0s, .inl (ks, 128, .inl (fun _ => 0)))] sz)) 0 0 (va_A [(h0, .inr (13, fs_h0)), (h0s, .inl (ks, 128, .inl (fun _ => 0)))] sz) := by
  refine Met.ofW (cc := cX13_placeOf) (maxL := 5) (ret := (some .int)) (by decide) rfl ?_
  intro p e s m args below meth c s₁ B hml hv
  obtain ⟨rfl, hsz, hP, hK, hD0, hN⟩ := hv
  have hx := B.exec
  have hb := B.bytes
  have hr := B.returns
  have hts := atoms_spec (ws := wv_q_placeOf) B.pre
  have hown : s.vm.findClass RX13 = some m.cls := findClass_of_methodNamed B.named
  have hlocks := B.notSynchronized
  subst hsz
  have hD := hD0.self (sz := s.heap.size)
  generalize hAe : va_A [(h0, .inr (13, fs_h0)), (h0s, .inl (ks, 128, .inl (fun _ => 0)))] s.heap.size = A at hD ⊢
  have hA : ∀ q : Nat, s.heap.size ≤ q → A q := fun q h => by rw [← hAe]; exact Or.inr h
  obtain ⟨H, hHe, hP, hS⟩ : ∃ H : Heap, H = s.heap ∧ va_P (dC, dI) vwCl [(h0, .inr (13, fs_h0)), (h0s, .inl (ks, 128, .inl (fun _ => 0)))] H ∧ va_S A s.heap H [] := ⟨s.heap, rfl, hP, va_S.rf⟩
  have hl := lv_entry ([.ref h0, .long k]) (n := 5) (Nat.le_of_ble_eq_true rfl)
  rw [lg_entry_eq]
  generalize (lg_sl ([.ref h0, .long k]) ++ List.replicate (5 - (lg_sl ([.ref h0, .long k])).length) Slot.unset).toArray = ls at hl ⊢
  have hl : lv_has ls 5 [(0, .ref h0), (1, .long k)] := hl
  rw [← hHe]; clear hHe
  refine lv_lload_n hx hb dX13_placeOf_0 rfl (lv_at hl 1 rfl) ?_
  refine lv_ldc2 (v := 7046029254386353131) hx hb hown (hts (.constantLong RX13 29 (7046029254386353131)) (List.mem_of_getElem? (i := 1) rfl)) dX13_placeOf_1 ?_
  refine lv_lmul hx hb dX13_placeOf_4 ?_
  refine lv_lstore_n (lv' := [(3, .long (k * 7046029254386353131)), (0, .ref h0), (1, .long k)]) hx hb dX13_placeOf_5 rfl hl (by decide) rfl (fun ls hl => ?_)
  refine lv_lload_n hx hb dX13_placeOf_6 rfl (lv_at hl 0 rfl) ?_
  refine lv_bipush (v := 40) hx hb dX13_placeOf_7 (by decide) ?_
  refine lv_lushr (v := (((k * 7046029254386353131).toUInt64 >>> ((40 : Int32).toInt64.toUInt64 &&& Int64.toUInt64 63)).toInt64)) hx hb dX13_placeOf_9 rfl ?_
  refine lv_l2i (v := ((((k * 7046029254386353131).toUInt64 >>> ((40 : Int32).toInt64.toUInt64 &&& Int64.toUInt64 63)).toInt64).toInt32)) hx hb dX13_placeOf_10 rfl ?_
  refine lv_aload_n hx hb dX13_placeOf_11 rfl (lv_at hl 1 rfl) ?_
  refine va_get (D := (dC, dI)) (ci := 13) (v := .ref h0s) (C := RX13) (T := TX13) (N := 5) hx hb hts (in_q_placeOf_X13) hown hK hP 0 rfl rfl 2 (by decide) (hts (.fieldLink RX13 18 "MotionSignsModel$Poly" "slot" "[I") (List.mem_of_getElem? (i := 2) rfl)) (fun _ h9 => h9) (mF.get hF_h0 0 rfl) dX13_placeOf_12 ?_
  refine va_alen (v := 128) hx hb hK hP 1 0 rfl rfl rfl dX13_placeOf_15 ?_
  refine lv_iconst (v := 1) hx hb dX13_placeOf_16 (by decide) ?_
  refine lv_isub hx hb dX13_placeOf_17 ?_
  refine lv_topi (fun v_1 ev_1 => ?_)
  have ev_1 : v_1 = 127 := ev_1.trans (by decide)
  subst ev_1
  refine lv_iand hx hb dX13_placeOf_18 ?_
  refine lv_topi (fun v_2 ev_2 => ?_)
  have hP9 := hP.sub (ws' := [(h0, .inr (13, fs_h0)), (h0s, .inl (ks, 128, .inl (fun _ => 0)))]) [0, 1] rfl
  have hD9 := hD.sub (ws' := [(h0, .inr (13, fs_h0)), (h0s, .inl (ks, 128, .inl (fun _ => 0)))]) [0, 1] (by decide) rfl
  have hK9 := hK.sub (tys' := [(ks, .int)]) [0] rfl
  rw [← hAe] at hD9
  refine W.widen (k := 0) (n := 0) (Nat.le_of_ble_eq_true rfl) (Nat.le_of_ble_eq_true rfl) ?_
  subst hAe
  exact (W.iret (v := v_2) hx hb hr (fun t ht hW => ⟨⟨v_2, (), rfl, (pk_andIn _ 7 (by decide) (by decide)), by rw [ht]; exact hP9, va_K.moved hW.alike hK9, hD9⟩, hS.F ht⟩) hS.2.2 dX13_placeOf_19)
def wv_q_found : List Cond := .code yX13_found cX13_found 4 (some .int) :: ([.methodLink RX13 31 yX13_placeOf, .instanceMethod yX13_placeOf, .selects RX13 yX13_placeOf yX13_placeOf, .initialized RX13, .fieldLink RX13 18 "MotionSignsModel$Poly" "slot" "[I"] ++ (wv_q_placeOf ++ (wsX130 ++ ([]))))
theorem gw_q_found : wv_q_found.all goodWord = true := by decide +kernel
theorem in_q_found_X13 : ∀ w ∈ wsX130, w ∈ wv_q_found := fun _ h => List.mem_cons_of_mem _ (List.mem_append_right _ (List.mem_append_right _ (List.mem_append_left _ h)))
theorem g_q_found_q_placeOf_31 : GoodIn wv_q_found (wsV RX13 31 RX13 yX13_placeOf wv_q_placeOf) := goodIn_app (goodIn_of _ (by decide +kernel)) (goodIn_sub (fun _ h => List.mem_cons_of_mem _ (List.mem_append_right _ (List.mem_append_left _ h))) gw_q_placeOf)
set_option maxHeartbeats 4000000 in
set_option maxRecDepth 100000 in
/-- found -/
theorem c_q_found (l : Launch) (dC : Nat → ClassId) (dI : Nat → Nat → Nat) (h0 : Nat) (h0s : Nat) (ks : Nat) (k : Int64) (fs_h0 : List Value) (hF_h0 : mF 5 [(2, .ref h0s)] fs_h0) (sz : Nat) : Met l yX13_found wv_q_found ({ frames := 1, cells := 0, slots := 0, locals := 24 }) (va_Pc [.ref h0, .long k] (fun U => U.heap.size = sz ∧ va_P (dC, dI) vwCl [(h0, .inr (13, fs_h0)), (h0s, .inl (ks, 128, .inl (fun _ => 0)))] U.heap ∧ va_K (dC, dI) vwCl [(ks, .int)] U ∧ va_D (fun _ => True) [(h0, .inr (13, fs_h0)), (h0s, .inl (ks, 128, .inl (fun _ => 0)))] ∧ w_N U)) (va_Qi (fun (r : Int32) (_ : Unit) => vp_in r 128) (fun _ t => va_P (dC, dI) vwCl [(h0, .inr (13, fs_h0)), (h0s, .inl (ks, 128, .inl (fun _ => 0)))] t.heap ∧ va_K (dC, dI) vwCl [(ks, .int)] t ∧ va_D (va_A [(h0, .inr (13, fs_h0)), (h0s, .inl (ks, 128, .inl (fun _ => 0)))] sz) [(h0, .inr (13, fs_h0)), (h0s, .inl (ks, 128, .inl (fun _ => 0)))]) (va_A [(h0, .inr (13, fs_h0)), (h0s, .inl (ks, 128, .inl (fun _ => 0)))] sz)) 0 0 (va_A [(h0, .inr (13, fs_h0)), (h0s, .inl (ks, 128, .inl (fun _ => 0)))] sz) := by
  refine Met.ofW (cc := cX13_found) (maxL := 4) (ret := (some .int)) (by decide) rfl ?_
  intro p e s m args below meth c s₁ B hml hv
  obtain ⟨rfl, hsz, hP, hK, hD0, hN⟩ := hv
  have hx := B.exec
  have hb := B.bytes
  have hr := B.returns
  have hts := atoms_spec (ws := wv_q_found) B.pre
  have hown : s.vm.findClass RX13 = some m.cls := findClass_of_methodNamed B.named
  have hlocks := B.notSynchronized
  subst hsz
  have hD := hD0.self (sz := s.heap.size)
  generalize hAe : va_A [(h0, .inr (13, fs_h0)), (h0s, .inl (ks, 128, .inl (fun _ => 0)))] s.heap.size = A at hD ⊢
  have hA : ∀ q : Nat, s.heap.size ≤ q → A q := fun q h => by rw [← hAe]; exact Or.inr h
  obtain ⟨H, hHe, hP, hS⟩ : ∃ H : Heap, H = s.heap ∧ va_P (dC, dI) vwCl [(h0, .inr (13, fs_h0)), (h0s, .inl (ks, 128, .inl (fun _ => 0)))] H ∧ va_S A s.heap H [] := ⟨s.heap, rfl, hP, va_S.rf⟩
  have hl := lv_entry ([.ref h0, .long k]) (n := 4) (Nat.le_of_ble_eq_true rfl)
  rw [lg_entry_eq]
  generalize (lg_sl ([.ref h0, .long k]) ++ List.replicate (4 - (lg_sl ([.ref h0, .long k])).length) Slot.unset).toArray = ls at hl ⊢
  have hl : lv_has ls 4 [(0, .ref h0), (1, .long k)] := hl
  rw [← hHe]; clear hHe
  refine lv_aload_n hx hb dX13_found_0 rfl (lv_at hl 0 rfl) ?_
  refine lv_lload_n hx hb dX13_found_1 rfl (lv_at hl 1 rfl) ?_
  have hPc := hP.sub (ws' := [(h0, .inr (13, fs_h0)), (h0s, .inl (ks, 128, .inl (fun _ => 0)))]) [0, 1] rfl
  have hDc := hD.sub (ws' := [(h0, .inr (13, fs_h0)), (h0s, .inl (ks, 128, .inl (fun _ => 0)))]) [0, 1] (by decide) rfl
  have hKc := hK.sub (tys' := [(ks, .int)]) [0] rfl
  have hFc := va_free (wc := [(h0, .inr (13, fs_h0)), (h0s, .inl (ks, 128, .inl (fun _ => 0)))]) hD hS hA [0, 1] rfl
  refine va_calli (va_runV (As := [.long k]) (rest := []) ⟨hx, hb, hml, hown, hts⟩ (c_q_placeOf l dC dI h0 h0s ks k fs_h0 (mF.sub hF_h0 [0] rfl) H.size) (cwV 1 hts g_q_found_q_placeOf_31 rfl rfl rfl hv_X13_placeOf ⟨Nat.le_of_ble_eq_true rfl, Nat.le_of_ble_eq_true rfl⟩) ⟨fun a U g mk q => by obtain ⟨q0, q1, qP, qK, qD, qE0⟩ := q; exact ⟨q0, q1, qP, va_K.moved (u := U) (U := U.calling g mk a) (Vm.Alike.refl U.vm) qK, qD, w_N.same rfl qE0⟩, va_recv hKc hPc (ci := 13) (q0 := 0) rfl rfl, fun U hU hW => ⟨rfl, by rw [hU], by rw [hU]; exact hPc, va_K.moved hW.alike hKc, hDc.weaken (fun _ _ _ _ => trivial), w_N.warm hW hN⟩⟩ rfl rfl hl.1 rfl (lv_room (Nat.le_of_ble_eq_true rfl)) dX13_found_2 ⟨(Nat.le_of_ble_eq_true rfl), (Nat.le_of_ble_eq_true rfl)⟩) hS (fun q _ h => hFc q h) hFc (fun r_1 u t H1 locs1 ht hvm hw hB hz1 hk1 hS1 => ?_)
  obtain ⟨hP1, hK1, hD1⟩ := hB
  rw [ht] at hP1
  have hK1 := va_K.moved hvm.symm hK1
  have hJ := va_join (wr := []) (w1 := [(h0, .inr (13, fs_h0)), (h0s, .inl (ks, 128, .inl (fun _ => 0)))]) hP hD [0, 1] [] rfl rfl (by decide) (by decide) hk1 hFc hP1 hD1
  clear hP hD hPc hDc hKc hFc hz1; try clear hk1
  obtain ⟨hP, hD⟩ := hJ
  replace hK := (hK.sub (tys' := [(ks, .int)]) [0] rfl).app (hK1.sub (tys' := []) [] rfl)
  clear hP1 hK1 hD1 hvm ht hS; try clear t
  try clear H
  revert hS1
  intro hS
  generalize H1 = H at hP hS ⊢; try clear H1
  replace hP : va_P (dC, dI) vwCl [(h0, .inr (13, fs_h0)), (h0s, .inl (ks, 128, .inl (fun _ => 0)))] H := hP
  replace hD : va_D A [(h0, .inr (13, fs_h0)), (h0s, .inl (ks, 128, .inl (fun _ => 0)))] := hD
  replace hK : va_K (dC, dI) vwCl [(ks, .int)] s := hK
  have hw_2 : vp_in r_1 128 := hw; clear hw
  refine lv_istore_n (lv' := [(3, .int r_1), (0, .ref h0), (1, .long k)]) hx hb dX13_found_5 rfl hl (by decide) rfl (fun ls hl => ?_)
  refine lv_aload_n hx hb dX13_found_6 rfl (lv_at hl 1 rfl) ?_
  refine va_get (D := (dC, dI)) (ci := 13) (v := .ref h0s) (C := RX13) (T := TX13) (N := 5) hx hb hts (in_q_found_X13) hown hK hP 0 rfl rfl 2 (by decide) (hts (.fieldLink RX13 18 "MotionSignsModel$Poly" "slot" "[I") (List.mem_of_getElem? (i := 5) rfl)) (fun _ h9 => h9) (mF.get hF_h0 0 rfl) dX13_found_7 ?_
  refine lv_iload_n hx hb dX13_found_10 rfl (lv_at hl 0 rfl) ?_
  refine va_iald hx hb hK hP 1 0 rfl rfl hw_2 dX13_found_11 ?_
  refine lv_topi (fun z9 ez9 => ?_)
  have ez9 : z9 = 0 := ez9
  subst ez9
  refine lv_if_eq (tgt := 48) hx hb dX13_found_12 (by decide) (fun _ => ?_) (fun hc => absurd (by decide) hc)
  refine lv_iload_n hx hb dX13_found_48 rfl (lv_at hl 0 rfl) ?_
  have hP9 := hP.sub (ws' := [(h0, .inr (13, fs_h0)), (h0s, .inl (ks, 128, .inl (fun _ => 0)))]) [0, 1] rfl
  have hD9 := hD.sub (ws' := [(h0, .inr (13, fs_h0)), (h0s, .inl (ks, 128, .inl (fun _ => 0)))]) [0, 1] (by decide) rfl
  have hK9 := hK.sub (tys' := [(ks, .int)]) [0] rfl
  rw [← hAe] at hD9
  refine W.widen (k := 0) (n := 0) (Nat.le_of_ble_eq_true rfl) (Nat.le_of_ble_eq_true rfl) ?_
  subst hAe
  exact (W.iret (v := r_1) hx hb hr (fun t ht hW => ⟨⟨r_1, (), rfl, hw_2, by rw [ht]; exact hP9, va_K.moved hW.alike hK9, hD9⟩, hS.F ht⟩) hS.2.2 dX13_found_49)
def wv_q_of : List Cond := .code yX13_of cX13_of 4 (some .long) :: ([.methodLink RX13 35 yX13_found, .instanceMethod yX13_found, .selects RX13 yX13_found yX13_found, .initialized RX13, .fieldLink RX13 18 "MotionSignsModel$Poly" "slot" "[I"] ++ (wv_q_found ++ (wsX130 ++ ([]))))
theorem gw_q_of : wv_q_of.all goodWord = true := by decide +kernel
theorem in_q_of_X13 : ∀ w ∈ wsX130, w ∈ wv_q_of := fun _ h => List.mem_cons_of_mem _ (List.mem_append_right _ (List.mem_append_right _ (List.mem_append_left _ h)))
theorem g_q_of_q_found_35 : GoodIn wv_q_of (wsV RX13 35 RX13 yX13_found wv_q_found) := goodIn_app (goodIn_of _ (by decide +kernel)) (goodIn_sub (fun _ h => List.mem_cons_of_mem _ (List.mem_append_right _ (List.mem_append_left _ h))) gw_q_found)
set_option maxHeartbeats 4000000 in
set_option maxRecDepth 100000 in
/-- of -/
theorem c_q_of (l : Launch) (dC : Nat → ClassId) (dI : Nat → Nat → Nat) (h0 : Nat) (h0s : Nat) (ks : Nat) (k : Int64) (fs_h0 : List Value) (hF_h0 : mF 5 [(2, .ref h0s)] fs_h0) (sz : Nat) : Met l yX13_of wv_q_of ({ frames := 2, cells := 0, slots := 0, locals := 47 }) (va_Pc [.ref h0, .long k] (fun U => U.heap.size = sz ∧ va_P (dC, dI) vwCl [(h0, .inr (13, fs_h0)), (h0s, .inl (ks, 128, .inl (fun _ => 0)))] U.heap ∧ va_K (dC, dI) vwCl [(ks, .int)] U ∧ va_D (fun _ => True) [(h0, .inr (13, fs_h0)), (h0s, .inl (ks, 128, .inl (fun _ => 0)))] ∧ w_N U)) (va_Ql (fun (r : Int64) (_ : Unit) => r = 0) (fun _ t => va_P (dC, dI) vwCl [(h0, .inr (13, fs_h0)), (h0s, .inl (ks, 128, .inl (fun _ => 0)))] t.heap ∧ va_K (dC, dI) vwCl [(ks, .int)] t ∧ va_D (va_A [(h0, .inr (13, fs_h0)), (h0s, .inl (ks, 128, .inl (fun _ => 0)))] sz) [(h0, .inr (13, fs_h0)), (h0s, .inl (ks, 128, .inl (fun _ => 0)))]) (va_A [(h0, .inr (13, fs_h0)), (h0s, .inl (ks, 128, .inl (fun _ => 0)))] sz)) 0 0 (va_A [(h0, .inr (13, fs_h0)), (h0s, .inl (ks, 128, .inl (fun _ => 0)))] sz) := by
  refine Met.ofW (cc := cX13_of) (maxL := 4) (ret := (some .long)) (by decide) rfl ?_
  intro p e s m args below meth c s₁ B hml hv
  obtain ⟨rfl, hsz, hP, hK, hD0, hN⟩ := hv
  have hx := B.exec
  have hb := B.bytes
  have hr := B.returns
  have hts := atoms_spec (ws := wv_q_of) B.pre
  have hown : s.vm.findClass RX13 = some m.cls := findClass_of_methodNamed B.named
  have hlocks := B.notSynchronized
  subst hsz
  have hD := hD0.self (sz := s.heap.size)
  generalize hAe : va_A [(h0, .inr (13, fs_h0)), (h0s, .inl (ks, 128, .inl (fun _ => 0)))] s.heap.size = A at hD ⊢
  have hA : ∀ q : Nat, s.heap.size ≤ q → A q := fun q h => by rw [← hAe]; exact Or.inr h
  obtain ⟨H, hHe, hP, hS⟩ : ∃ H : Heap, H = s.heap ∧ va_P (dC, dI) vwCl [(h0, .inr (13, fs_h0)), (h0s, .inl (ks, 128, .inl (fun _ => 0)))] H ∧ va_S A s.heap H [] := ⟨s.heap, rfl, hP, va_S.rf⟩
  have hl := lv_entry ([.ref h0, .long k]) (n := 4) (Nat.le_of_ble_eq_true rfl)
  rw [lg_entry_eq]
  generalize (lg_sl ([.ref h0, .long k]) ++ List.replicate (4 - (lg_sl ([.ref h0, .long k])).length) Slot.unset).toArray = ls at hl ⊢
  have hl : lv_has ls 4 [(0, .ref h0), (1, .long k)] := hl
  rw [← hHe]; clear hHe
  refine lv_aload_n hx hb dX13_of_0 rfl (lv_at hl 0 rfl) ?_
  refine lv_lload_n hx hb dX13_of_1 rfl (lv_at hl 1 rfl) ?_
  have hPc := hP.sub (ws' := [(h0, .inr (13, fs_h0)), (h0s, .inl (ks, 128, .inl (fun _ => 0)))]) [0, 1] rfl
  have hDc := hD.sub (ws' := [(h0, .inr (13, fs_h0)), (h0s, .inl (ks, 128, .inl (fun _ => 0)))]) [0, 1] (by decide) rfl
  have hKc := hK.sub (tys' := [(ks, .int)]) [0] rfl
  have hFc := va_free (wc := [(h0, .inr (13, fs_h0)), (h0s, .inl (ks, 128, .inl (fun _ => 0)))]) hD hS hA [0, 1] rfl
  refine va_calli (va_runV (As := [.long k]) (rest := []) ⟨hx, hb, hml, hown, hts⟩ (c_q_found l dC dI h0 h0s ks k fs_h0 (mF.sub hF_h0 [0] rfl) H.size) (cwV 1 hts g_q_of_q_found_35 rfl rfl rfl hv_X13_found ⟨Nat.le_of_ble_eq_true rfl, Nat.le_of_ble_eq_true rfl⟩) ⟨fun a U g mk q => by obtain ⟨q0, q1, qP, qK, qD, qE0⟩ := q; exact ⟨q0, q1, qP, va_K.moved (u := U) (U := U.calling g mk a) (Vm.Alike.refl U.vm) qK, qD, w_N.same rfl qE0⟩, va_recv hKc hPc (ci := 13) (q0 := 0) rfl rfl, fun U hU hW => ⟨rfl, by rw [hU], by rw [hU]; exact hPc, va_K.moved hW.alike hKc, hDc.weaken (fun _ _ _ _ => trivial), w_N.warm hW hN⟩⟩ rfl rfl hl.1 rfl (lv_room (Nat.le_of_ble_eq_true rfl)) dX13_of_2 ⟨(Nat.le_of_ble_eq_true rfl), (Nat.le_of_ble_eq_true rfl)⟩) hS (fun q _ h => hFc q h) hFc (fun r_1 u t H1 locs1 ht hvm hw hB hz1 hk1 hS1 => ?_)
  obtain ⟨hP1, hK1, hD1⟩ := hB
  rw [ht] at hP1
  have hK1 := va_K.moved hvm.symm hK1
  have hJ := va_join (wr := []) (w1 := [(h0, .inr (13, fs_h0)), (h0s, .inl (ks, 128, .inl (fun _ => 0)))]) hP hD [0, 1] [] rfl rfl (by decide) (by decide) hk1 hFc hP1 hD1
  clear hP hD hPc hDc hKc hFc hz1; try clear hk1
  obtain ⟨hP, hD⟩ := hJ
  replace hK := (hK.sub (tys' := [(ks, .int)]) [0] rfl).app (hK1.sub (tys' := []) [] rfl)
  clear hP1 hK1 hD1 hvm ht hS; try clear t
  try clear H
  revert hS1
  intro hS
  generalize H1 = H at hP hS ⊢; try clear H1
  replace hP : va_P (dC, dI) vwCl [(h0, .inr (13, fs_h0)), (h0s, .inl (ks, 128, .inl (fun _ => 0)))] H := hP
  replace hD : va_D A [(h0, .inr (13, fs_h0)), (h0s, .inl (ks, 128, .inl (fun _ => 0)))] := hD
  replace hK : va_K (dC, dI) vwCl [(ks, .int)] s := hK
  have hw_2 : vp_in r_1 128 := hw; clear hw
  refine lv_istore_n (lv' := [(3, .int r_1), (0, .ref h0), (1, .long k)]) hx hb dX13_of_5 rfl hl (by decide) rfl (fun ls hl => ?_)
  refine lv_aload_n hx hb dX13_of_6 rfl (lv_at hl 1 rfl) ?_
  refine va_get (D := (dC, dI)) (ci := 13) (v := .ref h0s) (C := RX13) (T := TX13) (N := 5) hx hb hts (in_q_of_X13) hown hK hP 0 rfl rfl 2 (by decide) (hts (.fieldLink RX13 18 "MotionSignsModel$Poly" "slot" "[I") (List.mem_of_getElem? (i := 5) rfl)) (fun _ h9 => h9) (mF.get hF_h0 0 rfl) dX13_of_7 ?_
  refine lv_iload_n hx hb dX13_of_10 rfl (lv_at hl 0 rfl) ?_
  refine va_iald hx hb hK hP 1 0 rfl rfl hw_2 dX13_of_11 ?_
  refine lv_topi (fun z9 ez9 => ?_)
  have ez9 : z9 = 0 := ez9
  subst ez9
  refine lv_if_ne (tgt := 19) hx hb dX13_of_12 (by decide) (fun hc => absurd (by decide) hc) (fun _ => ?_)
  refine lv_lconst (v := 0) hx hb dX13_of_15 (by decide) ?_
  refine lv_goto (tgt := 32) hx hb dX13_of_16 (by decide) ?_
  have hP9 := hP.sub (ws' := [(h0, .inr (13, fs_h0)), (h0s, .inl (ks, 128, .inl (fun _ => 0)))]) [0, 1] rfl
  have hD9 := hD.sub (ws' := [(h0, .inr (13, fs_h0)), (h0s, .inl (ks, 128, .inl (fun _ => 0)))]) [0, 1] (by decide) rfl
  have hK9 := hK.sub (tys' := [(ks, .int)]) [0] rfl
  rw [← hAe] at hD9
  refine W.widen (k := 0) (n := 0) (Nat.le_of_ble_eq_true rfl) (Nat.le_of_ble_eq_true rfl) ?_
  subst hAe
  exact (W.lret (v := 0) hx hb hr (fun t ht hW => ⟨⟨0, (), rfl, rfl, by rw [ht]; exact hP9, va_K.moved hW.alike hK9, hD9⟩, hS.F ht⟩) hS.2.2 dX13_of_32)
def wv_m_term : List Cond := .code yX15_term cX15_term 4 (some .int) :: ([.fieldLink RX15 296 "MotionSignsModel" "thrown" "I", .methodLink RX15 459 yX15_keyOf, .static yX15_keyOf, .initialized RX15, .constantLong RX15 389 (-1), .methodLink RX15 424 yX15_bad, .instanceMethod yX15_bad, .selects RX15 yX15_bad yX15_bad, .fieldLink RX15 130 "MotionSignsModel" "f" "LMotionSignsModel$Poly;", .initialized RX13, .instanceMethod yX13_of, .selects RX13 yX13_of yX13_of] ++ (wsX150 ++ (wv_m_keyOf ++ (wv_m_bad1 ++ (wv_m_bad0 ++ (wv_q_of ++ ([])))))))
theorem gw_m_term : wv_m_term.all goodWord = true := by decide +kernel
theorem in_m_term_X15 : ∀ w ∈ wsX150, w ∈ wv_m_term := fun _ h => List.mem_cons_of_mem _ (List.mem_append_right _ (List.mem_append_left _ h))
theorem g_m_term_m_keyOf_459 : GoodIn wv_m_term (va_wsS RX15 459 yX15_keyOf wv_m_keyOf) := goodIn_app (goodIn_of _ (by decide +kernel)) (goodIn_sub (fun _ h => List.mem_cons_of_mem _ (List.mem_append_right _ (List.mem_append_right _ (List.mem_append_left _ h)))) gw_m_keyOf)
theorem g_m_term_m_bad1_424 : GoodIn wv_m_term (wsV RX15 424 RX15 yX15_bad wv_m_bad1) := goodIn_app (goodIn_of _ (by decide +kernel)) (goodIn_sub (fun _ h => List.mem_cons_of_mem _ (List.mem_append_right _ (List.mem_append_right _ (List.mem_append_right _ (List.mem_append_left _ h))))) gw_m_bad1)
theorem g_m_term_m_bad0_424 : GoodIn wv_m_term (wsV RX15 424 RX15 yX15_bad wv_m_bad0) := goodIn_app (goodIn_of _ (by decide +kernel)) (goodIn_sub (fun _ h => List.mem_cons_of_mem _ (List.mem_append_right _ (List.mem_append_right _ (List.mem_append_right _ (List.mem_append_right _ (List.mem_append_left _ h)))))) gw_m_bad0)
theorem g_m_term_q_of_463 : GoodIn wv_m_term wv_q_of := goodIn_sub (fun _ h => List.mem_cons_of_mem _ (List.mem_append_right _ (List.mem_append_right _ (List.mem_append_right _ (List.mem_append_right _ (List.mem_append_right _ (List.mem_append_left _ h))))))) gw_q_of
set_option maxHeartbeats 4000000 in
set_option maxRecDepth 100000 in
/-- the reference: term on a fresh object -/
theorem c_m_term (l : Launch) (dC : Nat → ClassId) (dI : Nat → Nat → Nat) (h0 : Nat) (qfed : Nat) (qf : Nat) (qfd : Nat) (qs : Nat) (qk : Nat) (a3 : Nat) (k3 : Nat) (x0 : Int32) (fs_h0 : List Value) (fs_qf : List Value) (hF_h0 : mF 89 [(0, .int 0), (18, .int 0), (19, .int 0), (20, .int (-1)), (21, .int 0), (22, .int 0), (23, .int 0), (24, .int 0), (25, .int 0), (27, .int 0), (28, .int 0), (29, .int 0), (35, .int 0), (17, .int (-1)), (26, .ref qfed), (30, .ref qf), (31, .ref qfd), (33, .ref qs), (36, .ref qk)] fs_h0) (hF_qf : mF 5 [(4, .int 0), (2, .ref a3)] fs_qf) (sz : Nat) : Met l yX15_term wv_m_term ({ frames := 3, cells := 0, slots := 0, locals := 70 }) (va_Pc [.ref h0, .int x0] (fun U => U.heap.size = sz ∧ va_P (dC, dI) vwCl [(h0, .inr (15, fs_h0)), (qf, .inr (13, fs_qf)), (a3, .inl (k3, 128, .inl (fun _ => 0)))] U.heap ∧ va_K (dC, dI) vwCl [(k3, .int)] U ∧ va_D (fun _ => True) [(h0, .inr (15, fs_h0)), (qf, .inr (13, fs_qf)), (a3, .inl (k3, 128, .inl (fun _ => 0)))] ∧ w_N U)) (va_Qi (fun (r : Int32) (th : Int32) => (th = 0 ∧ r = 0 ∧ kKey x0) ∨ (th = 1 ∧ ¬ kKey x0)) (fun th t => ∃ (fs_e : List Value), va_P (dC, dI) vwCl [(h0, .inr (15, fs_e))] t.heap ∧ va_K (dC, dI) vwCl [] t ∧ va_D (va_A [(h0, .inr (15, fs_h0)), (qf, .inr (13, fs_qf)), (a3, .inl (k3, 128, .inl (fun _ => 0)))] sz) [(h0, .inr (15, fs_e))] ∧ mF 89 [(0, .int th)] fs_e) (va_A [(h0, .inr (15, fs_h0)), (qf, .inr (13, fs_qf)), (a3, .inl (k3, 128, .inl (fun _ => 0)))] sz)) 0 0 (va_A [(h0, .inr (15, fs_h0)), (qf, .inr (13, fs_qf)), (a3, .inl (k3, 128, .inl (fun _ => 0)))] sz) := by
  refine Met.ofW (cc := cX15_term) (maxL := 4) (ret := (some .int)) (by decide) rfl ?_
  intro p e s m args below meth c s₁ B hml hv
  obtain ⟨rfl, hsz, hP, hK, hD0, hN⟩ := hv
  have hx := B.exec
  have hb := B.bytes
  have hr := B.returns
  have hts := atoms_spec (ws := wv_m_term) B.pre
  have hown : s.vm.findClass RX15 = some m.cls := findClass_of_methodNamed B.named
  have hlocks := B.notSynchronized
  subst hsz
  have hD := hD0.self (sz := s.heap.size)
  generalize hAe : va_A [(h0, .inr (15, fs_h0)), (qf, .inr (13, fs_qf)), (a3, .inl (k3, 128, .inl (fun _ => 0)))] s.heap.size = A at hD ⊢
  have hA : ∀ q : Nat, s.heap.size ≤ q → A q := fun q h => by rw [← hAe]; exact Or.inr h
  obtain ⟨H, hHe, hP, hS⟩ : ∃ H : Heap, H = s.heap ∧ va_P (dC, dI) vwCl [(h0, .inr (15, fs_h0)), (qf, .inr (13, fs_qf)), (a3, .inl (k3, 128, .inl (fun _ => 0)))] H ∧ va_S A s.heap H [] := ⟨s.heap, rfl, hP, va_S.rf⟩
  have hl := lv_entry ([.ref h0, .int x0]) (n := 4) (Nat.le_of_ble_eq_true rfl)
  rw [lg_entry_eq]
  generalize (lg_sl ([.ref h0, .int x0]) ++ List.replicate (4 - (lg_sl ([.ref h0, .int x0])).length) Slot.unset).toArray = ls at hl ⊢
  have hl : lv_has ls 4 [(0, .ref h0), (1, .int x0)] := hl
  rw [← hHe]; clear hHe
  refine lv_aload_n hx hb dX15_term_0 rfl (lv_at hl 0 rfl) ?_
  refine lv_iconst (v := 0) hx hb dX15_term_1 (by decide) ?_
  refine va_put (D := (dC, dI)) (ci := 15) (v := .int 0) (ty := .int) (C := RX15) (T := TX15) (N := 89) hx hb hts (in_m_term_X15) tyX15 tyX15_ok nmX15 hown hK hP hD hS 0 rfl rfl 0 (by decide) (hts (.fieldLink RX15 296 "MotionSignsModel" "thrown" "I") (List.mem_of_getElem? (i := 1) rfl)) (fun _ h9 => h9) rfl (tyX15_ok 0 (by decide)) rfl rfl (mF.lt hF_h0 (by decide)) dX15_term_2 ?_
  clear hP hD hS; try clear H
  intro H locs hP hD hS
  have hF0 := mF.sub (L' := [(18, .int 0), (19, .int 0), (20, .int (-1)), (21, .int 0), (22, .int 0), (23, .int 0), (24, .int 0), (25, .int 0), (27, .int 0), (28, .int 0), (29, .int 0), (35, .int 0), (17, .int (-1)), (26, .ref qfed), (30, .ref qf), (31, .ref qfd), (33, .ref qs), (36, .ref qk)]) hF_h0 [1, 2, 3, 4, 5, 6, 7, 8, 9, 10, 11, 12, 13, 14, 15, 16, 17, 18] rfl
  have hF1 := mF.put hF0 0 (.int 0) (by decide) rfl
  replace hP : va_P (dC, dI) vwCl [(h0, .inr (15, (fs_h0.set 0 (.int 0)))), (qf, .inr (13, fs_qf)), (a3, .inl (k3, 128, .inl (fun _ => 0)))] H := hP
  replace hD : va_D A [(h0, .inr (15, (fs_h0.set 0 (.int 0)))), (qf, .inr (13, fs_qf)), (a3, .inl (k3, 128, .inl (fun _ => 0)))] := hD
  generalize fs_h0.set 0 (.int 0) = fs_1 at hP hD hF1
  replace hF_h0 : mF 89 [(0, .int 0), (18, .int 0), (19, .int 0), (20, .int (-1)), (21, .int 0), (22, .int 0), (23, .int 0), (24, .int 0), (25, .int 0), (27, .int 0), (28, .int 0), (29, .int 0), (35, .int 0), (17, .int (-1)), (26, .ref qfed), (30, .ref qf), (31, .ref qfd), (33, .ref qs), (36, .ref qk)] fs_1 := hF1
  clear hF1 hF0
  replace hP : va_P (dC, dI) vwCl [(h0, .inr (15, fs_1)), (qf, .inr (13, fs_qf)), (a3, .inl (k3, 128, .inl (fun _ => 0)))] H := hP
  replace hD : va_D A [(h0, .inr (15, fs_1)), (qf, .inr (13, fs_qf)), (a3, .inl (k3, 128, .inl (fun _ => 0)))] := hD
  refine lv_iload_n hx hb dX15_term_5 rfl (lv_at hl 1 rfl) ?_
  refine lv_bipush (v := 6) hx hb dX15_term_6 (by decide) ?_
  refine lv_iconst (v := 4) hx hb dX15_term_8 (by decide) ?_
  have hPc := hP.sub (ws' := []) [] rfl
  have hDc := hD.sub (ws' := []) [] (by decide) rfl
  have hKc := hK.sub (tys' := []) [] rfl
  have hFc := va_free (wc := []) hD hS hA [] rfl
  refine va_calll (va_runS (As := [.int x0, .int 6, .int 4]) (rest := []) ⟨hx, hb, hml, hown, hts⟩ (c_m_keyOf l dC dI x0 H.size) (va_cwS 3 hts g_m_term_m_keyOf_459 rfl rfl rfl hd_X15_keyOf ⟨Nat.le_of_ble_eq_true rfl, Nat.le_of_ble_eq_true rfl⟩) ⟨fun a U g mk q => by obtain ⟨q0, q1, qP, qK, qD, qE0⟩ := q; exact ⟨q0, q1, qP, va_K.moved (u := U) (U := U.calling g mk a) (Vm.Alike.refl U.vm) qK, qD, w_N.same rfl qE0⟩, fun U hU hW => ⟨rfl, by rw [hU], by rw [hU]; exact hPc, va_K.moved hW.alike hKc, hDc.weaken (fun _ _ _ _ => trivial), w_N.warm hW hN⟩⟩ rfl rfl hl.1 rfl (lv_room (Nat.le_of_ble_eq_true rfl)) dX15_term_9 ⟨(Nat.le_of_ble_eq_true rfl), (Nat.le_of_ble_eq_true rfl)⟩) hS (fun q _ h => hFc q h) hFc (fun r_2 u t H1 locs1 ht hvm hw hB hz1 hk1 hS1 => ?_)
  obtain ⟨hP1, hK1, hD1⟩ := hB
  rw [ht] at hP1
  have hK1 := va_K.moved hvm.symm hK1
  have hJ := va_join (wr := [(h0, .inr (15, fs_1)), (qf, .inr (13, fs_qf)), (a3, .inl (k3, 128, .inl (fun _ => 0)))]) (w1 := []) hP hD [] [0, 1, 2] rfl rfl (by decide) (by decide) hk1 hFc hP1 hD1
  clear hP hD hPc hDc hKc hFc hz1; try clear hk1
  obtain ⟨hP, hD⟩ := hJ
  replace hK := (hK.sub (tys' := [(k3, .int)]) [0] rfl).app (hK1.sub (tys' := []) [] rfl)
  clear hP1 hK1 hD1 hvm ht hS; try clear t
  try clear H
  revert hS1
  intro hS
  generalize H1 = H at hP hS ⊢; try clear H1
  replace hP : va_P (dC, dI) vwCl [(h0, .inr (15, fs_1)), (qf, .inr (13, fs_qf)), (a3, .inl (k3, 128, .inl (fun _ => 0)))] H := hP
  replace hD : va_D A [(h0, .inr (15, fs_1)), (qf, .inr (13, fs_qf)), (a3, .inl (k3, 128, .inl (fun _ => 0)))] := hD
  replace hK : va_K (dC, dI) vwCl [(k3, .int)] s := hK
  have hw_3 : (r_2 = (-1) ∧ ¬ kKey x0) ∨ (¬ r_2 = (-1) ∧ kKey x0) := hw; clear hw
  rcases hw_3 with ⟨ehw_3, hw_3⟩ | hw_3
  · skip
    subst ehw_3
    refine lv_lstore_n (lv' := [(2, .long (-1)), (0, .ref h0), (1, .int x0)]) hx hb dX15_term_12 rfl hl (by decide) rfl (fun ls hl => ?_)
    refine lv_aload_n hx hb dX15_term_13 rfl (lv_at hl 1 rfl) ?_
    refine lv_lload_n hx hb dX15_term_14 rfl (lv_at hl 0 rfl) ?_
    refine lv_ldc2 (v := (-1)) hx hb hown (hts (.constantLong RX15 389 (-1)) (List.mem_of_getElem? (i := 5) rfl)) dX15_term_15 ?_
    refine W.lcmp hx hb dX15_term_18 ?_
    refine lv_topi (fun v_4 ev_4 => ?_)
    have ev_4 : v_4 = 0 := ev_4.trans (by decide)
    subst ev_4
    refine lv_if_ne (tgt := 26) hx hb dX15_term_19 (by decide) (fun hc => absurd (by decide) hc) (fun _ => ?_)
    refine lv_iconst (v := 1) hx hb dX15_term_22 (by decide) ?_
    refine lv_goto (tgt := 27) hx hb dX15_term_23 (by decide) ?_
    refine lv_iconst (v := 1) hx hb dX15_term_27 (by decide) ?_
    have hPc := hP.sub (ws' := [(h0, .inr (15, fs_1))]) [0] rfl
    have hDc := hD.sub (ws' := [(h0, .inr (15, fs_1))]) [0] (by decide) rfl
    have hKc := hK.sub (tys' := []) [] rfl
    have hFc := va_free (wc := [(h0, .inr (15, fs_1))]) hD hS hA [0] rfl
    refine va_calli (va_runV (As := [.int 1, .int 1]) (rest := []) ⟨hx, hb, hml, hown, hts⟩ (c_m_bad1 l dC dI h0 qfed qf qfd qs qk fs_1 (mF.sub hF_h0 [0, 1, 2, 3, 4, 5, 6, 7, 8, 9, 10, 11, 12, 13, 14, 15, 16, 17, 18] rfl) H.size) (cwV 2 hts g_m_term_m_bad1_424 rfl rfl rfl hv_X15_bad ⟨Nat.le_of_ble_eq_true rfl, Nat.le_of_ble_eq_true rfl⟩) ⟨fun a U g mk q => by obtain ⟨q0, q1, qP, qK, qD, qE0⟩ := q; exact ⟨q0, q1, qP, va_K.moved (u := U) (U := U.calling g mk a) (Vm.Alike.refl U.vm) qK, qD, w_N.same rfl qE0⟩, va_recv hKc hPc (ci := 15) (q0 := 0) rfl rfl, fun U hU hW => ⟨rfl, by rw [hU], by rw [hU]; exact hPc, va_K.moved hW.alike hKc, hDc.weaken (fun _ _ _ _ => trivial), w_N.warm hW hN⟩⟩ rfl rfl hl.1 rfl (lv_room (Nat.le_of_ble_eq_true rfl)) dX15_term_28 ⟨(Nat.le_of_ble_eq_true rfl), (Nat.le_of_ble_eq_true rfl)⟩) hS (fun q _ h => hFc q h) hFc (fun r_5 u t H1 locs1 ht hvm hw hB hz1 hk1 hS1 => ?_)
    obtain ⟨fs_6, hP1, hK1, hD1, hp_7⟩ := hB
    rw [ht] at hP1
    have hK1 := va_K.moved hvm.symm hK1
    have hJ := va_join (wr := [(qf, .inr (13, fs_qf)), (a3, .inl (k3, 128, .inl (fun _ => 0)))]) (w1 := [(h0, .inr (15, fs_6))]) hP hD [0] [1, 2] rfl rfl (by decide) (by decide) hk1 hFc hP1 hD1
    clear hP hD hPc hDc hKc hFc hz1; try clear hk1
    obtain ⟨hP, hD⟩ := hJ
    replace hK := (hK.sub (tys' := [(k3, .int)]) [0] rfl).app (hK1.sub (tys' := []) [] rfl)
    clear hP1 hK1 hD1 hvm ht hS; try clear t
    try clear H
    revert hS1
    intro hS
    generalize H1 = H at hP hS ⊢; try clear H1
    replace hP : va_P (dC, dI) vwCl [(qf, .inr (13, fs_qf)), (a3, .inl (k3, 128, .inl (fun _ => 0))), (h0, .inr (15, fs_6))] H := hP
    replace hD : va_D A [(qf, .inr (13, fs_qf)), (a3, .inl (k3, 128, .inl (fun _ => 0))), (h0, .inr (15, fs_6))] := hD
    replace hK : va_K (dC, dI) vwCl [(k3, .int)] s := hK
    have hw_8 : r_5 = 1 := hw; clear hw
    subst hw_8
    refine lv_if_eq (tgt := 36) hx hb dX15_term_31 (by decide) (fun hc => absurd hc (by decide)) (fun _ => ?_)
    refine lv_iconst (v := 0) hx hb dX15_term_34 (by decide) ?_
    have hP9 := hP.sub (ws' := [(h0, .inr (15, fs_6))]) [2] rfl
    have hD9 := hD.sub (ws' := [(h0, .inr (15, fs_6))]) [2] (by decide) rfl
    have hK9 := hK.sub (tys' := []) [] rfl
    rw [← hAe] at hD9
    refine W.widen (k := 0) (n := 0) (Nat.le_of_ble_eq_true rfl) (Nat.le_of_ble_eq_true rfl) ?_
    subst hAe
    exact (W.iret (v := 0) hx hb hr (fun t ht hW => ⟨⟨0, 1, rfl, Or.inr ⟨rfl, hw_3⟩, fs_6, by rw [ht]; exact hP9, va_K.moved hW.alike hK9, hD9, (mF.sub hp_7 [0] rfl)⟩, hS.F ht⟩) hS.2.2 dX15_term_35)
  · skip
    refine lv_lstore_n (lv' := [(2, .long r_2), (0, .ref h0), (1, .int x0)]) hx hb dX15_term_12 rfl hl (by decide) rfl (fun ls hl => ?_)
    refine lv_aload_n hx hb dX15_term_13 rfl (lv_at hl 1 rfl) ?_
    refine lv_lload_n hx hb dX15_term_14 rfl (lv_at hl 0 rfl) ?_
    refine lv_ldc2 (v := (-1)) hx hb hown (hts (.constantLong RX15 389 (-1)) (List.mem_of_getElem? (i := 5) rfl)) dX15_term_15 ?_
    refine W.lcmp hx hb dX15_term_18 ?_
    refine lv_if_ne (tgt := 26) hx hb dX15_term_19 (by decide) (fun hc_9 => ?_) (fun hc_9 => ?_)
    · skip
      refine lv_iconst (v := 0) hx hb dX15_term_26 (by decide) ?_
      refine lv_iconst (v := 1) hx hb dX15_term_27 (by decide) ?_
      have hPc := hP.sub (ws' := [(h0, .inr (15, fs_1))]) [0] rfl
      have hDc := hD.sub (ws' := [(h0, .inr (15, fs_1))]) [0] (by decide) rfl
      have hKc := hK.sub (tys' := []) [] rfl
      have hFc := va_free (wc := [(h0, .inr (15, fs_1))]) hD hS hA [0] rfl
      refine va_calli (va_runV (As := [.int 0, .int 1]) (rest := []) ⟨hx, hb, hml, hown, hts⟩ (c_m_bad0 l dC dI h0 1 fs_1 (mF.sub hF_h0 [0] rfl) H.size) (cwV 2 hts g_m_term_m_bad0_424 rfl rfl rfl hv_X15_bad ⟨Nat.le_of_ble_eq_true rfl, Nat.le_of_ble_eq_true rfl⟩) ⟨fun a U g mk q => by obtain ⟨q0, q1, qP, qK, qD, qE0⟩ := q; exact ⟨q0, q1, qP, va_K.moved (u := U) (U := U.calling g mk a) (Vm.Alike.refl U.vm) qK, qD, w_N.same rfl qE0⟩, va_recv hKc hPc (ci := 15) (q0 := 0) rfl rfl, fun U hU hW => ⟨rfl, by rw [hU], by rw [hU]; exact hPc, va_K.moved hW.alike hKc, hDc.weaken (fun _ _ _ _ => trivial), w_N.warm hW hN⟩⟩ rfl rfl hl.1 rfl (lv_room (Nat.le_of_ble_eq_true rfl)) dX15_term_28 ⟨(Nat.le_of_ble_eq_true rfl), (Nat.le_of_ble_eq_true rfl)⟩) hS (fun q _ h => hFc q h) hFc (fun r_10 u t H1 locs1 ht hvm hw hB hz1 hk1 hS1 => ?_)
      obtain ⟨hP1, hK1, hD1⟩ := hB
      rw [ht] at hP1
      have hK1 := va_K.moved hvm.symm hK1
      have hJ := va_join (wr := [(qf, .inr (13, fs_qf)), (a3, .inl (k3, 128, .inl (fun _ => 0)))]) (w1 := [(h0, .inr (15, fs_1))]) hP hD [0] [1, 2] rfl rfl (by decide) (by decide) hk1 hFc hP1 hD1
      clear hP hD hPc hDc hKc hFc hz1; try clear hk1
      obtain ⟨hP, hD⟩ := hJ
      replace hK := (hK.sub (tys' := [(k3, .int)]) [0] rfl).app (hK1.sub (tys' := []) [] rfl)
      clear hP1 hK1 hD1 hvm ht hS; try clear t
      try clear H
      revert hS1
      intro hS
      generalize H1 = H at hP hS ⊢; try clear H1
      replace hP : va_P (dC, dI) vwCl [(qf, .inr (13, fs_qf)), (a3, .inl (k3, 128, .inl (fun _ => 0))), (h0, .inr (15, fs_1))] H := hP
      replace hD : va_D A [(qf, .inr (13, fs_qf)), (a3, .inl (k3, 128, .inl (fun _ => 0))), (h0, .inr (15, fs_1))] := hD
      replace hK : va_K (dC, dI) vwCl [(k3, .int)] s := hK
      have hw_11 : r_10 = 0 := hw; clear hw
      subst hw_11
      refine lv_if_eq (tgt := 36) hx hb dX15_term_31 (by decide) (fun _ => ?_) (fun hc => absurd (by decide) hc)
      refine lv_aload_n hx hb dX15_term_36 rfl (lv_at hl 1 rfl) ?_
      refine va_get (D := (dC, dI)) (ci := 15) (v := .ref qf) (C := RX15) (T := TX15) (N := 89) hx hb hts (in_m_term_X15) hown hK hP 2 rfl rfl 30 (by decide) (hts (.fieldLink RX15 130 "MotionSignsModel" "f" "LMotionSignsModel$Poly;") (List.mem_of_getElem? (i := 9) rfl)) (fun _ h9 => h9) (mF.get hF_h0 15 rfl) dX15_term_37 ?_
      refine lv_lload_n hx hb dX15_term_40 rfl (lv_at hl 0 rfl) ?_
      have hPc := hP.sub (ws' := [(qf, .inr (13, fs_qf)), (a3, .inl (k3, 128, .inl (fun _ => 0)))]) [0, 1] rfl
      have hDc := hD.sub (ws' := [(qf, .inr (13, fs_qf)), (a3, .inl (k3, 128, .inl (fun _ => 0)))]) [0, 1] (by decide) rfl
      have hKc := hK.sub (tys' := [(k3, .int)]) [0] rfl
      have hFc := va_free (wc := [(qf, .inr (13, fs_qf)), (a3, .inl (k3, 128, .inl (fun _ => 0)))]) hD hS hA [0, 1] rfl
      refine va_calll (va_runVN (As := [.long r_2]) (rest := []) ⟨hx, hb, hml, hown, hts⟩ (c_q_of l dC dI qf a3 k3 r_2 fs_qf (mF.sub hF_qf [1] rfl) H.size) ⟨va_cnB 1 hts g_m_term_q_of_463 rfl rfl rfl (hN.1 (RX15, 463, yX13_of, RX15) (List.mem_of_getElem? (i := 38) rfl)) (hts (.initialized RX13) (List.mem_of_getElem? (i := 10) rfl)) hd_X13_of ⟨Nat.le_of_ble_eq_true rfl, Nat.le_of_ble_eq_true rfl⟩, (hts (.instanceMethod yX13_of) (List.mem_of_getElem? (i := 11) rfl)), (hts (.selects RX13 yX13_of yX13_of) (List.mem_of_getElem? (i := 12) rfl))⟩ ⟨fun a U g mk q => by obtain ⟨q0, q1, qP, qK, qD, qE0⟩ := q; exact ⟨q0, q1, qP, va_K.moved (u := U) (U := U.calling g mk a) (Vm.Alike.refl U.vm) qK, qD, w_N.same rfl qE0⟩, va_recv hKc hPc (ci := 13) (q0 := 0) rfl rfl, fun U hU hW => ⟨rfl, by rw [hU], by rw [hU]; exact hPc, va_K.moved hW.alike hKc, hDc.weaken (fun _ _ _ _ => trivial), w_N.warm hW hN⟩⟩ rfl rfl hl.1 rfl (lv_room (Nat.le_of_ble_eq_true rfl)) dX15_term_41 ⟨(Nat.le_of_ble_eq_true rfl), (Nat.le_of_ble_eq_true rfl)⟩) hS (fun q _ h => hFc q h) hFc (fun r_12 u t H1 locs1 ht hvm hw hB hz1 hk1 hS1 => ?_)
      obtain ⟨hP1, hK1, hD1⟩ := hB
      rw [ht] at hP1
      have hK1 := va_K.moved hvm.symm hK1
      have hJ := va_join (wr := [(h0, .inr (15, fs_1))]) (w1 := [(qf, .inr (13, fs_qf)), (a3, .inl (k3, 128, .inl (fun _ => 0)))]) hP hD [0, 1] [2] rfl rfl (by decide) (by decide) hk1 hFc hP1 hD1
      clear hP hD hPc hDc hKc hFc hz1; try clear hk1
      obtain ⟨hP, hD⟩ := hJ
      replace hK := (hK.sub (tys' := [(k3, .int)]) [0] rfl).app (hK1.sub (tys' := []) [] rfl)
      clear hP1 hK1 hD1 hvm ht hS; try clear t
      try clear H
      revert hS1
      intro hS
      generalize H1 = H at hP hS ⊢; try clear H1
      replace hP : va_P (dC, dI) vwCl [(h0, .inr (15, fs_1)), (qf, .inr (13, fs_qf)), (a3, .inl (k3, 128, .inl (fun _ => 0)))] H := hP
      replace hD : va_D A [(h0, .inr (15, fs_1)), (qf, .inr (13, fs_qf)), (a3, .inl (k3, 128, .inl (fun _ => 0)))] := hD
      replace hK : va_K (dC, dI) vwCl [(k3, .int)] s := hK
      have hw_13 : r_12 = 0 := hw; clear hw
      subst hw_13
      refine lv_l2i (v := 0) hx hb dX15_term_44 (by decide) ?_
      have hP9 := hP.sub (ws' := [(h0, .inr (15, fs_1))]) [0] rfl
      have hD9 := hD.sub (ws' := [(h0, .inr (15, fs_1))]) [0] (by decide) rfl
      have hK9 := hK.sub (tys' := []) [] rfl
      rw [← hAe] at hD9
      refine W.widen (k := 0) (n := 0) (Nat.le_of_ble_eq_true rfl) (Nat.le_of_ble_eq_true rfl) ?_
      subst hAe
      exact (W.iret (v := 0) hx hb hr (fun t ht hW => ⟨⟨0, 0, rfl, Or.inl ⟨rfl, rfl, hw_3.2⟩, fs_1, by rw [ht]; exact hP9, va_K.moved hW.alike hK9, hD9, (mF.sub hF_h0 [0] rfl)⟩, hS.F ht⟩) hS.2.2 dX15_term_45)
    · skip
      refine lv_iconst (v := 1) hx hb dX15_term_22 (by decide) ?_
      refine lv_goto (tgt := 27) hx hb dX15_term_23 (by decide) ?_
      refine lv_iconst (v := 1) hx hb dX15_term_27 (by decide) ?_
      have hPc := hP.sub (ws' := [(h0, .inr (15, fs_1))]) [0] rfl
      have hDc := hD.sub (ws' := [(h0, .inr (15, fs_1))]) [0] (by decide) rfl
      have hKc := hK.sub (tys' := []) [] rfl
      have hFc := va_free (wc := [(h0, .inr (15, fs_1))]) hD hS hA [0] rfl
      refine va_calli (va_runV (As := [.int 1, .int 1]) (rest := []) ⟨hx, hb, hml, hown, hts⟩ (c_m_bad1 l dC dI h0 qfed qf qfd qs qk fs_1 (mF.sub hF_h0 [0, 1, 2, 3, 4, 5, 6, 7, 8, 9, 10, 11, 12, 13, 14, 15, 16, 17, 18] rfl) H.size) (cwV 2 hts g_m_term_m_bad1_424 rfl rfl rfl hv_X15_bad ⟨Nat.le_of_ble_eq_true rfl, Nat.le_of_ble_eq_true rfl⟩) ⟨fun a U g mk q => by obtain ⟨q0, q1, qP, qK, qD, qE0⟩ := q; exact ⟨q0, q1, qP, va_K.moved (u := U) (U := U.calling g mk a) (Vm.Alike.refl U.vm) qK, qD, w_N.same rfl qE0⟩, va_recv hKc hPc (ci := 15) (q0 := 0) rfl rfl, fun U hU hW => ⟨rfl, by rw [hU], by rw [hU]; exact hPc, va_K.moved hW.alike hKc, hDc.weaken (fun _ _ _ _ => trivial), w_N.warm hW hN⟩⟩ rfl rfl hl.1 rfl (lv_room (Nat.le_of_ble_eq_true rfl)) dX15_term_28 ⟨(Nat.le_of_ble_eq_true rfl), (Nat.le_of_ble_eq_true rfl)⟩) hS (fun q _ h => hFc q h) hFc (fun r_14 u t H1 locs1 ht hvm hw hB hz1 hk1 hS1 => ?_)
      obtain ⟨fs_15, hP1, hK1, hD1, hp_16⟩ := hB
      rw [ht] at hP1
      have hK1 := va_K.moved hvm.symm hK1
      have hJ := va_join (wr := [(qf, .inr (13, fs_qf)), (a3, .inl (k3, 128, .inl (fun _ => 0)))]) (w1 := [(h0, .inr (15, fs_15))]) hP hD [0] [1, 2] rfl rfl (by decide) (by decide) hk1 hFc hP1 hD1
      clear hP hD hPc hDc hKc hFc hz1; try clear hk1
      obtain ⟨hP, hD⟩ := hJ
      replace hK := (hK.sub (tys' := [(k3, .int)]) [0] rfl).app (hK1.sub (tys' := []) [] rfl)
      clear hP1 hK1 hD1 hvm ht hS; try clear t
      try clear H
      revert hS1
      intro hS
      generalize H1 = H at hP hS ⊢; try clear H1
      replace hP : va_P (dC, dI) vwCl [(qf, .inr (13, fs_qf)), (a3, .inl (k3, 128, .inl (fun _ => 0))), (h0, .inr (15, fs_15))] H := hP
      replace hD : va_D A [(qf, .inr (13, fs_qf)), (a3, .inl (k3, 128, .inl (fun _ => 0))), (h0, .inr (15, fs_15))] := hD
      replace hK : va_K (dC, dI) vwCl [(k3, .int)] s := hK
      have hw_17 : r_14 = 1 := hw; clear hw
      subst hw_17
      refine lv_if_eq (tgt := 36) hx hb dX15_term_31 (by decide) (fun hc => absurd hc (by decide)) (fun _ => ?_)
      refine lv_iconst (v := 0) hx hb dX15_term_34 (by decide) ?_
      have hP9 := hP.sub (ws' := [(h0, .inr (15, fs_15))]) [2] rfl
      have hD9 := hD.sub (ws' := [(h0, .inr (15, fs_15))]) [2] (by decide) rfl
      have hK9 := hK.sub (tys' := []) [] rfl
      rw [← hAe] at hD9
      refine W.widen (k := 0) (n := 0) (Nat.le_of_ble_eq_true rfl) (Nat.le_of_ble_eq_true rfl) ?_
      subst hAe
      exact (W.iret (v := 0) hx hb hr (fun t ht hW => ⟨⟨0, 1, rfl, Or.inr ⟨rfl, absurd ((lg_cmp_eq _ _).mp hc_9) hw_3.1⟩, fs_15, by rw [ht]; exact hP9, va_K.moved hW.alike hK9, hD9, (mF.sub hp_16 [0] rfl)⟩, hS.F ht⟩) hS.2.2 dX15_term_35)
def wv_q_clear : List Cond := .code yX13_clear cX13_clear 2 none :: ([.fieldLink RX13 25 "MotionSignsModel$Poly" "many" "I"] ++ (wsX130 ++ ([])))
theorem gw_q_clear : wv_q_clear.all goodWord = true := by decide +kernel
theorem in_q_clear_X13 : ∀ w ∈ wsX130, w ∈ wv_q_clear := fun _ h => List.mem_cons_of_mem _ (List.mem_append_right _ (List.mem_append_left _ h))
set_option maxHeartbeats 4000000 in
set_option maxRecDepth 100000 in
/-- clear -/
theorem c_q_clear (l : Launch) (dC : Nat → ClassId) (dI : Nat → Nat → Nat) (h0 : Nat) (fs_h0 : List Value) (hF_h0 : mF 5 [(4, .int 0)] fs_h0) (sz : Nat) : Met l yX13_clear wv_q_clear ({ frames := 0, cells := 0, slots := 0, locals := 0 }) (va_Pc [.ref h0] (fun U => U.heap.size = sz ∧ va_P (dC, dI) vwCl [(h0, .inr (13, fs_h0))] U.heap ∧ va_K (dC, dI) vwCl [] U ∧ va_D (fun _ => True) [(h0, .inr (13, fs_h0))] ∧ w_N U)) (va_Qv (fun (_ : Unit) => True) (fun _ t => ∃ (fs_h02 : List Value), va_P (dC, dI) vwCl [(h0, .inr (13, fs_h02))] t.heap ∧ va_K (dC, dI) vwCl [] t ∧ va_D (va_A [(h0, .inr (13, fs_h0))] sz) [(h0, .inr (13, fs_h02))] ∧ mF 5 [(4, .int 0)] fs_h02) (va_A [(h0, .inr (13, fs_h0))] sz)) 0 0 (va_A [(h0, .inr (13, fs_h0))] sz) := by
  refine Met.ofW (cc := cX13_clear) (maxL := 2) (ret := none) (by decide) rfl ?_
  intro p e s m args below meth c s₁ B hml hv
  obtain ⟨rfl, hsz, hP, hK, hD0, hN⟩ := hv
  have hx := B.exec
  have hb := B.bytes
  have hr := B.returns
  have hts := atoms_spec (ws := wv_q_clear) B.pre
  have hown : s.vm.findClass RX13 = some m.cls := findClass_of_methodNamed B.named
  have hlocks := B.notSynchronized
  subst hsz
  have hD := hD0.self (sz := s.heap.size)
  generalize hAe : va_A [(h0, .inr (13, fs_h0))] s.heap.size = A at hD ⊢
  have hA : ∀ q : Nat, s.heap.size ≤ q → A q := fun q h => by rw [← hAe]; exact Or.inr h
  obtain ⟨H, hHe, hP, hS⟩ : ∃ H : Heap, H = s.heap ∧ va_P (dC, dI) vwCl [(h0, .inr (13, fs_h0))] H ∧ va_S A s.heap H [] := ⟨s.heap, rfl, hP, va_S.rf⟩
  have hl := lv_entry ([.ref h0]) (n := 2) (Nat.le_of_ble_eq_true rfl)
  rw [lg_entry_eq]
  generalize (lg_sl ([.ref h0]) ++ List.replicate (2 - (lg_sl ([.ref h0])).length) Slot.unset).toArray = ls at hl ⊢
  have hl : lv_has ls 2 [(0, .ref h0)] := hl
  rw [← hHe]; clear hHe
  refine lv_iconst (v := 0) hx hb dX13_clear_0 (by decide) ?_
  refine lv_istore_n (lv' := [(1, .int 0), (0, .ref h0)]) hx hb dX13_clear_1 rfl hl (by decide) rfl (fun ls hl => ?_)
  refine lv_iload_n hx hb dX13_clear_2 rfl (lv_at hl 0 rfl) ?_
  refine lv_aload_n hx hb dX13_clear_3 rfl (lv_at hl 1 rfl) ?_
  refine va_get (D := (dC, dI)) (ci := 13) (v := .int 0) (C := RX13) (T := TX13) (N := 5) hx hb hts (in_q_clear_X13) hown hK hP 0 rfl rfl 4 (by decide) (hts (.fieldLink RX13 25 "MotionSignsModel$Poly" "many" "I") (List.mem_of_getElem? (i := 1) rfl)) (fun _ h9 => h9) (mF.get hF_h0 0 rfl) dX13_clear_4 ?_
  refine lv_icmp_ge (tgt := 28) hx hb dX13_clear_7 (by decide) (fun _ => ?_) (fun hc => absurd (by decide) hc)
  refine lv_aload_n hx hb dX13_clear_28 rfl (lv_at hl 1 rfl) ?_
  refine lv_iconst (v := 0) hx hb dX13_clear_29 (by decide) ?_
  refine va_put (D := (dC, dI)) (ci := 13) (v := .int 0) (ty := .int) (C := RX13) (T := TX13) (N := 5) hx hb hts (in_q_clear_X13) tyX13 tyX13_ok nmX13 hown hK hP hD hS 0 rfl rfl 4 (by decide) (hts (.fieldLink RX13 25 "MotionSignsModel$Poly" "many" "I") (List.mem_of_getElem? (i := 1) rfl)) (fun _ h9 => h9) rfl (tyX13_ok 4 (by decide)) rfl rfl (mF.lt hF_h0 (by decide)) dX13_clear_30 ?_
  clear hP hD hS; try clear H
  intro H locs hP hD hS
  have hF0 := mF.sub (L' := []) hF_h0 [] rfl
  have hF1 := mF.put hF0 4 (.int 0) (by decide) rfl
  replace hP : va_P (dC, dI) vwCl [(h0, .inr (13, (fs_h0.set 4 (.int 0))))] H := hP
  replace hD : va_D A [(h0, .inr (13, (fs_h0.set 4 (.int 0))))] := hD
  generalize fs_h0.set 4 (.int 0) = fs_1 at hP hD hF1
  replace hF_h0 : mF 5 [(4, .int 0)] fs_1 := hF1
  clear hF1 hF0
  replace hP : va_P (dC, dI) vwCl [(h0, .inr (13, fs_1))] H := hP
  replace hD : va_D A [(h0, .inr (13, fs_1))] := hD
  have hP9 := hP.sub (ws' := [(h0, .inr (13, fs_1))]) [0] rfl
  have hD9 := hD.sub (ws' := [(h0, .inr (13, fs_1))]) [0] (by decide) rfl
  have hK9 := hK.sub (tys' := []) [] rfl
  rw [← hAe] at hD9
  refine W.widen (k := 0) (n := 0) (Nat.le_of_ble_eq_true rfl) (Nat.le_of_ble_eq_true rfl) ?_
  subst hAe
  exact (W.vret hx hb hr (fun t ht hW => ⟨⟨(), rfl, trivial, fs_1, by rw [ht]; exact hP9, va_K.moved hW.alike hK9, hD9, (mF.sub hF_h0 [0] rfl)⟩, hS.F ht⟩) hS.2.2 dX13_clear_33)
def wv_q_adds : List Cond := .code yX13_adds cX13_adds 5 none :: ([.fieldLink RX13 25 "MotionSignsModel$Poly" "many" "I"] ++ (wsX130 ++ ([])))
theorem gw_q_adds : wv_q_adds.all goodWord = true := by decide +kernel
theorem in_q_adds_X13 : ∀ w ∈ wsX130, w ∈ wv_q_adds := fun _ h => List.mem_cons_of_mem _ (List.mem_append_right _ (List.mem_append_left _ h))
set_option maxHeartbeats 4000000 in
set_option maxRecDepth 100000 in
/-- adds -/
theorem c_q_adds (l : Launch) (dC : Nat → ClassId) (dI : Nat → Nat → Nat) (h0 : Nat) (h1 : Nat) (by : Int64) (fs_h0 : List Value) (fs_h1 : List Value) (hF_h0 : mF 5 [(4, .int 0)] fs_h0) (hF_h1 : mF 5 [(4, .int 0)] fs_h1) (sz : Nat) : Met l yX13_adds wv_q_adds ({ frames := 0, cells := 0, slots := 0, locals := 0 }) (va_Pc [.ref h0, .ref h1, .long by] (fun U => U.heap.size = sz ∧ va_P (dC, dI) vwCl [(h0, .inr (13, fs_h0)), (h1, .inr (13, fs_h1))] U.heap ∧ va_K (dC, dI) vwCl [] U ∧ va_D (fun _ => True) [(h0, .inr (13, fs_h0)), (h1, .inr (13, fs_h1))] ∧ w_N U)) (va_Qv (fun (_ : Unit) => True) (fun _ t => va_P (dC, dI) vwCl [(h0, .inr (13, fs_h0)), (h1, .inr (13, fs_h1))] t.heap ∧ va_K (dC, dI) vwCl [] t ∧ va_D (va_A [(h0, .inr (13, fs_h0)), (h1, .inr (13, fs_h1))] sz) [(h0, .inr (13, fs_h0)), (h1, .inr (13, fs_h1))]) (va_A [(h0, .inr (13, fs_h0)), (h1, .inr (13, fs_h1))] sz)) 0 0 (va_A [(h0, .inr (13, fs_h0)), (h1, .inr (13, fs_h1))] sz) := by
  refine Met.ofW (cc := cX13_adds) (maxL := 5) (ret := none) (by decide) rfl ?_
  intro p e s m args below meth c s₁ B hml hv
  obtain ⟨rfl, hsz, hP, hK, hD0, hN⟩ := hv
  have hx := B.exec
  have hb := B.bytes
  have hr := B.returns
  have hts := atoms_spec (ws := wv_q_adds) B.pre
  have hown : s.vm.findClass RX13 = some m.cls := findClass_of_methodNamed B.named
  have hlocks := B.notSynchronized
  subst hsz
  have hD := hD0.self (sz := s.heap.size)
  generalize hAe : va_A [(h0, .inr (13, fs_h0)), (h1, .inr (13, fs_h1))] s.heap.size = A at hD ⊢
  have hA : ∀ q : Nat, s.heap.size ≤ q → A q := fun q h => by rw [← hAe]; exact Or.inr h
  obtain ⟨H, hHe, hP, hS⟩ : ∃ H : Heap, H = s.heap ∧ va_P (dC, dI) vwCl [(h0, .inr (13, fs_h0)), (h1, .inr (13, fs_h1))] H ∧ va_S A s.heap H [] := ⟨s.heap, rfl, hP, va_S.rf⟩
  have hl := lv_entry ([.ref h0, .ref h1, .long by]) (n := 5) (Nat.le_of_ble_eq_true rfl)
  rw [lg_entry_eq]
  generalize (lg_sl ([.ref h0, .ref h1, .long by]) ++ List.replicate (5 - (lg_sl ([.ref h0, .ref h1, .long by])).length) Slot.unset).toArray = ls at hl ⊢
  have hl : lv_has ls 5 [(0, .ref h0), (1, .ref h1), (2, .long by)] := hl
  rw [← hHe]; clear hHe
  refine lv_iconst (v := 0) hx hb dX13_adds_0 (by decide) ?_
  refine lv_istore (lv' := [(4, .int 0), (0, .ref h0), (1, .ref h1), (2, .long by)]) hx hb dX13_adds_1 hl (by decide) rfl (fun ls hl => ?_)
  refine lv_iload hx hb dX13_adds_3 (lv_at hl 0 rfl) ?_
  refine lv_aload_n hx hb dX13_adds_5 rfl (lv_at hl 2 rfl) ?_
  refine va_get (D := (dC, dI)) (ci := 13) (v := .int 0) (C := RX13) (T := TX13) (N := 5) hx hb hts (in_q_adds_X13) hown hK hP 1 rfl rfl 4 (by decide) (hts (.fieldLink RX13 25 "MotionSignsModel$Poly" "many" "I") (List.mem_of_getElem? (i := 1) rfl)) (fun _ h9 => h9) (mF.get hF_h1 0 rfl) dX13_adds_6 ?_
  refine lv_icmp_ge (tgt := 38) hx hb dX13_adds_9 (by decide) (fun _ => ?_) (fun hc => absurd (by decide) hc)
  have hP9 := hP.sub (ws' := [(h0, .inr (13, fs_h0)), (h1, .inr (13, fs_h1))]) [0, 1] rfl
  have hD9 := hD.sub (ws' := [(h0, .inr (13, fs_h0)), (h1, .inr (13, fs_h1))]) [0, 1] (by decide) rfl
  have hK9 := hK.sub (tys' := []) [] rfl
  rw [← hAe] at hD9
  refine W.widen (k := 0) (n := 0) (Nat.le_of_ble_eq_true rfl) (Nat.le_of_ble_eq_true rfl) ?_
  subst hAe
  exact (W.vret hx hb hr (fun t ht hW => ⟨⟨(), rfl, trivial, by rw [ht]; exact hP9, va_K.moved hW.alike hK9, hD9⟩, hS.F ht⟩) hS.2.2 dX13_adds_38)
def wv_m_copies : List Cond := .code yX15_copies cX15_copies 2 none :: ([.initialized RX13, .instanceMethod yX13_clear, .selects RX13 yX13_clear yX13_clear, .instanceMethod yX13_adds, .selects RX13 yX13_adds yX13_adds] ++ (wv_q_clear ++ (wv_q_adds ++ ([]))))
theorem gw_m_copies : wv_m_copies.all goodWord = true := by decide +kernel
theorem g_m_copies_q_clear_368 : GoodIn wv_m_copies wv_q_clear := goodIn_sub (fun _ h => List.mem_cons_of_mem _ (List.mem_append_right _ (List.mem_append_left _ h))) gw_q_clear
theorem g_m_copies_q_adds_374 : GoodIn wv_m_copies wv_q_adds := goodIn_sub (fun _ h => List.mem_cons_of_mem _ (List.mem_append_right _ (List.mem_append_right _ (List.mem_append_left _ h)))) gw_q_adds
set_option maxHeartbeats 4000000 in
set_option maxRecDepth 100000 in
/-- copies -/
theorem c_m_copies (l : Launch) (dC : Nat → ClassId) (dI : Nat → Nat → Nat) (h0 : Nat) (h1 : Nat) (fs_h0 : List Value) (fs_h1 : List Value) (hF_h0 : mF 5 [(4, .int 0)] fs_h0) (hF_h1 : mF 5 [(4, .int 0)] fs_h1) (sz : Nat) : Met l yX15_copies wv_m_copies ({ frames := 1, cells := 0, slots := 0, locals := 24 }) (va_Pc [.ref h0, .ref h1] (fun U => U.heap.size = sz ∧ va_P (dC, dI) vwCl [(h0, .inr (13, fs_h0)), (h1, .inr (13, fs_h1))] U.heap ∧ va_K (dC, dI) vwCl [] U ∧ va_D (fun _ => True) [(h0, .inr (13, fs_h0)), (h1, .inr (13, fs_h1))] ∧ w_N U)) (va_Qv (fun (_ : Unit) => True) (fun _ t => ∃ (fs_h12 : List Value), va_P (dC, dI) vwCl [(h0, .inr (13, fs_h0)), (h1, .inr (13, fs_h12))] t.heap ∧ va_K (dC, dI) vwCl [] t ∧ va_D (va_A [(h0, .inr (13, fs_h0)), (h1, .inr (13, fs_h1))] sz) [(h0, .inr (13, fs_h0)), (h1, .inr (13, fs_h12))] ∧ mF 5 [(4, .int 0)] fs_h12) (va_A [(h0, .inr (13, fs_h0)), (h1, .inr (13, fs_h1))] sz)) 0 0 (va_A [(h0, .inr (13, fs_h0)), (h1, .inr (13, fs_h1))] sz) := by
  refine Met.ofW (cc := cX15_copies) (maxL := 2) (ret := none) (by decide) rfl ?_
  intro p e s m args below meth c s₁ B hml hv
  obtain ⟨rfl, hsz, hP, hK, hD0, hN⟩ := hv
  have hx := B.exec
  have hb := B.bytes
  have hr := B.returns
  have hts := atoms_spec (ws := wv_m_copies) B.pre
  have hown : s.vm.findClass RX15 = some m.cls := findClass_of_methodNamed B.named
  have hlocks := B.notSynchronized
  subst hsz
  have hD := hD0.self (sz := s.heap.size)
  generalize hAe : va_A [(h0, .inr (13, fs_h0)), (h1, .inr (13, fs_h1))] s.heap.size = A at hD ⊢
  have hA : ∀ q : Nat, s.heap.size ≤ q → A q := fun q h => by rw [← hAe]; exact Or.inr h
  obtain ⟨H, hHe, hP, hS⟩ : ∃ H : Heap, H = s.heap ∧ va_P (dC, dI) vwCl [(h0, .inr (13, fs_h0)), (h1, .inr (13, fs_h1))] H ∧ va_S A s.heap H [] := ⟨s.heap, rfl, hP, va_S.rf⟩
  have hl := lv_entry ([.ref h0, .ref h1]) (n := 2) (Nat.le_of_ble_eq_true rfl)
  rw [lg_entry_eq]
  generalize (lg_sl ([.ref h0, .ref h1]) ++ List.replicate (2 - (lg_sl ([.ref h0, .ref h1])).length) Slot.unset).toArray = ls at hl ⊢
  have hl : lv_has ls 2 [(0, .ref h0), (1, .ref h1)] := hl
  rw [← hHe]; clear hHe
  refine lv_aload_n hx hb dX15_copies_0 rfl (lv_at hl 1 rfl) ?_
  have hPc := hP.sub (ws' := [(h1, .inr (13, fs_h1))]) [1] rfl
  have hDc := hD.sub (ws' := [(h1, .inr (13, fs_h1))]) [1] (by decide) rfl
  have hKc := hK.sub (tys' := []) [] rfl
  have hFc := va_free (wc := [(h1, .inr (13, fs_h1))]) hD hS hA [1] rfl
  refine va_callv (va_runVN (As := []) (rest := []) ⟨hx, hb, hml, hown, hts⟩ (c_q_clear l dC dI h1 fs_h1 (mF.sub hF_h1 [0] rfl) H.size) ⟨va_cnB 0 hts g_m_copies_q_clear_368 rfl rfl rfl (hN.1 (RX15, 368, yX13_clear, RX15) (List.mem_of_getElem? (i := 30) rfl)) (hts (.initialized RX13) (List.mem_of_getElem? (i := 1) rfl)) hd_X13_clear ⟨Nat.le_of_ble_eq_true rfl, Nat.le_of_ble_eq_true rfl⟩, (hts (.instanceMethod yX13_clear) (List.mem_of_getElem? (i := 2) rfl)), (hts (.selects RX13 yX13_clear yX13_clear) (List.mem_of_getElem? (i := 3) rfl))⟩ ⟨fun a U g mk q => by obtain ⟨q0, q1, qP, qK, qD, qE0⟩ := q; exact ⟨q0, q1, qP, va_K.moved (u := U) (U := U.calling g mk a) (Vm.Alike.refl U.vm) qK, qD, w_N.same rfl qE0⟩, va_recv hKc hPc (ci := 13) (q0 := 0) rfl rfl, fun U hU hW => ⟨rfl, by rw [hU], by rw [hU]; exact hPc, va_K.moved hW.alike hKc, hDc.weaken (fun _ _ _ _ => trivial), w_N.warm hW hN⟩⟩ rfl rfl hl.1 rfl (lv_room (Nat.le_of_ble_eq_true rfl)) dX15_copies_1 ⟨(Nat.le_of_ble_eq_true rfl), (Nat.le_of_ble_eq_true rfl)⟩) hS (fun q _ h => hFc q h) hFc (fun u t H1 locs1 ht hvm hw hB hz1 hk1 hS1 => ?_)
  obtain ⟨fs_1, hP1, hK1, hD1, hp_2⟩ := hB
  rw [ht] at hP1
  have hK1 := va_K.moved hvm.symm hK1
  have hJ := va_join (wr := [(h0, .inr (13, fs_h0))]) (w1 := [(h1, .inr (13, fs_1))]) hP hD [1] [0] rfl rfl (by decide) (by decide) hk1 hFc hP1 hD1
  clear hP hD hPc hDc hKc hFc hz1; try clear hk1
  obtain ⟨hP, hD⟩ := hJ
  replace hK := (hK.sub (tys' := []) [] rfl).app (hK1.sub (tys' := []) [] rfl)
  clear hP1 hK1 hD1 hvm ht hS; try clear t
  try clear H
  revert hS1
  intro hS
  generalize H1 = H at hP hS ⊢; try clear H1
  replace hP : va_P (dC, dI) vwCl [(h0, .inr (13, fs_h0)), (h1, .inr (13, fs_1))] H := hP
  replace hD : va_D A [(h0, .inr (13, fs_h0)), (h1, .inr (13, fs_1))] := hD
  replace hK : va_K (dC, dI) vwCl [] s := hK
  have hw_3 : True := hw; clear hw
  refine lv_aload_n hx hb dX15_copies_4 rfl (lv_at hl 1 rfl) ?_
  refine lv_aload_n hx hb dX15_copies_5 rfl (lv_at hl 0 rfl) ?_
  refine lv_lconst (v := 1) hx hb dX15_copies_6 (by decide) ?_
  have hPc := hP.sub (ws' := [(h1, .inr (13, fs_1)), (h0, .inr (13, fs_h0))]) [1, 0] rfl
  have hDc := hD.sub (ws' := [(h1, .inr (13, fs_1)), (h0, .inr (13, fs_h0))]) [1, 0] (by decide) rfl
  have hKc := hK.sub (tys' := []) [] rfl
  have hFc := va_free (wc := [(h1, .inr (13, fs_1)), (h0, .inr (13, fs_h0))]) hD hS hA [1, 0] rfl
  refine va_callv (va_runVN (As := [.ref h0, .long 1]) (rest := []) ⟨hx, hb, hml, hown, hts⟩ (c_q_adds l dC dI h1 h0 1 fs_1 fs_h0 (mF.sub hp_2 [0] rfl) (mF.sub hF_h0 [0] rfl) H.size) ⟨va_cnB 2 hts g_m_copies_q_adds_374 rfl rfl rfl (hN.1 (RX15, 374, yX13_adds, RX15) (List.mem_of_getElem? (i := 32) rfl)) (hts (.initialized RX13) (List.mem_of_getElem? (i := 1) rfl)) hd_X13_adds ⟨Nat.le_of_ble_eq_true rfl, Nat.le_of_ble_eq_true rfl⟩, (hts (.instanceMethod yX13_adds) (List.mem_of_getElem? (i := 4) rfl)), (hts (.selects RX13 yX13_adds yX13_adds) (List.mem_of_getElem? (i := 5) rfl))⟩ ⟨fun a U g mk q => by obtain ⟨q0, q1, qP, qK, qD, qE0⟩ := q; exact ⟨q0, q1, qP, va_K.moved (u := U) (U := U.calling g mk a) (Vm.Alike.refl U.vm) qK, qD, w_N.same rfl qE0⟩, va_recv hKc hPc (ci := 13) (q0 := 0) rfl rfl, fun U hU hW => ⟨rfl, by rw [hU], by rw [hU]; exact hPc, va_K.moved hW.alike hKc, hDc.weaken (fun _ _ _ _ => trivial), w_N.warm hW hN⟩⟩ rfl rfl hl.1 rfl (lv_room (Nat.le_of_ble_eq_true rfl)) dX15_copies_7 ⟨(Nat.le_of_ble_eq_true rfl), (Nat.le_of_ble_eq_true rfl)⟩) hS (fun q _ h => hFc q h) hFc (fun u t H1 locs1 ht hvm hw hB hz1 hk1 hS1 => ?_)
  obtain ⟨hP1, hK1, hD1⟩ := hB
  rw [ht] at hP1
  have hK1 := va_K.moved hvm.symm hK1
  have hJ := va_join (wr := []) (w1 := [(h1, .inr (13, fs_1)), (h0, .inr (13, fs_h0))]) hP hD [1, 0] [] rfl rfl (by decide) (by decide) hk1 hFc hP1 hD1
  clear hP hD hPc hDc hKc hFc hz1; try clear hk1
  obtain ⟨hP, hD⟩ := hJ
  replace hK := (hK.sub (tys' := []) [] rfl).app (hK1.sub (tys' := []) [] rfl)
  clear hP1 hK1 hD1 hvm ht hS; try clear t
  try clear H
  revert hS1
  intro hS
  generalize H1 = H at hP hS ⊢; try clear H1
  replace hP : va_P (dC, dI) vwCl [(h1, .inr (13, fs_1)), (h0, .inr (13, fs_h0))] H := hP
  replace hD : va_D A [(h1, .inr (13, fs_1)), (h0, .inr (13, fs_h0))] := hD
  replace hK : va_K (dC, dI) vwCl [] s := hK
  have hw_4 : True := hw; clear hw
  have hP9 := hP.sub (ws' := [(h0, .inr (13, fs_h0)), (h1, .inr (13, fs_1))]) [1, 0] rfl
  have hD9 := hD.sub (ws' := [(h0, .inr (13, fs_h0)), (h1, .inr (13, fs_1))]) [1, 0] (by decide) rfl
  have hK9 := hK.sub (tys' := []) [] rfl
  rw [← hAe] at hD9
  refine W.widen (k := 0) (n := 0) (Nat.le_of_ble_eq_true rfl) (Nat.le_of_ble_eq_true rfl) ?_
  subst hAe
  exact (W.vret hx hb hr (fun t ht hW => ⟨⟨(), rfl, trivial, fs_1, by rw [ht]; exact hP9, va_K.moved hW.alike hK9, hD9, (mF.sub hp_2 [0] rfl)⟩, hS.F ht⟩) hS.2.2 dX15_copies_10)
def wv_m_image : List Cond := .code yX15_image cX15_image 2 (some .int) :: ([.fieldLink RX15 296 "MotionSignsModel" "thrown" "I", .fieldLink RX15 450 "MotionSignsModel" "images" "I", .fieldLink RX15 134 "MotionSignsModel" "field" "[LMotionSignsModel$Poly;", .fieldLink RX15 149 "MotionSignsModel" "kept" "[[LMotionSignsModel$Poly;", .methodLink RX15 446 yX15_copies, .static yX15_copies, .initialized RX15, .fieldLink RX15 141 "MotionSignsModel" "solution" "LMotionSignsModel$Poly;"] ++ (wsX150 ++ (wv_m_copies ++ ([]))))
theorem gw_m_image : wv_m_image.all goodWord = true := by decide +kernel
theorem in_m_image_X15 : ∀ w ∈ wsX150, w ∈ wv_m_image := fun _ h => List.mem_cons_of_mem _ (List.mem_append_right _ (List.mem_append_left _ h))
theorem g_m_image_m_copies_446 : GoodIn wv_m_image (va_wsS RX15 446 yX15_copies wv_m_copies) := goodIn_app (goodIn_of _ (by decide +kernel)) (goodIn_sub (fun _ h => List.mem_cons_of_mem _ (List.mem_append_right _ (List.mem_append_right _ (List.mem_append_left _ h)))) gw_m_copies)
set_option maxHeartbeats 4000000 in
set_option maxRecDepth 100000 in
/-- the reference: image on a fresh object -/
theorem c_m_image (l : Launch) (dC : Nat → ClassId) (dI : Nat → Nat → Nat) (h0 : Nat) (qfed : Nat) (qf : Nat) (qfd : Nat) (qs : Nat) (qk : Nat) (kf : Nat) (kk : Nat) (qk0 : Nat) (ki : Nat) (d0 : Nat) (d1 : Nat) (d2 : Nat) (e0 : Nat) (e1 : Nat) (e2 : Nat) (e3 : Nat) (ff : Nat → Option Nat) (fk : Nat → Option Nat) (fi : Nat → Option Nat) (fs_h0 : List Value) (fs_d0 : List Value) (fs_d1 : List Value) (fs_d2 : List Value) (fs_qs : List Value) (fs_e0 : List Value) (fs_e1 : List Value) (fs_e2 : List Value) (fs_e3 : List Value) (hF_h0 : mF 89 [(0, .int 0), (18, .int 0), (19, .int 0), (20, .int (-1)), (21, .int 0), (22, .int 0), (23, .int 0), (24, .int 0), (25, .int 0), (27, .int 0), (28, .int 0), (29, .int 0), (35, .int 0), (17, .int (-1)), (26, .ref qfed), (30, .ref qf), (31, .ref qfd), (33, .ref qs), (36, .ref qk)] fs_h0) (hF_d0 : mF 5 [(4, .int 0)] fs_d0) (hF_d1 : mF 5 [(4, .int 0)] fs_d1) (hF_d2 : mF 5 [(4, .int 0)] fs_d2) (hF_qs : mF 5 [(4, .int 0)] fs_qs) (hF_e0 : mF 5 [(4, .int 0)] fs_e0) (hF_e1 : mF 5 [(4, .int 0)] fs_e1) (hF_e2 : mF 5 [(4, .int 0)] fs_e2) (hF_e3 : mF 5 [(4, .int 0)] fs_e3) (hd0 : ff 0 = some d0) (hd1 : ff 1 = some d1) (hd2 : ff 2 = some d2) (hk0 : fk 0 = some qk0) (hi0 : fi 0 = some e0) (hi1 : fi 1 = some e1) (hi2 : fi 2 = some e2) (hi3 : fi 3 = some e3) (sz : Nat) : Met l yX15_image wv_m_image ({ frames := 2, cells := 0, slots := 0, locals := 45 }) (va_Pc [.ref h0] (fun U => U.heap.size = sz ∧ va_P (dC, dI) vwCl [(h0, .inr (15, fs_h0)), (qfd, .inl (kf, 3, .inr (.inr (.inr (.inr ff))))), (qk, .inl (kk, 3, .inr (.inr (.inr (.inr fk))))), (qk0, .inl (ki, 4, .inr (.inr (.inr (.inr fi))))), (d0, .inr (13, fs_d0)), (d1, .inr (13, fs_d1)), (d2, .inr (13, fs_d2)), (qs, .inr (13, fs_qs)), (e0, .inr (13, fs_e0)), (e1, .inr (13, fs_e1)), (e2, .inr (13, fs_e2)), (e3, .inr (13, fs_e3))] U.heap ∧ va_K (dC, dI) vwCl [(kf, .object RX13), (kk, .array (.object RX13)), (ki, .object RX13)] U ∧ va_D (fun _ => True) [(h0, .inr (15, fs_h0)), (qfd, .inl (kf, 3, .inr (.inr (.inr (.inr ff))))), (qk, .inl (kk, 3, .inr (.inr (.inr (.inr fk))))), (qk0, .inl (ki, 4, .inr (.inr (.inr (.inr fi))))), (d0, .inr (13, fs_d0)), (d1, .inr (13, fs_d1)), (d2, .inr (13, fs_d2)), (qs, .inr (13, fs_qs)), (e0, .inr (13, fs_e0)), (e1, .inr (13, fs_e1)), (e2, .inr (13, fs_e2)), (e3, .inr (13, fs_e3))] ∧ w_N U)) (va_Qi (fun (r : Int32) (_ : Unit) => r = 1) (fun _ t => ∃ (fs_e : List Value), va_P (dC, dI) vwCl [(h0, .inr (15, fs_e))] t.heap ∧ va_K (dC, dI) vwCl [] t ∧ va_D (va_A [(h0, .inr (15, fs_h0)), (qfd, .inl (kf, 3, .inr (.inr (.inr (.inr ff))))), (qk, .inl (kk, 3, .inr (.inr (.inr (.inr fk))))), (qk0, .inl (ki, 4, .inr (.inr (.inr (.inr fi))))), (d0, .inr (13, fs_d0)), (d1, .inr (13, fs_d1)), (d2, .inr (13, fs_d2)), (qs, .inr (13, fs_qs)), (e0, .inr (13, fs_e0)), (e1, .inr (13, fs_e1)), (e2, .inr (13, fs_e2)), (e3, .inr (13, fs_e3))] sz) [(h0, .inr (15, fs_e))] ∧ mF 89 [(0, .int 0)] fs_e) (va_A [(h0, .inr (15, fs_h0)), (qfd, .inl (kf, 3, .inr (.inr (.inr (.inr ff))))), (qk, .inl (kk, 3, .inr (.inr (.inr (.inr fk))))), (qk0, .inl (ki, 4, .inr (.inr (.inr (.inr fi))))), (d0, .inr (13, fs_d0)), (d1, .inr (13, fs_d1)), (d2, .inr (13, fs_d2)), (qs, .inr (13, fs_qs)), (e0, .inr (13, fs_e0)), (e1, .inr (13, fs_e1)), (e2, .inr (13, fs_e2)), (e3, .inr (13, fs_e3))] sz)) 0 0 (va_A [(h0, .inr (15, fs_h0)), (qfd, .inl (kf, 3, .inr (.inr (.inr (.inr ff))))), (qk, .inl (kk, 3, .inr (.inr (.inr (.inr fk))))), (qk0, .inl (ki, 4, .inr (.inr (.inr (.inr fi))))), (d0, .inr (13, fs_d0)), (d1, .inr (13, fs_d1)), (d2, .inr (13, fs_d2)), (qs, .inr (13, fs_qs)), (e0, .inr (13, fs_e0)), (e1, .inr (13, fs_e1)), (e2, .inr (13, fs_e2)), (e3, .inr (13, fs_e3))] sz) := by
  refine Met.ofW (cc := cX15_image) (maxL := 2) (ret := (some .int)) (by decide) rfl ?_
  intro p e s m args below meth c s₁ B hml hv
  obtain ⟨rfl, hsz, hP, hK, hD0, hN⟩ := hv
  have hx := B.exec
  have hb := B.bytes
  have hr := B.returns
  have hts := atoms_spec (ws := wv_m_image) B.pre
  have hown : s.vm.findClass RX15 = some m.cls := findClass_of_methodNamed B.named
  have hlocks := B.notSynchronized
  subst hsz
  have hD := hD0.self (sz := s.heap.size)
  generalize hAe : va_A [(h0, .inr (15, fs_h0)), (qfd, .inl (kf, 3, .inr (.inr (.inr (.inr ff))))), (qk, .inl (kk, 3, .inr (.inr (.inr (.inr fk))))), (qk0, .inl (ki, 4, .inr (.inr (.inr (.inr fi))))), (d0, .inr (13, fs_d0)), (d1, .inr (13, fs_d1)), (d2, .inr (13, fs_d2)), (qs, .inr (13, fs_qs)), (e0, .inr (13, fs_e0)), (e1, .inr (13, fs_e1)), (e2, .inr (13, fs_e2)), (e3, .inr (13, fs_e3))] s.heap.size = A at hD ⊢
  have hA : ∀ q : Nat, s.heap.size ≤ q → A q := fun q h => by rw [← hAe]; exact Or.inr h
  obtain ⟨H, hHe, hP, hS⟩ : ∃ H : Heap, H = s.heap ∧ va_P (dC, dI) vwCl [(h0, .inr (15, fs_h0)), (qfd, .inl (kf, 3, .inr (.inr (.inr (.inr ff))))), (qk, .inl (kk, 3, .inr (.inr (.inr (.inr fk))))), (qk0, .inl (ki, 4, .inr (.inr (.inr (.inr fi))))), (d0, .inr (13, fs_d0)), (d1, .inr (13, fs_d1)), (d2, .inr (13, fs_d2)), (qs, .inr (13, fs_qs)), (e0, .inr (13, fs_e0)), (e1, .inr (13, fs_e1)), (e2, .inr (13, fs_e2)), (e3, .inr (13, fs_e3))] H ∧ va_S A s.heap H [] := ⟨s.heap, rfl, hP, va_S.rf⟩
  have hl := lv_entry ([.ref h0]) (n := 2) (Nat.le_of_ble_eq_true rfl)
  rw [lg_entry_eq]
  generalize (lg_sl ([.ref h0]) ++ List.replicate (2 - (lg_sl ([.ref h0])).length) Slot.unset).toArray = ls at hl ⊢
  have hl : lv_has ls 2 [(0, .ref h0)] := hl
  rw [← hHe]; clear hHe
  refine lv_aload_n hx hb dX15_image_0 rfl (lv_at hl 0 rfl) ?_
  refine lv_iconst (v := 0) hx hb dX15_image_1 (by decide) ?_
  refine va_put (D := (dC, dI)) (ci := 15) (v := .int 0) (ty := .int) (C := RX15) (T := TX15) (N := 89) hx hb hts (in_m_image_X15) tyX15 tyX15_ok nmX15 hown hK hP hD hS 0 rfl rfl 0 (by decide) (hts (.fieldLink RX15 296 "MotionSignsModel" "thrown" "I") (List.mem_of_getElem? (i := 1) rfl)) (fun _ h9 => h9) rfl (tyX15_ok 0 (by decide)) rfl rfl (mF.lt hF_h0 (by decide)) dX15_image_2 ?_
  clear hP hD hS; try clear H
  intro H locs hP hD hS
  have hF0 := mF.sub (L' := [(18, .int 0), (19, .int 0), (20, .int (-1)), (21, .int 0), (22, .int 0), (23, .int 0), (24, .int 0), (25, .int 0), (27, .int 0), (28, .int 0), (29, .int 0), (35, .int 0), (17, .int (-1)), (26, .ref qfed), (30, .ref qf), (31, .ref qfd), (33, .ref qs), (36, .ref qk)]) hF_h0 [1, 2, 3, 4, 5, 6, 7, 8, 9, 10, 11, 12, 13, 14, 15, 16, 17, 18] rfl
  have hF1 := mF.put hF0 0 (.int 0) (by decide) rfl
  replace hP : va_P (dC, dI) vwCl [(h0, .inr (15, (fs_h0.set 0 (.int 0)))), (qfd, .inl (kf, 3, .inr (.inr (.inr (.inr ff))))), (qk, .inl (kk, 3, .inr (.inr (.inr (.inr fk))))), (qk0, .inl (ki, 4, .inr (.inr (.inr (.inr fi))))), (d0, .inr (13, fs_d0)), (d1, .inr (13, fs_d1)), (d2, .inr (13, fs_d2)), (qs, .inr (13, fs_qs)), (e0, .inr (13, fs_e0)), (e1, .inr (13, fs_e1)), (e2, .inr (13, fs_e2)), (e3, .inr (13, fs_e3))] H := hP
  replace hD : va_D A [(h0, .inr (15, (fs_h0.set 0 (.int 0)))), (qfd, .inl (kf, 3, .inr (.inr (.inr (.inr ff))))), (qk, .inl (kk, 3, .inr (.inr (.inr (.inr fk))))), (qk0, .inl (ki, 4, .inr (.inr (.inr (.inr fi))))), (d0, .inr (13, fs_d0)), (d1, .inr (13, fs_d1)), (d2, .inr (13, fs_d2)), (qs, .inr (13, fs_qs)), (e0, .inr (13, fs_e0)), (e1, .inr (13, fs_e1)), (e2, .inr (13, fs_e2)), (e3, .inr (13, fs_e3))] := hD
  generalize fs_h0.set 0 (.int 0) = fs_1 at hP hD hF1
  replace hF_h0 : mF 89 [(0, .int 0), (18, .int 0), (19, .int 0), (20, .int (-1)), (21, .int 0), (22, .int 0), (23, .int 0), (24, .int 0), (25, .int 0), (27, .int 0), (28, .int 0), (29, .int 0), (35, .int 0), (17, .int (-1)), (26, .ref qfed), (30, .ref qf), (31, .ref qfd), (33, .ref qs), (36, .ref qk)] fs_1 := hF1
  clear hF1 hF0
  replace hP : va_P (dC, dI) vwCl [(h0, .inr (15, fs_1)), (qfd, .inl (kf, 3, .inr (.inr (.inr (.inr ff))))), (qk, .inl (kk, 3, .inr (.inr (.inr (.inr fk))))), (qk0, .inl (ki, 4, .inr (.inr (.inr (.inr fi))))), (d0, .inr (13, fs_d0)), (d1, .inr (13, fs_d1)), (d2, .inr (13, fs_d2)), (qs, .inr (13, fs_qs)), (e0, .inr (13, fs_e0)), (e1, .inr (13, fs_e1)), (e2, .inr (13, fs_e2)), (e3, .inr (13, fs_e3))] H := hP
  replace hD : va_D A [(h0, .inr (15, fs_1)), (qfd, .inl (kf, 3, .inr (.inr (.inr (.inr ff))))), (qk, .inl (kk, 3, .inr (.inr (.inr (.inr fk))))), (qk0, .inl (ki, 4, .inr (.inr (.inr (.inr fi))))), (d0, .inr (13, fs_d0)), (d1, .inr (13, fs_d1)), (d2, .inr (13, fs_d2)), (qs, .inr (13, fs_qs)), (e0, .inr (13, fs_e0)), (e1, .inr (13, fs_e1)), (e2, .inr (13, fs_e2)), (e3, .inr (13, fs_e3))] := hD
  refine lv_aload_n hx hb dX15_image_5 rfl (lv_at hl 0 rfl) ?_
  refine va_get (D := (dC, dI)) (ci := 15) (v := .int 0) (C := RX15) (T := TX15) (N := 89) hx hb hts (in_m_image_X15) hown hK hP 0 rfl rfl 35 (by decide) (hts (.fieldLink RX15 450 "MotionSignsModel" "images" "I") (List.mem_of_getElem? (i := 2) rfl)) (fun _ h9 => h9) (mF.get hF_h0 12 rfl) dX15_image_6 ?_
  refine lv_iconst (v := 3) hx hb dX15_image_9 (by decide) ?_
  refine lv_icmp_ne (tgt := 15) hx hb dX15_image_10 (by decide) (fun _ => ?_) (fun hc => absurd hc (by decide))
  refine lv_iconst (v := 0) hx hb dX15_image_15 (by decide) ?_
  refine lv_istore_n (lv' := [(1, .int 0), (0, .ref h0)]) hx hb dX15_image_16 rfl hl (by decide) rfl (fun ls hl => ?_)
  refine lv_iload_n hx hb dX15_image_17 rfl (lv_at hl 0 rfl) ?_
  refine lv_iconst (v := 4) hx hb dX15_image_18 (by decide) ?_
  refine lv_icmp_ge (tgt := 60) hx hb dX15_image_19 (by decide) (fun hc => absurd hc (by decide)) (fun _ => ?_)
  refine lv_iload_n hx hb dX15_image_22 rfl (lv_at hl 0 rfl) ?_
  refine lv_iconst (v := 3) hx hb dX15_image_23 (by decide) ?_
  refine lv_icmp_ge (tgt := 36) hx hb dX15_image_24 (by decide) (fun hc => absurd hc (by decide)) (fun _ => ?_)
  refine lv_aload_n hx hb dX15_image_27 rfl (lv_at hl 1 rfl) ?_
  refine va_get (D := (dC, dI)) (ci := 15) (v := .ref qfd) (C := RX15) (T := TX15) (N := 89) hx hb hts (in_m_image_X15) hown hK hP 0 rfl rfl 31 (by decide) (hts (.fieldLink RX15 134 "MotionSignsModel" "field" "[LMotionSignsModel$Poly;") (List.mem_of_getElem? (i := 3) rfl)) (fun _ h9 => h9) (mF.get hF_h0 16 rfl) dX15_image_28 ?_
  refine lv_iload_n hx hb dX15_image_31 rfl (lv_at hl 0 rfl) ?_
  refine wk_ald (y := d0) hx hb hK hP 1 0 rfl rfl (by exact fun h => by rcases h with h | h <;> revert h <;> decide) (by exact hd0) dX15_image_32 ?_
  refine lv_goto (tgt := 40) hx hb dX15_image_33 (by decide) ?_
  refine lv_aload_n hx hb dX15_image_40 rfl (lv_at hl 1 rfl) ?_
  refine va_get (D := (dC, dI)) (ci := 15) (v := .ref qk) (C := RX15) (T := TX15) (N := 89) hx hb hts (in_m_image_X15) hown hK hP 0 rfl rfl 36 (by decide) (hts (.fieldLink RX15 149 "MotionSignsModel" "kept" "[[LMotionSignsModel$Poly;") (List.mem_of_getElem? (i := 4) rfl)) (fun _ h9 => h9) (mF.get hF_h0 18 rfl) dX15_image_41 ?_
  refine lv_aload_n hx hb dX15_image_44 rfl (lv_at hl 1 rfl) ?_
  refine va_get (D := (dC, dI)) (ci := 15) (v := .int 0) (C := RX15) (T := TX15) (N := 89) hx hb hts (in_m_image_X15) hown hK hP 0 rfl rfl 35 (by decide) (hts (.fieldLink RX15 450 "MotionSignsModel" "images" "I") (List.mem_of_getElem? (i := 2) rfl)) (fun _ h9 => h9) (mF.get hF_h0 12 rfl) dX15_image_45 ?_
  refine wm_ald (y := qk0) hx hb hK hP 2 1 rfl rfl (by exact fun h => by rcases h with h | h <;> revert h <;> decide) (by exact hk0) dX15_image_48 ?_
  refine lv_iload_n hx hb dX15_image_49 rfl (lv_at hl 0 rfl) ?_
  refine wk_ald (y := e0) hx hb hK hP 3 2 rfl rfl (by exact fun h => by rcases h with h | h <;> revert h <;> decide) (by exact hi0) dX15_image_50 ?_
  have hPc := hP.sub (ws' := [(d0, .inr (13, fs_d0)), (e0, .inr (13, fs_e0))]) [4, 8] rfl
  have hDc := hD.sub (ws' := [(d0, .inr (13, fs_d0)), (e0, .inr (13, fs_e0))]) [4, 8] (by decide) rfl
  have hKc := hK.sub (tys' := []) [] rfl
  have hFc := va_free (wc := [(d0, .inr (13, fs_d0)), (e0, .inr (13, fs_e0))]) hD hS hA [4, 8] rfl
  refine va_callv (va_runS (As := [.ref d0, .ref e0]) (rest := []) ⟨hx, hb, hml, hown, hts⟩ (c_m_copies l dC dI d0 e0 fs_d0 fs_e0 (mF.sub hF_d0 [0] rfl) (mF.sub hF_e0 [0] rfl) H.size) (va_cwS 2 hts g_m_image_m_copies_446 rfl rfl rfl hd_X15_copies ⟨Nat.le_of_ble_eq_true rfl, Nat.le_of_ble_eq_true rfl⟩) ⟨fun a U g mk q => by obtain ⟨q0, q1, qP, qK, qD, qE0⟩ := q; exact ⟨q0, q1, qP, va_K.moved (u := U) (U := U.calling g mk a) (Vm.Alike.refl U.vm) qK, qD, w_N.same rfl qE0⟩, fun U hU hW => ⟨rfl, by rw [hU], by rw [hU]; exact hPc, va_K.moved hW.alike hKc, hDc.weaken (fun _ _ _ _ => trivial), w_N.warm hW hN⟩⟩ rfl rfl hl.1 rfl (lv_room (Nat.le_of_ble_eq_true rfl)) dX15_image_51 ⟨(Nat.le_of_ble_eq_true rfl), (Nat.le_of_ble_eq_true rfl)⟩) hS (fun q _ h => hFc q h) hFc (fun u t H1 locs1 ht hvm hw hB hz1 hk1 hS1 => ?_)
  obtain ⟨fs_2, hP1, hK1, hD1, hp_3⟩ := hB
  rw [ht] at hP1
  have hK1 := va_K.moved hvm.symm hK1
  have hJ := va_join (wr := [(h0, .inr (15, fs_1)), (qfd, .inl (kf, 3, .inr (.inr (.inr (.inr ff))))), (qk, .inl (kk, 3, .inr (.inr (.inr (.inr fk))))), (qk0, .inl (ki, 4, .inr (.inr (.inr (.inr fi))))), (d1, .inr (13, fs_d1)), (d2, .inr (13, fs_d2)), (qs, .inr (13, fs_qs)), (e1, .inr (13, fs_e1)), (e2, .inr (13, fs_e2)), (e3, .inr (13, fs_e3))]) (w1 := [(d0, .inr (13, fs_d0)), (e0, .inr (13, fs_2))]) hP hD [4, 8] [0, 1, 2, 3, 5, 6, 7, 9, 10, 11] rfl rfl (by decide) (by decide) hk1 hFc hP1 hD1
  clear hP hD hPc hDc hKc hFc hz1; try clear hk1
  obtain ⟨hP, hD⟩ := hJ
  replace hK := (hK.sub (tys' := [(kf, .object RX13), (kk, .array (.object RX13)), (ki, .object RX13)]) [0, 1, 2] rfl).app (hK1.sub (tys' := []) [] rfl)
  clear hP1 hK1 hD1 hvm ht hS; try clear t
  try clear H
  revert hS1
  intro hS
  generalize H1 = H at hP hS ⊢; try clear H1
  replace hP : va_P (dC, dI) vwCl [(h0, .inr (15, fs_1)), (qfd, .inl (kf, 3, .inr (.inr (.inr (.inr ff))))), (qk, .inl (kk, 3, .inr (.inr (.inr (.inr fk))))), (qk0, .inl (ki, 4, .inr (.inr (.inr (.inr fi))))), (d1, .inr (13, fs_d1)), (d2, .inr (13, fs_d2)), (qs, .inr (13, fs_qs)), (e1, .inr (13, fs_e1)), (e2, .inr (13, fs_e2)), (e3, .inr (13, fs_e3)), (d0, .inr (13, fs_d0)), (e0, .inr (13, fs_2))] H := hP
  replace hD : va_D A [(h0, .inr (15, fs_1)), (qfd, .inl (kf, 3, .inr (.inr (.inr (.inr ff))))), (qk, .inl (kk, 3, .inr (.inr (.inr (.inr fk))))), (qk0, .inl (ki, 4, .inr (.inr (.inr (.inr fi))))), (d1, .inr (13, fs_d1)), (d2, .inr (13, fs_d2)), (qs, .inr (13, fs_qs)), (e1, .inr (13, fs_e1)), (e2, .inr (13, fs_e2)), (e3, .inr (13, fs_e3)), (d0, .inr (13, fs_d0)), (e0, .inr (13, fs_2))] := hD
  replace hK : va_K (dC, dI) vwCl [(kf, .object RX13), (kk, .array (.object RX13)), (ki, .object RX13)] s := hK
  have hw_4 : True := hw; clear hw
  refine lv_iinc (v := 1) (lv' := [(1, .int 1), (0, .ref h0)]) hx hb dX15_image_54 hl (k := 0) rfl (by decide) (by decide) rfl (fun ls hl => ?_)
  refine lv_goto (tgt := 17) hx hb dX15_image_57 (by decide) ?_
  refine lv_iload_n hx hb dX15_image_17 rfl (lv_at hl 0 rfl) ?_
  refine lv_iconst (v := 4) hx hb dX15_image_18 (by decide) ?_
  refine lv_icmp_ge (tgt := 60) hx hb dX15_image_19 (by decide) (fun hc => absurd hc (by decide)) (fun _ => ?_)
  refine lv_iload_n hx hb dX15_image_22 rfl (lv_at hl 0 rfl) ?_
  refine lv_iconst (v := 3) hx hb dX15_image_23 (by decide) ?_
  refine lv_icmp_ge (tgt := 36) hx hb dX15_image_24 (by decide) (fun hc => absurd hc (by decide)) (fun _ => ?_)
  refine lv_aload_n hx hb dX15_image_27 rfl (lv_at hl 1 rfl) ?_
  refine va_get (D := (dC, dI)) (ci := 15) (v := .ref qfd) (C := RX15) (T := TX15) (N := 89) hx hb hts (in_m_image_X15) hown hK hP 0 rfl rfl 31 (by decide) (hts (.fieldLink RX15 134 "MotionSignsModel" "field" "[LMotionSignsModel$Poly;") (List.mem_of_getElem? (i := 3) rfl)) (fun _ h9 => h9) (mF.get hF_h0 16 rfl) dX15_image_28 ?_
  refine lv_iload_n hx hb dX15_image_31 rfl (lv_at hl 0 rfl) ?_
  refine wk_ald (y := d1) hx hb hK hP 1 0 rfl rfl (by exact fun h => by rcases h with h | h <;> revert h <;> decide) (by exact hd1) dX15_image_32 ?_
  refine lv_goto (tgt := 40) hx hb dX15_image_33 (by decide) ?_
  refine lv_aload_n hx hb dX15_image_40 rfl (lv_at hl 1 rfl) ?_
  refine va_get (D := (dC, dI)) (ci := 15) (v := .ref qk) (C := RX15) (T := TX15) (N := 89) hx hb hts (in_m_image_X15) hown hK hP 0 rfl rfl 36 (by decide) (hts (.fieldLink RX15 149 "MotionSignsModel" "kept" "[[LMotionSignsModel$Poly;") (List.mem_of_getElem? (i := 4) rfl)) (fun _ h9 => h9) (mF.get hF_h0 18 rfl) dX15_image_41 ?_
  refine lv_aload_n hx hb dX15_image_44 rfl (lv_at hl 1 rfl) ?_
  refine va_get (D := (dC, dI)) (ci := 15) (v := .int 0) (C := RX15) (T := TX15) (N := 89) hx hb hts (in_m_image_X15) hown hK hP 0 rfl rfl 35 (by decide) (hts (.fieldLink RX15 450 "MotionSignsModel" "images" "I") (List.mem_of_getElem? (i := 2) rfl)) (fun _ h9 => h9) (mF.get hF_h0 12 rfl) dX15_image_45 ?_
  refine wm_ald (y := qk0) hx hb hK hP 2 1 rfl rfl (by exact fun h => by rcases h with h | h <;> revert h <;> decide) (by exact hk0) dX15_image_48 ?_
  refine lv_iload_n hx hb dX15_image_49 rfl (lv_at hl 0 rfl) ?_
  refine wk_ald (y := e1) hx hb hK hP 3 2 rfl rfl (by exact fun h => by rcases h with h | h <;> revert h <;> decide) (by exact hi1) dX15_image_50 ?_
  have hPc := hP.sub (ws' := [(d1, .inr (13, fs_d1)), (e1, .inr (13, fs_e1))]) [4, 7] rfl
  have hDc := hD.sub (ws' := [(d1, .inr (13, fs_d1)), (e1, .inr (13, fs_e1))]) [4, 7] (by decide) rfl
  have hKc := hK.sub (tys' := []) [] rfl
  have hFc := va_free (wc := [(d1, .inr (13, fs_d1)), (e1, .inr (13, fs_e1))]) hD hS hA [4, 7] rfl
  refine va_callv (va_runS (As := [.ref d1, .ref e1]) (rest := []) ⟨hx, hb, hml, hown, hts⟩ (c_m_copies l dC dI d1 e1 fs_d1 fs_e1 (mF.sub hF_d1 [0] rfl) (mF.sub hF_e1 [0] rfl) H.size) (va_cwS 2 hts g_m_image_m_copies_446 rfl rfl rfl hd_X15_copies ⟨Nat.le_of_ble_eq_true rfl, Nat.le_of_ble_eq_true rfl⟩) ⟨fun a U g mk q => by obtain ⟨q0, q1, qP, qK, qD, qE0⟩ := q; exact ⟨q0, q1, qP, va_K.moved (u := U) (U := U.calling g mk a) (Vm.Alike.refl U.vm) qK, qD, w_N.same rfl qE0⟩, fun U hU hW => ⟨rfl, by rw [hU], by rw [hU]; exact hPc, va_K.moved hW.alike hKc, hDc.weaken (fun _ _ _ _ => trivial), w_N.warm hW hN⟩⟩ rfl rfl hl.1 rfl (lv_room (Nat.le_of_ble_eq_true rfl)) dX15_image_51 ⟨(Nat.le_of_ble_eq_true rfl), (Nat.le_of_ble_eq_true rfl)⟩) hS (fun q _ h => hFc q h) hFc (fun u t H1 locs1 ht hvm hw hB hz1 hk1 hS1 => ?_)
  obtain ⟨fs_5, hP1, hK1, hD1, hp_6⟩ := hB
  rw [ht] at hP1
  have hK1 := va_K.moved hvm.symm hK1
  have hJ := va_join (wr := [(h0, .inr (15, fs_1)), (qfd, .inl (kf, 3, .inr (.inr (.inr (.inr ff))))), (qk, .inl (kk, 3, .inr (.inr (.inr (.inr fk))))), (qk0, .inl (ki, 4, .inr (.inr (.inr (.inr fi))))), (d2, .inr (13, fs_d2)), (qs, .inr (13, fs_qs)), (e2, .inr (13, fs_e2)), (e3, .inr (13, fs_e3)), (d0, .inr (13, fs_d0)), (e0, .inr (13, fs_2))]) (w1 := [(d1, .inr (13, fs_d1)), (e1, .inr (13, fs_5))]) hP hD [4, 7] [0, 1, 2, 3, 5, 6, 8, 9, 10, 11] rfl rfl (by decide) (by decide) hk1 hFc hP1 hD1
  clear hP hD hPc hDc hKc hFc hz1; try clear hk1
  obtain ⟨hP, hD⟩ := hJ
  replace hK := (hK.sub (tys' := [(kf, .object RX13), (kk, .array (.object RX13)), (ki, .object RX13)]) [0, 1, 2] rfl).app (hK1.sub (tys' := []) [] rfl)
  clear hP1 hK1 hD1 hvm ht hS; try clear t
  try clear H
  revert hS1
  intro hS
  generalize H1 = H at hP hS ⊢; try clear H1
  replace hP : va_P (dC, dI) vwCl [(h0, .inr (15, fs_1)), (qfd, .inl (kf, 3, .inr (.inr (.inr (.inr ff))))), (qk, .inl (kk, 3, .inr (.inr (.inr (.inr fk))))), (qk0, .inl (ki, 4, .inr (.inr (.inr (.inr fi))))), (d2, .inr (13, fs_d2)), (qs, .inr (13, fs_qs)), (e2, .inr (13, fs_e2)), (e3, .inr (13, fs_e3)), (d0, .inr (13, fs_d0)), (e0, .inr (13, fs_2)), (d1, .inr (13, fs_d1)), (e1, .inr (13, fs_5))] H := hP
  replace hD : va_D A [(h0, .inr (15, fs_1)), (qfd, .inl (kf, 3, .inr (.inr (.inr (.inr ff))))), (qk, .inl (kk, 3, .inr (.inr (.inr (.inr fk))))), (qk0, .inl (ki, 4, .inr (.inr (.inr (.inr fi))))), (d2, .inr (13, fs_d2)), (qs, .inr (13, fs_qs)), (e2, .inr (13, fs_e2)), (e3, .inr (13, fs_e3)), (d0, .inr (13, fs_d0)), (e0, .inr (13, fs_2)), (d1, .inr (13, fs_d1)), (e1, .inr (13, fs_5))] := hD
  replace hK : va_K (dC, dI) vwCl [(kf, .object RX13), (kk, .array (.object RX13)), (ki, .object RX13)] s := hK
  have hw_7 : True := hw; clear hw
  refine lv_iinc (v := 2) (lv' := [(1, .int 2), (0, .ref h0)]) hx hb dX15_image_54 hl (k := 0) rfl (by decide) (by decide) rfl (fun ls hl => ?_)
  refine lv_goto (tgt := 17) hx hb dX15_image_57 (by decide) ?_
  refine lv_iload_n hx hb dX15_image_17 rfl (lv_at hl 0 rfl) ?_
  refine lv_iconst (v := 4) hx hb dX15_image_18 (by decide) ?_
  refine lv_icmp_ge (tgt := 60) hx hb dX15_image_19 (by decide) (fun hc => absurd hc (by decide)) (fun _ => ?_)
  refine lv_iload_n hx hb dX15_image_22 rfl (lv_at hl 0 rfl) ?_
  refine lv_iconst (v := 3) hx hb dX15_image_23 (by decide) ?_
  refine lv_icmp_ge (tgt := 36) hx hb dX15_image_24 (by decide) (fun hc => absurd hc (by decide)) (fun _ => ?_)
  refine lv_aload_n hx hb dX15_image_27 rfl (lv_at hl 1 rfl) ?_
  refine va_get (D := (dC, dI)) (ci := 15) (v := .ref qfd) (C := RX15) (T := TX15) (N := 89) hx hb hts (in_m_image_X15) hown hK hP 0 rfl rfl 31 (by decide) (hts (.fieldLink RX15 134 "MotionSignsModel" "field" "[LMotionSignsModel$Poly;") (List.mem_of_getElem? (i := 3) rfl)) (fun _ h9 => h9) (mF.get hF_h0 16 rfl) dX15_image_28 ?_
  refine lv_iload_n hx hb dX15_image_31 rfl (lv_at hl 0 rfl) ?_
  refine wk_ald (y := d2) hx hb hK hP 1 0 rfl rfl (by exact fun h => by rcases h with h | h <;> revert h <;> decide) (by exact hd2) dX15_image_32 ?_
  refine lv_goto (tgt := 40) hx hb dX15_image_33 (by decide) ?_
  refine lv_aload_n hx hb dX15_image_40 rfl (lv_at hl 1 rfl) ?_
  refine va_get (D := (dC, dI)) (ci := 15) (v := .ref qk) (C := RX15) (T := TX15) (N := 89) hx hb hts (in_m_image_X15) hown hK hP 0 rfl rfl 36 (by decide) (hts (.fieldLink RX15 149 "MotionSignsModel" "kept" "[[LMotionSignsModel$Poly;") (List.mem_of_getElem? (i := 4) rfl)) (fun _ h9 => h9) (mF.get hF_h0 18 rfl) dX15_image_41 ?_
  refine lv_aload_n hx hb dX15_image_44 rfl (lv_at hl 1 rfl) ?_
  refine va_get (D := (dC, dI)) (ci := 15) (v := .int 0) (C := RX15) (T := TX15) (N := 89) hx hb hts (in_m_image_X15) hown hK hP 0 rfl rfl 35 (by decide) (hts (.fieldLink RX15 450 "MotionSignsModel" "images" "I") (List.mem_of_getElem? (i := 2) rfl)) (fun _ h9 => h9) (mF.get hF_h0 12 rfl) dX15_image_45 ?_
  refine wm_ald (y := qk0) hx hb hK hP 2 1 rfl rfl (by exact fun h => by rcases h with h | h <;> revert h <;> decide) (by exact hk0) dX15_image_48 ?_
  refine lv_iload_n hx hb dX15_image_49 rfl (lv_at hl 0 rfl) ?_
  refine wk_ald (y := e2) hx hb hK hP 3 2 rfl rfl (by exact fun h => by rcases h with h | h <;> revert h <;> decide) (by exact hi2) dX15_image_50 ?_
  have hPc := hP.sub (ws' := [(d2, .inr (13, fs_d2)), (e2, .inr (13, fs_e2))]) [4, 6] rfl
  have hDc := hD.sub (ws' := [(d2, .inr (13, fs_d2)), (e2, .inr (13, fs_e2))]) [4, 6] (by decide) rfl
  have hKc := hK.sub (tys' := []) [] rfl
  have hFc := va_free (wc := [(d2, .inr (13, fs_d2)), (e2, .inr (13, fs_e2))]) hD hS hA [4, 6] rfl
  refine va_callv (va_runS (As := [.ref d2, .ref e2]) (rest := []) ⟨hx, hb, hml, hown, hts⟩ (c_m_copies l dC dI d2 e2 fs_d2 fs_e2 (mF.sub hF_d2 [0] rfl) (mF.sub hF_e2 [0] rfl) H.size) (va_cwS 2 hts g_m_image_m_copies_446 rfl rfl rfl hd_X15_copies ⟨Nat.le_of_ble_eq_true rfl, Nat.le_of_ble_eq_true rfl⟩) ⟨fun a U g mk q => by obtain ⟨q0, q1, qP, qK, qD, qE0⟩ := q; exact ⟨q0, q1, qP, va_K.moved (u := U) (U := U.calling g mk a) (Vm.Alike.refl U.vm) qK, qD, w_N.same rfl qE0⟩, fun U hU hW => ⟨rfl, by rw [hU], by rw [hU]; exact hPc, va_K.moved hW.alike hKc, hDc.weaken (fun _ _ _ _ => trivial), w_N.warm hW hN⟩⟩ rfl rfl hl.1 rfl (lv_room (Nat.le_of_ble_eq_true rfl)) dX15_image_51 ⟨(Nat.le_of_ble_eq_true rfl), (Nat.le_of_ble_eq_true rfl)⟩) hS (fun q _ h => hFc q h) hFc (fun u t H1 locs1 ht hvm hw hB hz1 hk1 hS1 => ?_)
  obtain ⟨fs_8, hP1, hK1, hD1, hp_9⟩ := hB
  rw [ht] at hP1
  have hK1 := va_K.moved hvm.symm hK1
  have hJ := va_join (wr := [(h0, .inr (15, fs_1)), (qfd, .inl (kf, 3, .inr (.inr (.inr (.inr ff))))), (qk, .inl (kk, 3, .inr (.inr (.inr (.inr fk))))), (qk0, .inl (ki, 4, .inr (.inr (.inr (.inr fi))))), (qs, .inr (13, fs_qs)), (e3, .inr (13, fs_e3)), (d0, .inr (13, fs_d0)), (e0, .inr (13, fs_2)), (d1, .inr (13, fs_d1)), (e1, .inr (13, fs_5))]) (w1 := [(d2, .inr (13, fs_d2)), (e2, .inr (13, fs_8))]) hP hD [4, 6] [0, 1, 2, 3, 5, 7, 8, 9, 10, 11] rfl rfl (by decide) (by decide) hk1 hFc hP1 hD1
  clear hP hD hPc hDc hKc hFc hz1; try clear hk1
  obtain ⟨hP, hD⟩ := hJ
  replace hK := (hK.sub (tys' := [(kf, .object RX13), (kk, .array (.object RX13)), (ki, .object RX13)]) [0, 1, 2] rfl).app (hK1.sub (tys' := []) [] rfl)
  clear hP1 hK1 hD1 hvm ht hS; try clear t
  try clear H
  revert hS1
  intro hS
  generalize H1 = H at hP hS ⊢; try clear H1
  replace hP : va_P (dC, dI) vwCl [(h0, .inr (15, fs_1)), (qfd, .inl (kf, 3, .inr (.inr (.inr (.inr ff))))), (qk, .inl (kk, 3, .inr (.inr (.inr (.inr fk))))), (qk0, .inl (ki, 4, .inr (.inr (.inr (.inr fi))))), (qs, .inr (13, fs_qs)), (e3, .inr (13, fs_e3)), (d0, .inr (13, fs_d0)), (e0, .inr (13, fs_2)), (d1, .inr (13, fs_d1)), (e1, .inr (13, fs_5)), (d2, .inr (13, fs_d2)), (e2, .inr (13, fs_8))] H := hP
  replace hD : va_D A [(h0, .inr (15, fs_1)), (qfd, .inl (kf, 3, .inr (.inr (.inr (.inr ff))))), (qk, .inl (kk, 3, .inr (.inr (.inr (.inr fk))))), (qk0, .inl (ki, 4, .inr (.inr (.inr (.inr fi))))), (qs, .inr (13, fs_qs)), (e3, .inr (13, fs_e3)), (d0, .inr (13, fs_d0)), (e0, .inr (13, fs_2)), (d1, .inr (13, fs_d1)), (e1, .inr (13, fs_5)), (d2, .inr (13, fs_d2)), (e2, .inr (13, fs_8))] := hD
  replace hK : va_K (dC, dI) vwCl [(kf, .object RX13), (kk, .array (.object RX13)), (ki, .object RX13)] s := hK
  have hw_10 : True := hw; clear hw
  refine lv_iinc (v := 3) (lv' := [(1, .int 3), (0, .ref h0)]) hx hb dX15_image_54 hl (k := 0) rfl (by decide) (by decide) rfl (fun ls hl => ?_)
  refine lv_goto (tgt := 17) hx hb dX15_image_57 (by decide) ?_
  refine lv_iload_n hx hb dX15_image_17 rfl (lv_at hl 0 rfl) ?_
  refine lv_iconst (v := 4) hx hb dX15_image_18 (by decide) ?_
  refine lv_icmp_ge (tgt := 60) hx hb dX15_image_19 (by decide) (fun hc => absurd hc (by decide)) (fun _ => ?_)
  refine lv_iload_n hx hb dX15_image_22 rfl (lv_at hl 0 rfl) ?_
  refine lv_iconst (v := 3) hx hb dX15_image_23 (by decide) ?_
  refine lv_icmp_ge (tgt := 36) hx hb dX15_image_24 (by decide) (fun _ => ?_) (fun hc => absurd (by decide) hc)
  refine lv_aload_n hx hb dX15_image_36 rfl (lv_at hl 1 rfl) ?_
  refine va_get (D := (dC, dI)) (ci := 15) (v := .ref qs) (C := RX15) (T := TX15) (N := 89) hx hb hts (in_m_image_X15) hown hK hP 0 rfl rfl 33 (by decide) (hts (.fieldLink RX15 141 "MotionSignsModel" "solution" "LMotionSignsModel$Poly;") (List.mem_of_getElem? (i := 8) rfl)) (fun _ h9 => h9) (mF.get hF_h0 17 rfl) dX15_image_37 ?_
  refine lv_aload_n hx hb dX15_image_40 rfl (lv_at hl 1 rfl) ?_
  refine va_get (D := (dC, dI)) (ci := 15) (v := .ref qk) (C := RX15) (T := TX15) (N := 89) hx hb hts (in_m_image_X15) hown hK hP 0 rfl rfl 36 (by decide) (hts (.fieldLink RX15 149 "MotionSignsModel" "kept" "[[LMotionSignsModel$Poly;") (List.mem_of_getElem? (i := 4) rfl)) (fun _ h9 => h9) (mF.get hF_h0 18 rfl) dX15_image_41 ?_
  refine lv_aload_n hx hb dX15_image_44 rfl (lv_at hl 1 rfl) ?_
  refine va_get (D := (dC, dI)) (ci := 15) (v := .int 0) (C := RX15) (T := TX15) (N := 89) hx hb hts (in_m_image_X15) hown hK hP 0 rfl rfl 35 (by decide) (hts (.fieldLink RX15 450 "MotionSignsModel" "images" "I") (List.mem_of_getElem? (i := 2) rfl)) (fun _ h9 => h9) (mF.get hF_h0 12 rfl) dX15_image_45 ?_
  refine wm_ald (y := qk0) hx hb hK hP 2 1 rfl rfl (by exact fun h => by rcases h with h | h <;> revert h <;> decide) (by exact hk0) dX15_image_48 ?_
  refine lv_iload_n hx hb dX15_image_49 rfl (lv_at hl 0 rfl) ?_
  refine wk_ald (y := e3) hx hb hK hP 3 2 rfl rfl (by exact fun h => by rcases h with h | h <;> revert h <;> decide) (by exact hi3) dX15_image_50 ?_
  have hPc := hP.sub (ws' := [(qs, .inr (13, fs_qs)), (e3, .inr (13, fs_e3))]) [4, 5] rfl
  have hDc := hD.sub (ws' := [(qs, .inr (13, fs_qs)), (e3, .inr (13, fs_e3))]) [4, 5] (by decide) rfl
  have hKc := hK.sub (tys' := []) [] rfl
  have hFc := va_free (wc := [(qs, .inr (13, fs_qs)), (e3, .inr (13, fs_e3))]) hD hS hA [4, 5] rfl
  refine va_callv (va_runS (As := [.ref qs, .ref e3]) (rest := []) ⟨hx, hb, hml, hown, hts⟩ (c_m_copies l dC dI qs e3 fs_qs fs_e3 (mF.sub hF_qs [0] rfl) (mF.sub hF_e3 [0] rfl) H.size) (va_cwS 2 hts g_m_image_m_copies_446 rfl rfl rfl hd_X15_copies ⟨Nat.le_of_ble_eq_true rfl, Nat.le_of_ble_eq_true rfl⟩) ⟨fun a U g mk q => by obtain ⟨q0, q1, qP, qK, qD, qE0⟩ := q; exact ⟨q0, q1, qP, va_K.moved (u := U) (U := U.calling g mk a) (Vm.Alike.refl U.vm) qK, qD, w_N.same rfl qE0⟩, fun U hU hW => ⟨rfl, by rw [hU], by rw [hU]; exact hPc, va_K.moved hW.alike hKc, hDc.weaken (fun _ _ _ _ => trivial), w_N.warm hW hN⟩⟩ rfl rfl hl.1 rfl (lv_room (Nat.le_of_ble_eq_true rfl)) dX15_image_51 ⟨(Nat.le_of_ble_eq_true rfl), (Nat.le_of_ble_eq_true rfl)⟩) hS (fun q _ h => hFc q h) hFc (fun u t H1 locs1 ht hvm hw hB hz1 hk1 hS1 => ?_)
  obtain ⟨fs_11, hP1, hK1, hD1, hp_12⟩ := hB
  rw [ht] at hP1
  have hK1 := va_K.moved hvm.symm hK1
  have hJ := va_join (wr := [(h0, .inr (15, fs_1)), (qfd, .inl (kf, 3, .inr (.inr (.inr (.inr ff))))), (qk, .inl (kk, 3, .inr (.inr (.inr (.inr fk))))), (qk0, .inl (ki, 4, .inr (.inr (.inr (.inr fi))))), (d0, .inr (13, fs_d0)), (e0, .inr (13, fs_2)), (d1, .inr (13, fs_d1)), (e1, .inr (13, fs_5)), (d2, .inr (13, fs_d2)), (e2, .inr (13, fs_8))]) (w1 := [(qs, .inr (13, fs_qs)), (e3, .inr (13, fs_11))]) hP hD [4, 5] [0, 1, 2, 3, 6, 7, 8, 9, 10, 11] rfl rfl (by decide) (by decide) hk1 hFc hP1 hD1
  clear hP hD hPc hDc hKc hFc hz1; try clear hk1
  obtain ⟨hP, hD⟩ := hJ
  replace hK := (hK.sub (tys' := [(kf, .object RX13), (kk, .array (.object RX13)), (ki, .object RX13)]) [0, 1, 2] rfl).app (hK1.sub (tys' := []) [] rfl)
  clear hP1 hK1 hD1 hvm ht hS; try clear t
  try clear H
  revert hS1
  intro hS
  generalize H1 = H at hP hS ⊢; try clear H1
  replace hP : va_P (dC, dI) vwCl [(h0, .inr (15, fs_1)), (qfd, .inl (kf, 3, .inr (.inr (.inr (.inr ff))))), (qk, .inl (kk, 3, .inr (.inr (.inr (.inr fk))))), (qk0, .inl (ki, 4, .inr (.inr (.inr (.inr fi))))), (d0, .inr (13, fs_d0)), (e0, .inr (13, fs_2)), (d1, .inr (13, fs_d1)), (e1, .inr (13, fs_5)), (d2, .inr (13, fs_d2)), (e2, .inr (13, fs_8)), (qs, .inr (13, fs_qs)), (e3, .inr (13, fs_11))] H := hP
  replace hD : va_D A [(h0, .inr (15, fs_1)), (qfd, .inl (kf, 3, .inr (.inr (.inr (.inr ff))))), (qk, .inl (kk, 3, .inr (.inr (.inr (.inr fk))))), (qk0, .inl (ki, 4, .inr (.inr (.inr (.inr fi))))), (d0, .inr (13, fs_d0)), (e0, .inr (13, fs_2)), (d1, .inr (13, fs_d1)), (e1, .inr (13, fs_5)), (d2, .inr (13, fs_d2)), (e2, .inr (13, fs_8)), (qs, .inr (13, fs_qs)), (e3, .inr (13, fs_11))] := hD
  replace hK : va_K (dC, dI) vwCl [(kf, .object RX13), (kk, .array (.object RX13)), (ki, .object RX13)] s := hK
  have hw_13 : True := hw; clear hw
  refine lv_iinc (v := 4) (lv' := [(1, .int 4), (0, .ref h0)]) hx hb dX15_image_54 hl (k := 0) rfl (by decide) (by decide) rfl (fun ls hl => ?_)
  refine lv_goto (tgt := 17) hx hb dX15_image_57 (by decide) ?_
  refine lv_iload_n hx hb dX15_image_17 rfl (lv_at hl 0 rfl) ?_
  refine lv_iconst (v := 4) hx hb dX15_image_18 (by decide) ?_
  refine lv_icmp_ge (tgt := 60) hx hb dX15_image_19 (by decide) (fun _ => ?_) (fun hc => absurd (by decide) hc)
  refine lv_aload_n hx hb dX15_image_60 rfl (lv_at hl 1 rfl) ?_
  refine lv_dup hx hb dX15_image_61 rfl ?_
  refine va_get (D := (dC, dI)) (ci := 15) (v := .int 0) (C := RX15) (T := TX15) (N := 89) hx hb hts (in_m_image_X15) hown hK hP 0 rfl rfl 35 (by decide) (hts (.fieldLink RX15 450 "MotionSignsModel" "images" "I") (List.mem_of_getElem? (i := 2) rfl)) (fun _ h9 => h9) (mF.get hF_h0 12 rfl) dX15_image_62 ?_
  refine lv_iconst (v := 1) hx hb dX15_image_65 (by decide) ?_
  refine lv_iadd hx hb dX15_image_66 ?_
  refine lv_topi (fun v_14 ev_14 => ?_)
  have ev_14 : v_14 = 1 := ev_14.trans (by decide)
  subst ev_14
  refine va_put (D := (dC, dI)) (ci := 15) (v := .int 1) (ty := .int) (C := RX15) (T := TX15) (N := 89) hx hb hts (in_m_image_X15) tyX15 tyX15_ok nmX15 hown hK hP hD hS 0 rfl rfl 35 (by decide) (hts (.fieldLink RX15 450 "MotionSignsModel" "images" "I") (List.mem_of_getElem? (i := 2) rfl)) (fun _ h9 => h9) rfl (tyX15_ok 35 (by decide)) rfl rfl (mF.lt hF_h0 (by decide)) dX15_image_67 ?_
  clear hP hD hS; try clear H
  intro H locs hP hD hS
  have hF0 := mF.sub (L' := [(0, .int 0), (18, .int 0), (19, .int 0), (20, .int (-1)), (21, .int 0), (22, .int 0), (23, .int 0), (24, .int 0), (25, .int 0), (27, .int 0), (28, .int 0), (29, .int 0), (17, .int (-1)), (26, .ref qfed), (30, .ref qf), (31, .ref qfd), (33, .ref qs), (36, .ref qk)]) hF_h0 [0, 1, 2, 3, 4, 5, 6, 7, 8, 9, 10, 11, 13, 14, 15, 16, 17, 18] rfl
  have hF1 := mF.put hF0 35 (.int 1) (by decide) rfl
  replace hP : va_P (dC, dI) vwCl [(h0, .inr (15, (fs_1.set 35 (.int 1)))), (qfd, .inl (kf, 3, .inr (.inr (.inr (.inr ff))))), (qk, .inl (kk, 3, .inr (.inr (.inr (.inr fk))))), (qk0, .inl (ki, 4, .inr (.inr (.inr (.inr fi))))), (d0, .inr (13, fs_d0)), (e0, .inr (13, fs_2)), (d1, .inr (13, fs_d1)), (e1, .inr (13, fs_5)), (d2, .inr (13, fs_d2)), (e2, .inr (13, fs_8)), (qs, .inr (13, fs_qs)), (e3, .inr (13, fs_11))] H := hP
  replace hD : va_D A [(h0, .inr (15, (fs_1.set 35 (.int 1)))), (qfd, .inl (kf, 3, .inr (.inr (.inr (.inr ff))))), (qk, .inl (kk, 3, .inr (.inr (.inr (.inr fk))))), (qk0, .inl (ki, 4, .inr (.inr (.inr (.inr fi))))), (d0, .inr (13, fs_d0)), (e0, .inr (13, fs_2)), (d1, .inr (13, fs_d1)), (e1, .inr (13, fs_5)), (d2, .inr (13, fs_d2)), (e2, .inr (13, fs_8)), (qs, .inr (13, fs_qs)), (e3, .inr (13, fs_11))] := hD
  generalize fs_1.set 35 (.int 1) = fs_15 at hP hD hF1
  replace hF_h0 : mF 89 [(35, .int 1), (0, .int 0), (18, .int 0), (19, .int 0), (20, .int (-1)), (21, .int 0), (22, .int 0), (23, .int 0), (24, .int 0), (25, .int 0), (27, .int 0), (28, .int 0), (29, .int 0), (17, .int (-1)), (26, .ref qfed), (30, .ref qf), (31, .ref qfd), (33, .ref qs), (36, .ref qk)] fs_15 := hF1
  clear hF1 hF0
  replace hP : va_P (dC, dI) vwCl [(h0, .inr (15, fs_15)), (qfd, .inl (kf, 3, .inr (.inr (.inr (.inr ff))))), (qk, .inl (kk, 3, .inr (.inr (.inr (.inr fk))))), (qk0, .inl (ki, 4, .inr (.inr (.inr (.inr fi))))), (d0, .inr (13, fs_d0)), (e0, .inr (13, fs_2)), (d1, .inr (13, fs_d1)), (e1, .inr (13, fs_5)), (d2, .inr (13, fs_d2)), (e2, .inr (13, fs_8)), (qs, .inr (13, fs_qs)), (e3, .inr (13, fs_11))] H := hP
  replace hD : va_D A [(h0, .inr (15, fs_15)), (qfd, .inl (kf, 3, .inr (.inr (.inr (.inr ff))))), (qk, .inl (kk, 3, .inr (.inr (.inr (.inr fk))))), (qk0, .inl (ki, 4, .inr (.inr (.inr (.inr fi))))), (d0, .inr (13, fs_d0)), (e0, .inr (13, fs_2)), (d1, .inr (13, fs_d1)), (e1, .inr (13, fs_5)), (d2, .inr (13, fs_d2)), (e2, .inr (13, fs_8)), (qs, .inr (13, fs_qs)), (e3, .inr (13, fs_11))] := hD
  refine lv_aload_n hx hb dX15_image_70 rfl (lv_at hl 1 rfl) ?_
  refine va_get (D := (dC, dI)) (ci := 15) (v := .int 1) (C := RX15) (T := TX15) (N := 89) hx hb hts (in_m_image_X15) hown hK hP 0 rfl rfl 35 (by decide) (hts (.fieldLink RX15 450 "MotionSignsModel" "images" "I") (List.mem_of_getElem? (i := 2) rfl)) (fun _ h9 => h9) (mF.get hF_h0 0 rfl) dX15_image_71 ?_
  have hP9 := hP.sub (ws' := [(h0, .inr (15, fs_15))]) [0] rfl
  have hD9 := hD.sub (ws' := [(h0, .inr (15, fs_15))]) [0] (by decide) rfl
  have hK9 := hK.sub (tys' := []) [] rfl
  rw [← hAe] at hD9
  refine W.widen (k := 0) (n := 0) (Nat.le_of_ble_eq_true rfl) (Nat.le_of_ble_eq_true rfl) ?_
  subst hAe
  exact (W.iret (v := 1) hx hb hr (fun t ht hW => ⟨⟨1, (), rfl, rfl, fs_15, by rw [ht]; exact hP9, va_K.moved hW.alike hK9, hD9, (mF.sub hF_h0 [1] rfl)⟩, hS.F ht⟩) hS.2.2 dX15_image_74)
def wv_m_feed : List Cond := .code yX15_feed cX15_feed 8 (some .int) :: ([.fieldLink RX15 296 "MotionSignsModel" "thrown" "I", .fieldLink RX15 299 "MotionSignsModel" "tape" "I", .fieldLink RX15 124 "MotionSignsModel" "fed" "[I"] ++ (wsX150 ++ ([])))
theorem gw_m_feed : wv_m_feed.all goodWord = true := by decide +kernel
theorem in_m_feed_X15 : ∀ w ∈ wsX150, w ∈ wv_m_feed := fun _ h => List.mem_cons_of_mem _ (List.mem_append_right _ (List.mem_append_left _ h))
set_option maxHeartbeats 4000000 in
set_option maxRecDepth 100000 in
/-- the reference: feed on a fresh object -/
theorem c_m_feed (l : Launch) (dC : Nat → ClassId) (dI : Nat → Nat → Nat) (h0 : Nat) (qfed : Nat) (qf : Nat) (qfd : Nat) (qs : Nat) (qk : Nat) (ke : Nat) (x0 : Int32) (x1 : Int32) (x2 : Int32) (x3 : Int32) (x4 : Int32) (fe : Nat → Int32) (fs_h0 : List Value) (hF_h0 : mF 89 [(0, .int 0), (18, .int 0), (19, .int 0), (20, .int (-1)), (21, .int 0), (22, .int 0), (23, .int 0), (24, .int 0), (25, .int 0), (27, .int 0), (28, .int 0), (29, .int 0), (35, .int 0), (17, .int (-1)), (26, .ref qfed), (30, .ref qf), (31, .ref qfd), (33, .ref qs), (36, .ref qk)] fs_h0) (sz : Nat) : Met l yX15_feed wv_m_feed ({ frames := 0, cells := 0, slots := 0, locals := 0 }) (va_Pc [.ref h0, .int x0, .int x1, .int x2, .int x3, .int x4] (fun U => U.heap.size = sz ∧ va_P (dC, dI) vwCl [(h0, .inr (15, fs_h0)), (qfed, .inl (ke, 200, .inl fe))] U.heap ∧ va_K (dC, dI) vwCl [(ke, .int)] U ∧ va_D (fun _ => True) [(h0, .inr (15, fs_h0)), (qfed, .inl (ke, 200, .inl fe))] ∧ w_N U)) (va_Qi (fun (r : Int32) (_ : Unit) => r = 20) (fun _ t => ∃ (fs_e : List Value), va_P (dC, dI) vwCl [(h0, .inr (15, fs_e))] t.heap ∧ va_K (dC, dI) vwCl [] t ∧ va_D (va_A [(h0, .inr (15, fs_h0)), (qfed, .inl (ke, 200, .inl fe))] sz) [(h0, .inr (15, fs_e))] ∧ mF 89 [(0, .int 0)] fs_e) (va_A [(h0, .inr (15, fs_h0)), (qfed, .inl (ke, 200, .inl fe))] sz)) 0 0 (va_A [(h0, .inr (15, fs_h0)), (qfed, .inl (ke, 200, .inl fe))] sz) := by
  refine Met.ofW (cc := cX15_feed) (maxL := 8) (ret := (some .int)) (by decide) rfl ?_
  intro p e s m args below meth c s₁ B hml hv
  obtain ⟨rfl, hsz, hP, hK, hD0, hN⟩ := hv
  have hx := B.exec
  have hb := B.bytes
  have hr := B.returns
  have hts := atoms_spec (ws := wv_m_feed) B.pre
  have hown : s.vm.findClass RX15 = some m.cls := findClass_of_methodNamed B.named
  have hlocks := B.notSynchronized
  subst hsz
  have hD := hD0.self (sz := s.heap.size)
  generalize hAe : va_A [(h0, .inr (15, fs_h0)), (qfed, .inl (ke, 200, .inl fe))] s.heap.size = A at hD ⊢
  have hA : ∀ q : Nat, s.heap.size ≤ q → A q := fun q h => by rw [← hAe]; exact Or.inr h
  obtain ⟨H, hHe, hP, hS⟩ : ∃ H : Heap, H = s.heap ∧ va_P (dC, dI) vwCl [(h0, .inr (15, fs_h0)), (qfed, .inl (ke, 200, .inl fe))] H ∧ va_S A s.heap H [] := ⟨s.heap, rfl, hP, va_S.rf⟩
  have hl := lv_entry ([.ref h0, .int x0, .int x1, .int x2, .int x3, .int x4]) (n := 8) (Nat.le_of_ble_eq_true rfl)
  rw [lg_entry_eq]
  generalize (lg_sl ([.ref h0, .int x0, .int x1, .int x2, .int x3, .int x4]) ++ List.replicate (8 - (lg_sl ([.ref h0, .int x0, .int x1, .int x2, .int x3, .int x4])).length) Slot.unset).toArray = ls at hl ⊢
  have hl : lv_has ls 8 [(0, .ref h0), (1, .int x0), (2, .int x1), (3, .int x2), (4, .int x3), (5, .int x4)] := hl
  rw [← hHe]; clear hHe
  refine lv_aload_n hx hb dX15_feed_0 rfl (lv_at hl 0 rfl) ?_
  refine lv_iconst (v := 0) hx hb dX15_feed_1 (by decide) ?_
  refine va_put (D := (dC, dI)) (ci := 15) (v := .int 0) (ty := .int) (C := RX15) (T := TX15) (N := 89) hx hb hts (in_m_feed_X15) tyX15 tyX15_ok nmX15 hown hK hP hD hS 0 rfl rfl 0 (by decide) (hts (.fieldLink RX15 296 "MotionSignsModel" "thrown" "I") (List.mem_of_getElem? (i := 1) rfl)) (fun _ h9 => h9) rfl (tyX15_ok 0 (by decide)) rfl rfl (mF.lt hF_h0 (by decide)) dX15_feed_2 ?_
  clear hP hD hS; try clear H
  intro H locs hP hD hS
  have hF0 := mF.sub (L' := [(18, .int 0), (19, .int 0), (20, .int (-1)), (21, .int 0), (22, .int 0), (23, .int 0), (24, .int 0), (25, .int 0), (27, .int 0), (28, .int 0), (29, .int 0), (35, .int 0), (17, .int (-1)), (26, .ref qfed), (30, .ref qf), (31, .ref qfd), (33, .ref qs), (36, .ref qk)]) hF_h0 [1, 2, 3, 4, 5, 6, 7, 8, 9, 10, 11, 12, 13, 14, 15, 16, 17, 18] rfl
  have hF1 := mF.put hF0 0 (.int 0) (by decide) rfl
  replace hP : va_P (dC, dI) vwCl [(h0, .inr (15, (fs_h0.set 0 (.int 0)))), (qfed, .inl (ke, 200, .inl fe))] H := hP
  replace hD : va_D A [(h0, .inr (15, (fs_h0.set 0 (.int 0)))), (qfed, .inl (ke, 200, .inl fe))] := hD
  generalize fs_h0.set 0 (.int 0) = fs_1 at hP hD hF1
  replace hF_h0 : mF 89 [(0, .int 0), (18, .int 0), (19, .int 0), (20, .int (-1)), (21, .int 0), (22, .int 0), (23, .int 0), (24, .int 0), (25, .int 0), (27, .int 0), (28, .int 0), (29, .int 0), (35, .int 0), (17, .int (-1)), (26, .ref qfed), (30, .ref qf), (31, .ref qfd), (33, .ref qs), (36, .ref qk)] fs_1 := hF1
  clear hF1 hF0
  replace hP : va_P (dC, dI) vwCl [(h0, .inr (15, fs_1)), (qfed, .inl (ke, 200, .inl fe))] H := hP
  replace hD : va_D A [(h0, .inr (15, fs_1)), (qfed, .inl (ke, 200, .inl fe))] := hD
  refine lv_aload_n hx hb dX15_feed_5 rfl (lv_at hl 0 rfl) ?_
  refine va_get (D := (dC, dI)) (ci := 15) (v := .int 0) (C := RX15) (T := TX15) (N := 89) hx hb hts (in_m_feed_X15) hown hK hP 0 rfl rfl 18 (by decide) (hts (.fieldLink RX15 299 "MotionSignsModel" "tape" "I") (List.mem_of_getElem? (i := 2) rfl)) (fun _ h9 => h9) (mF.get hF_h0 1 rfl) dX15_feed_6 ?_
  refine lv_bipush (v := 20) hx hb dX15_feed_9 (by decide) ?_
  refine lv_iadd hx hb dX15_feed_11 ?_
  refine lv_topi (fun v_2 ev_2 => ?_)
  have ev_2 : v_2 = 20 := ev_2.trans (by decide)
  subst ev_2
  refine lv_sipush (v := 200) hx hb dX15_feed_12 (by decide) ?_
  refine lv_icmp_le (tgt := 20) hx hb dX15_feed_15 (by decide) (fun _ => ?_) (fun hc => absurd (by decide) hc)
  refine lv_iconst (v := 0) hx hb dX15_feed_20 (by decide) ?_
  refine lv_istore (lv' := [(6, .int 0), (0, .ref h0), (1, .int x0), (2, .int x1), (3, .int x2), (4, .int x3), (5, .int x4)]) hx hb dX15_feed_21 hl (by decide) rfl (fun ls hl => ?_)
  refine lv_iload hx hb dX15_feed_23 (lv_at hl 0 rfl) ?_
  refine lv_bipush (v := 20) hx hb dX15_feed_25 (by decide) ?_
  refine lv_icmp_ge (tgt := 120) hx hb dX15_feed_27 (by decide) (fun hc => absurd hc (by decide)) (fun _ => ?_)
  refine lv_iload hx hb dX15_feed_30 (lv_at hl 0 rfl) ?_
  refine lv_iconst (v := 4) hx hb dX15_feed_32 (by decide) ?_
  refine lv_icmp_ge (tgt := 40) hx hb dX15_feed_33 (by decide) (fun hc => absurd hc (by decide)) (fun _ => ?_)
  refine lv_iload_n hx hb dX15_feed_36 rfl (lv_at hl 2 rfl) ?_
  refine lv_goto (tgt := 76) hx hb dX15_feed_37 (by decide) ?_
  refine lv_istore (lv' := [(7, .int x0), (6, .int 0), (0, .ref h0), (1, .int x0), (2, .int x1), (3, .int x2), (4, .int x3), (5, .int x4)]) hx hb dX15_feed_76 hl (by decide) rfl (fun ls hl => ?_)
  refine lv_aload_n hx hb dX15_feed_78 rfl (lv_at hl 2 rfl) ?_
  refine va_get (D := (dC, dI)) (ci := 15) (v := .ref qfed) (C := RX15) (T := TX15) (N := 89) hx hb hts (in_m_feed_X15) hown hK hP 0 rfl rfl 26 (by decide) (hts (.fieldLink RX15 124 "MotionSignsModel" "fed" "[I") (List.mem_of_getElem? (i := 3) rfl)) (fun _ h9 => h9) (mF.get hF_h0 14 rfl) dX15_feed_79 ?_
  refine lv_aload_n hx hb dX15_feed_82 rfl (lv_at hl 2 rfl) ?_
  refine va_get (D := (dC, dI)) (ci := 15) (v := .int 0) (C := RX15) (T := TX15) (N := 89) hx hb hts (in_m_feed_X15) hown hK hP 0 rfl rfl 18 (by decide) (hts (.fieldLink RX15 299 "MotionSignsModel" "tape" "I") (List.mem_of_getElem? (i := 2) rfl)) (fun _ h9 => h9) (mF.get hF_h0 1 rfl) dX15_feed_83 ?_
  refine lv_iload hx hb dX15_feed_86 (lv_at hl 0 rfl) ?_
  refine lv_bipush (v := 24) hx hb dX15_feed_88 (by decide) ?_
  refine lv_bipush (v := 8) hx hb dX15_feed_90 (by decide) ?_
  refine lv_iload hx hb dX15_feed_92 (lv_at hl 1 rfl) ?_
  refine lv_iconst (v := 4) hx hb dX15_feed_94 (by decide) ?_
  refine lv_irem hx hb dX15_feed_95 (by decide) ?_
  refine lv_topi (fun v_3 ev_3 => ?_)
  have ev_3 : v_3 = 0 := ev_3.trans (by decide)
  subst ev_3
  refine lv_imul hx hb dX15_feed_96 ?_
  refine lv_topi (fun v_4 ev_4 => ?_)
  have ev_4 : v_4 = 0 := ev_4.trans (by decide)
  subst ev_4
  refine lv_isub hx hb dX15_feed_97 ?_
  refine lv_topi (fun v_5 ev_5 => ?_)
  have ev_5 : v_5 = 24 := ev_5.trans (by decide)
  subst ev_5
  refine lv_ishr hx hb dX15_feed_98 ?_
  refine lv_topi (fun v_6 ev_6 => ?_)
  refine lv_sipush (v := 255) hx hb dX15_feed_99 (by decide) ?_
  refine lv_iand hx hb dX15_feed_102 ?_
  refine lv_topi (fun v_7 ev_7 => ?_)
  refine va_iast hx hb hK hP hD hS 1 0 rfl rfl (by exact fun h => by rcases h with h | h <;> revert h <;> decide) dX15_feed_103 ?_
  clear hP hD hS; try clear H
  intro H locs hP hD hS
  have hPx := hP; have hDx := hD
  obtain ⟨f_8, hPx, hDx⟩ : ∃ g : Nat → Int32, va_P (dC, dI) vwCl [(h0, .inr (15, fs_1)), (qfed, .inl (ke, 200, .inl g))] H ∧ va_D A [(h0, .inr (15, fs_1)), (qfed, .inl (ke, 200, .inl g))] := ⟨_, hP, hD⟩
  replace hP := hPx; replace hD := hDx; clear hPx hDx
  replace hP : va_P (dC, dI) vwCl [(h0, .inr (15, fs_1)), (qfed, .inl (ke, 200, .inl f_8))] H := hP
  replace hD : va_D A [(h0, .inr (15, fs_1)), (qfed, .inl (ke, 200, .inl f_8))] := hD
  refine lv_aload_n hx hb dX15_feed_104 rfl (lv_at hl 2 rfl) ?_
  refine lv_dup hx hb dX15_feed_105 rfl ?_
  refine va_get (D := (dC, dI)) (ci := 15) (v := .int 0) (C := RX15) (T := TX15) (N := 89) hx hb hts (in_m_feed_X15) hown hK hP 0 rfl rfl 18 (by decide) (hts (.fieldLink RX15 299 "MotionSignsModel" "tape" "I") (List.mem_of_getElem? (i := 2) rfl)) (fun _ h9 => h9) (mF.get hF_h0 1 rfl) dX15_feed_106 ?_
  refine lv_iconst (v := 1) hx hb dX15_feed_109 (by decide) ?_
  refine lv_iadd hx hb dX15_feed_110 ?_
  refine lv_topi (fun v_9 ev_9 => ?_)
  have ev_9 : v_9 = 1 := ev_9.trans (by decide)
  subst ev_9
  refine va_put (D := (dC, dI)) (ci := 15) (v := .int 1) (ty := .int) (C := RX15) (T := TX15) (N := 89) hx hb hts (in_m_feed_X15) tyX15 tyX15_ok nmX15 hown hK hP hD hS 0 rfl rfl 18 (by decide) (hts (.fieldLink RX15 299 "MotionSignsModel" "tape" "I") (List.mem_of_getElem? (i := 2) rfl)) (fun _ h9 => h9) rfl (tyX15_ok 18 (by decide)) rfl rfl (mF.lt hF_h0 (by decide)) dX15_feed_111 ?_
  clear hP hD hS; try clear H
  intro H locs hP hD hS
  have hF0 := mF.sub (L' := [(0, .int 0), (19, .int 0), (20, .int (-1)), (21, .int 0), (22, .int 0), (23, .int 0), (24, .int 0), (25, .int 0), (27, .int 0), (28, .int 0), (29, .int 0), (35, .int 0), (17, .int (-1)), (26, .ref qfed), (30, .ref qf), (31, .ref qfd), (33, .ref qs), (36, .ref qk)]) hF_h0 [0, 2, 3, 4, 5, 6, 7, 8, 9, 10, 11, 12, 13, 14, 15, 16, 17, 18] rfl
  have hF1 := mF.put hF0 18 (.int 1) (by decide) rfl
  replace hP : va_P (dC, dI) vwCl [(h0, .inr (15, (fs_1.set 18 (.int 1)))), (qfed, .inl (ke, 200, .inl f_8))] H := hP
  replace hD : va_D A [(h0, .inr (15, (fs_1.set 18 (.int 1)))), (qfed, .inl (ke, 200, .inl f_8))] := hD
  generalize fs_1.set 18 (.int 1) = fs_10 at hP hD hF1
  replace hF_h0 : mF 89 [(18, .int 1), (0, .int 0), (19, .int 0), (20, .int (-1)), (21, .int 0), (22, .int 0), (23, .int 0), (24, .int 0), (25, .int 0), (27, .int 0), (28, .int 0), (29, .int 0), (35, .int 0), (17, .int (-1)), (26, .ref qfed), (30, .ref qf), (31, .ref qfd), (33, .ref qs), (36, .ref qk)] fs_10 := hF1
  clear hF1 hF0
  replace hP : va_P (dC, dI) vwCl [(h0, .inr (15, fs_10)), (qfed, .inl (ke, 200, .inl f_8))] H := hP
  replace hD : va_D A [(h0, .inr (15, fs_10)), (qfed, .inl (ke, 200, .inl f_8))] := hD
  refine lv_iinc (v := 1) (lv' := [(6, .int 1), (7, .int x0), (0, .ref h0), (1, .int x0), (2, .int x1), (3, .int x2), (4, .int x3), (5, .int x4)]) hx hb dX15_feed_114 hl (k := 1) rfl (by decide) (by decide) rfl (fun ls hl => ?_)
  refine lv_goto (tgt := 23) hx hb dX15_feed_117 (by decide) ?_
  refine lv_iload hx hb dX15_feed_23 (lv_at hl 0 rfl) ?_
  refine lv_bipush (v := 20) hx hb dX15_feed_25 (by decide) ?_
  refine lv_icmp_ge (tgt := 120) hx hb dX15_feed_27 (by decide) (fun hc => absurd hc (by decide)) (fun _ => ?_)
  refine lv_iload hx hb dX15_feed_30 (lv_at hl 0 rfl) ?_
  refine lv_iconst (v := 4) hx hb dX15_feed_32 (by decide) ?_
  refine lv_icmp_ge (tgt := 40) hx hb dX15_feed_33 (by decide) (fun hc => absurd hc (by decide)) (fun _ => ?_)
  refine lv_iload_n hx hb dX15_feed_36 rfl (lv_at hl 3 rfl) ?_
  refine lv_goto (tgt := 76) hx hb dX15_feed_37 (by decide) ?_
  refine lv_istore (lv' := [(7, .int x0), (6, .int 1), (0, .ref h0), (1, .int x0), (2, .int x1), (3, .int x2), (4, .int x3), (5, .int x4)]) hx hb dX15_feed_76 hl (by decide) rfl (fun ls hl => ?_)
  refine lv_aload_n hx hb dX15_feed_78 rfl (lv_at hl 2 rfl) ?_
  refine va_get (D := (dC, dI)) (ci := 15) (v := .ref qfed) (C := RX15) (T := TX15) (N := 89) hx hb hts (in_m_feed_X15) hown hK hP 0 rfl rfl 26 (by decide) (hts (.fieldLink RX15 124 "MotionSignsModel" "fed" "[I") (List.mem_of_getElem? (i := 3) rfl)) (fun _ h9 => h9) (mF.get hF_h0 14 rfl) dX15_feed_79 ?_
  refine lv_aload_n hx hb dX15_feed_82 rfl (lv_at hl 2 rfl) ?_
  refine va_get (D := (dC, dI)) (ci := 15) (v := .int 1) (C := RX15) (T := TX15) (N := 89) hx hb hts (in_m_feed_X15) hown hK hP 0 rfl rfl 18 (by decide) (hts (.fieldLink RX15 299 "MotionSignsModel" "tape" "I") (List.mem_of_getElem? (i := 2) rfl)) (fun _ h9 => h9) (mF.get hF_h0 0 rfl) dX15_feed_83 ?_
  refine lv_iload hx hb dX15_feed_86 (lv_at hl 0 rfl) ?_
  refine lv_bipush (v := 24) hx hb dX15_feed_88 (by decide) ?_
  refine lv_bipush (v := 8) hx hb dX15_feed_90 (by decide) ?_
  refine lv_iload hx hb dX15_feed_92 (lv_at hl 1 rfl) ?_
  refine lv_iconst (v := 4) hx hb dX15_feed_94 (by decide) ?_
  refine lv_irem hx hb dX15_feed_95 (by decide) ?_
  refine lv_topi (fun v_11 ev_11 => ?_)
  have ev_11 : v_11 = 1 := ev_11.trans (by decide)
  subst ev_11
  refine lv_imul hx hb dX15_feed_96 ?_
  refine lv_topi (fun v_12 ev_12 => ?_)
  have ev_12 : v_12 = 8 := ev_12.trans (by decide)
  subst ev_12
  refine lv_isub hx hb dX15_feed_97 ?_
  refine lv_topi (fun v_13 ev_13 => ?_)
  have ev_13 : v_13 = 16 := ev_13.trans (by decide)
  subst ev_13
  refine lv_ishr hx hb dX15_feed_98 ?_
  refine lv_topi (fun v_14 ev_14 => ?_)
  refine lv_sipush (v := 255) hx hb dX15_feed_99 (by decide) ?_
  refine lv_iand hx hb dX15_feed_102 ?_
  refine lv_topi (fun v_15 ev_15 => ?_)
  refine va_iast hx hb hK hP hD hS 1 0 rfl rfl (by exact fun h => by rcases h with h | h <;> revert h <;> decide) dX15_feed_103 ?_
  clear hP hD hS; try clear H
  intro H locs hP hD hS
  have hPx := hP; have hDx := hD
  obtain ⟨f_16, hPx, hDx⟩ : ∃ g : Nat → Int32, va_P (dC, dI) vwCl [(h0, .inr (15, fs_10)), (qfed, .inl (ke, 200, .inl g))] H ∧ va_D A [(h0, .inr (15, fs_10)), (qfed, .inl (ke, 200, .inl g))] := ⟨_, hP, hD⟩
  replace hP := hPx; replace hD := hDx; clear hPx hDx
  replace hP : va_P (dC, dI) vwCl [(h0, .inr (15, fs_10)), (qfed, .inl (ke, 200, .inl f_16))] H := hP
  replace hD : va_D A [(h0, .inr (15, fs_10)), (qfed, .inl (ke, 200, .inl f_16))] := hD
  refine lv_aload_n hx hb dX15_feed_104 rfl (lv_at hl 2 rfl) ?_
  refine lv_dup hx hb dX15_feed_105 rfl ?_
  refine va_get (D := (dC, dI)) (ci := 15) (v := .int 1) (C := RX15) (T := TX15) (N := 89) hx hb hts (in_m_feed_X15) hown hK hP 0 rfl rfl 18 (by decide) (hts (.fieldLink RX15 299 "MotionSignsModel" "tape" "I") (List.mem_of_getElem? (i := 2) rfl)) (fun _ h9 => h9) (mF.get hF_h0 0 rfl) dX15_feed_106 ?_
  refine lv_iconst (v := 1) hx hb dX15_feed_109 (by decide) ?_
  refine lv_iadd hx hb dX15_feed_110 ?_
  refine lv_topi (fun v_17 ev_17 => ?_)
  have ev_17 : v_17 = 2 := ev_17.trans (by decide)
  subst ev_17
  refine va_put (D := (dC, dI)) (ci := 15) (v := .int 2) (ty := .int) (C := RX15) (T := TX15) (N := 89) hx hb hts (in_m_feed_X15) tyX15 tyX15_ok nmX15 hown hK hP hD hS 0 rfl rfl 18 (by decide) (hts (.fieldLink RX15 299 "MotionSignsModel" "tape" "I") (List.mem_of_getElem? (i := 2) rfl)) (fun _ h9 => h9) rfl (tyX15_ok 18 (by decide)) rfl rfl (mF.lt hF_h0 (by decide)) dX15_feed_111 ?_
  clear hP hD hS; try clear H
  intro H locs hP hD hS
  have hF0 := mF.sub (L' := [(0, .int 0), (19, .int 0), (20, .int (-1)), (21, .int 0), (22, .int 0), (23, .int 0), (24, .int 0), (25, .int 0), (27, .int 0), (28, .int 0), (29, .int 0), (35, .int 0), (17, .int (-1)), (26, .ref qfed), (30, .ref qf), (31, .ref qfd), (33, .ref qs), (36, .ref qk)]) hF_h0 [1, 2, 3, 4, 5, 6, 7, 8, 9, 10, 11, 12, 13, 14, 15, 16, 17, 18] rfl
  have hF1 := mF.put hF0 18 (.int 2) (by decide) rfl
  replace hP : va_P (dC, dI) vwCl [(h0, .inr (15, (fs_10.set 18 (.int 2)))), (qfed, .inl (ke, 200, .inl f_16))] H := hP
  replace hD : va_D A [(h0, .inr (15, (fs_10.set 18 (.int 2)))), (qfed, .inl (ke, 200, .inl f_16))] := hD
  generalize fs_10.set 18 (.int 2) = fs_18 at hP hD hF1
  replace hF_h0 : mF 89 [(18, .int 2), (0, .int 0), (19, .int 0), (20, .int (-1)), (21, .int 0), (22, .int 0), (23, .int 0), (24, .int 0), (25, .int 0), (27, .int 0), (28, .int 0), (29, .int 0), (35, .int 0), (17, .int (-1)), (26, .ref qfed), (30, .ref qf), (31, .ref qfd), (33, .ref qs), (36, .ref qk)] fs_18 := hF1
  clear hF1 hF0
  replace hP : va_P (dC, dI) vwCl [(h0, .inr (15, fs_18)), (qfed, .inl (ke, 200, .inl f_16))] H := hP
  replace hD : va_D A [(h0, .inr (15, fs_18)), (qfed, .inl (ke, 200, .inl f_16))] := hD
  refine lv_iinc (v := 2) (lv' := [(6, .int 2), (7, .int x0), (0, .ref h0), (1, .int x0), (2, .int x1), (3, .int x2), (4, .int x3), (5, .int x4)]) hx hb dX15_feed_114 hl (k := 1) rfl (by decide) (by decide) rfl (fun ls hl => ?_)
  refine lv_goto (tgt := 23) hx hb dX15_feed_117 (by decide) ?_
  refine lv_iload hx hb dX15_feed_23 (lv_at hl 0 rfl) ?_
  refine lv_bipush (v := 20) hx hb dX15_feed_25 (by decide) ?_
  refine lv_icmp_ge (tgt := 120) hx hb dX15_feed_27 (by decide) (fun hc => absurd hc (by decide)) (fun _ => ?_)
  refine lv_iload hx hb dX15_feed_30 (lv_at hl 0 rfl) ?_
  refine lv_iconst (v := 4) hx hb dX15_feed_32 (by decide) ?_
  refine lv_icmp_ge (tgt := 40) hx hb dX15_feed_33 (by decide) (fun hc => absurd hc (by decide)) (fun _ => ?_)
  refine lv_iload_n hx hb dX15_feed_36 rfl (lv_at hl 3 rfl) ?_
  refine lv_goto (tgt := 76) hx hb dX15_feed_37 (by decide) ?_
  refine lv_istore (lv' := [(7, .int x0), (6, .int 2), (0, .ref h0), (1, .int x0), (2, .int x1), (3, .int x2), (4, .int x3), (5, .int x4)]) hx hb dX15_feed_76 hl (by decide) rfl (fun ls hl => ?_)
  refine lv_aload_n hx hb dX15_feed_78 rfl (lv_at hl 2 rfl) ?_
  refine va_get (D := (dC, dI)) (ci := 15) (v := .ref qfed) (C := RX15) (T := TX15) (N := 89) hx hb hts (in_m_feed_X15) hown hK hP 0 rfl rfl 26 (by decide) (hts (.fieldLink RX15 124 "MotionSignsModel" "fed" "[I") (List.mem_of_getElem? (i := 3) rfl)) (fun _ h9 => h9) (mF.get hF_h0 14 rfl) dX15_feed_79 ?_
  refine lv_aload_n hx hb dX15_feed_82 rfl (lv_at hl 2 rfl) ?_
  refine va_get (D := (dC, dI)) (ci := 15) (v := .int 2) (C := RX15) (T := TX15) (N := 89) hx hb hts (in_m_feed_X15) hown hK hP 0 rfl rfl 18 (by decide) (hts (.fieldLink RX15 299 "MotionSignsModel" "tape" "I") (List.mem_of_getElem? (i := 2) rfl)) (fun _ h9 => h9) (mF.get hF_h0 0 rfl) dX15_feed_83 ?_
  refine lv_iload hx hb dX15_feed_86 (lv_at hl 0 rfl) ?_
  refine lv_bipush (v := 24) hx hb dX15_feed_88 (by decide) ?_
  refine lv_bipush (v := 8) hx hb dX15_feed_90 (by decide) ?_
  refine lv_iload hx hb dX15_feed_92 (lv_at hl 1 rfl) ?_
  refine lv_iconst (v := 4) hx hb dX15_feed_94 (by decide) ?_
  refine lv_irem hx hb dX15_feed_95 (by decide) ?_
  refine lv_topi (fun v_19 ev_19 => ?_)
  have ev_19 : v_19 = 2 := ev_19.trans (by decide)
  subst ev_19
  refine lv_imul hx hb dX15_feed_96 ?_
  refine lv_topi (fun v_20 ev_20 => ?_)
  have ev_20 : v_20 = 16 := ev_20.trans (by decide)
  subst ev_20
  refine lv_isub hx hb dX15_feed_97 ?_
  refine lv_topi (fun v_21 ev_21 => ?_)
  have ev_21 : v_21 = 8 := ev_21.trans (by decide)
  subst ev_21
  refine lv_ishr hx hb dX15_feed_98 ?_
  refine lv_topi (fun v_22 ev_22 => ?_)
  refine lv_sipush (v := 255) hx hb dX15_feed_99 (by decide) ?_
  refine lv_iand hx hb dX15_feed_102 ?_
  refine lv_topi (fun v_23 ev_23 => ?_)
  refine va_iast hx hb hK hP hD hS 1 0 rfl rfl (by exact fun h => by rcases h with h | h <;> revert h <;> decide) dX15_feed_103 ?_
  clear hP hD hS; try clear H
  intro H locs hP hD hS
  have hPx := hP; have hDx := hD
  obtain ⟨f_24, hPx, hDx⟩ : ∃ g : Nat → Int32, va_P (dC, dI) vwCl [(h0, .inr (15, fs_18)), (qfed, .inl (ke, 200, .inl g))] H ∧ va_D A [(h0, .inr (15, fs_18)), (qfed, .inl (ke, 200, .inl g))] := ⟨_, hP, hD⟩
  replace hP := hPx; replace hD := hDx; clear hPx hDx
  replace hP : va_P (dC, dI) vwCl [(h0, .inr (15, fs_18)), (qfed, .inl (ke, 200, .inl f_24))] H := hP
  replace hD : va_D A [(h0, .inr (15, fs_18)), (qfed, .inl (ke, 200, .inl f_24))] := hD
  refine lv_aload_n hx hb dX15_feed_104 rfl (lv_at hl 2 rfl) ?_
  refine lv_dup hx hb dX15_feed_105 rfl ?_
  refine va_get (D := (dC, dI)) (ci := 15) (v := .int 2) (C := RX15) (T := TX15) (N := 89) hx hb hts (in_m_feed_X15) hown hK hP 0 rfl rfl 18 (by decide) (hts (.fieldLink RX15 299 "MotionSignsModel" "tape" "I") (List.mem_of_getElem? (i := 2) rfl)) (fun _ h9 => h9) (mF.get hF_h0 0 rfl) dX15_feed_106 ?_
  refine lv_iconst (v := 1) hx hb dX15_feed_109 (by decide) ?_
  refine lv_iadd hx hb dX15_feed_110 ?_
  refine lv_topi (fun v_25 ev_25 => ?_)
  have ev_25 : v_25 = 3 := ev_25.trans (by decide)
  subst ev_25
  refine va_put (D := (dC, dI)) (ci := 15) (v := .int 3) (ty := .int) (C := RX15) (T := TX15) (N := 89) hx hb hts (in_m_feed_X15) tyX15 tyX15_ok nmX15 hown hK hP hD hS 0 rfl rfl 18 (by decide) (hts (.fieldLink RX15 299 "MotionSignsModel" "tape" "I") (List.mem_of_getElem? (i := 2) rfl)) (fun _ h9 => h9) rfl (tyX15_ok 18 (by decide)) rfl rfl (mF.lt hF_h0 (by decide)) dX15_feed_111 ?_
  clear hP hD hS; try clear H
  intro H locs hP hD hS
  have hF0 := mF.sub (L' := [(0, .int 0), (19, .int 0), (20, .int (-1)), (21, .int 0), (22, .int 0), (23, .int 0), (24, .int 0), (25, .int 0), (27, .int 0), (28, .int 0), (29, .int 0), (35, .int 0), (17, .int (-1)), (26, .ref qfed), (30, .ref qf), (31, .ref qfd), (33, .ref qs), (36, .ref qk)]) hF_h0 [1, 2, 3, 4, 5, 6, 7, 8, 9, 10, 11, 12, 13, 14, 15, 16, 17, 18] rfl
  have hF1 := mF.put hF0 18 (.int 3) (by decide) rfl
  replace hP : va_P (dC, dI) vwCl [(h0, .inr (15, (fs_18.set 18 (.int 3)))), (qfed, .inl (ke, 200, .inl f_24))] H := hP
  replace hD : va_D A [(h0, .inr (15, (fs_18.set 18 (.int 3)))), (qfed, .inl (ke, 200, .inl f_24))] := hD
  generalize fs_18.set 18 (.int 3) = fs_26 at hP hD hF1
  replace hF_h0 : mF 89 [(18, .int 3), (0, .int 0), (19, .int 0), (20, .int (-1)), (21, .int 0), (22, .int 0), (23, .int 0), (24, .int 0), (25, .int 0), (27, .int 0), (28, .int 0), (29, .int 0), (35, .int 0), (17, .int (-1)), (26, .ref qfed), (30, .ref qf), (31, .ref qfd), (33, .ref qs), (36, .ref qk)] fs_26 := hF1
  clear hF1 hF0
  replace hP : va_P (dC, dI) vwCl [(h0, .inr (15, fs_26)), (qfed, .inl (ke, 200, .inl f_24))] H := hP
  replace hD : va_D A [(h0, .inr (15, fs_26)), (qfed, .inl (ke, 200, .inl f_24))] := hD
  refine lv_iinc (v := 3) (lv' := [(6, .int 3), (7, .int x0), (0, .ref h0), (1, .int x0), (2, .int x1), (3, .int x2), (4, .int x3), (5, .int x4)]) hx hb dX15_feed_114 hl (k := 1) rfl (by decide) (by decide) rfl (fun ls hl => ?_)
  refine lv_goto (tgt := 23) hx hb dX15_feed_117 (by decide) ?_
  refine lv_iload hx hb dX15_feed_23 (lv_at hl 0 rfl) ?_
  refine lv_bipush (v := 20) hx hb dX15_feed_25 (by decide) ?_
  refine lv_icmp_ge (tgt := 120) hx hb dX15_feed_27 (by decide) (fun hc => absurd hc (by decide)) (fun _ => ?_)
  refine lv_iload hx hb dX15_feed_30 (lv_at hl 0 rfl) ?_
  refine lv_iconst (v := 4) hx hb dX15_feed_32 (by decide) ?_
  refine lv_icmp_ge (tgt := 40) hx hb dX15_feed_33 (by decide) (fun hc => absurd hc (by decide)) (fun _ => ?_)
  refine lv_iload_n hx hb dX15_feed_36 rfl (lv_at hl 3 rfl) ?_
  refine lv_goto (tgt := 76) hx hb dX15_feed_37 (by decide) ?_
  refine lv_istore (lv' := [(7, .int x0), (6, .int 3), (0, .ref h0), (1, .int x0), (2, .int x1), (3, .int x2), (4, .int x3), (5, .int x4)]) hx hb dX15_feed_76 hl (by decide) rfl (fun ls hl => ?_)
  refine lv_aload_n hx hb dX15_feed_78 rfl (lv_at hl 2 rfl) ?_
  refine va_get (D := (dC, dI)) (ci := 15) (v := .ref qfed) (C := RX15) (T := TX15) (N := 89) hx hb hts (in_m_feed_X15) hown hK hP 0 rfl rfl 26 (by decide) (hts (.fieldLink RX15 124 "MotionSignsModel" "fed" "[I") (List.mem_of_getElem? (i := 3) rfl)) (fun _ h9 => h9) (mF.get hF_h0 14 rfl) dX15_feed_79 ?_
  refine lv_aload_n hx hb dX15_feed_82 rfl (lv_at hl 2 rfl) ?_
  refine va_get (D := (dC, dI)) (ci := 15) (v := .int 3) (C := RX15) (T := TX15) (N := 89) hx hb hts (in_m_feed_X15) hown hK hP 0 rfl rfl 18 (by decide) (hts (.fieldLink RX15 299 "MotionSignsModel" "tape" "I") (List.mem_of_getElem? (i := 2) rfl)) (fun _ h9 => h9) (mF.get hF_h0 0 rfl) dX15_feed_83 ?_
  refine lv_iload hx hb dX15_feed_86 (lv_at hl 0 rfl) ?_
  refine lv_bipush (v := 24) hx hb dX15_feed_88 (by decide) ?_
  refine lv_bipush (v := 8) hx hb dX15_feed_90 (by decide) ?_
  refine lv_iload hx hb dX15_feed_92 (lv_at hl 1 rfl) ?_
  refine lv_iconst (v := 4) hx hb dX15_feed_94 (by decide) ?_
  refine lv_irem hx hb dX15_feed_95 (by decide) ?_
  refine lv_topi (fun v_27 ev_27 => ?_)
  have ev_27 : v_27 = 3 := ev_27.trans (by decide)
  subst ev_27
  refine lv_imul hx hb dX15_feed_96 ?_
  refine lv_topi (fun v_28 ev_28 => ?_)
  have ev_28 : v_28 = 24 := ev_28.trans (by decide)
  subst ev_28
  refine lv_isub hx hb dX15_feed_97 ?_
  refine lv_topi (fun v_29 ev_29 => ?_)
  have ev_29 : v_29 = 0 := ev_29.trans (by decide)
  subst ev_29
  refine lv_ishr hx hb dX15_feed_98 ?_
  refine lv_topi (fun v_30 ev_30 => ?_)
  refine lv_sipush (v := 255) hx hb dX15_feed_99 (by decide) ?_
  refine lv_iand hx hb dX15_feed_102 ?_
  refine lv_topi (fun v_31 ev_31 => ?_)
  refine va_iast hx hb hK hP hD hS 1 0 rfl rfl (by exact fun h => by rcases h with h | h <;> revert h <;> decide) dX15_feed_103 ?_
  clear hP hD hS; try clear H
  intro H locs hP hD hS
  have hPx := hP; have hDx := hD
  obtain ⟨f_32, hPx, hDx⟩ : ∃ g : Nat → Int32, va_P (dC, dI) vwCl [(h0, .inr (15, fs_26)), (qfed, .inl (ke, 200, .inl g))] H ∧ va_D A [(h0, .inr (15, fs_26)), (qfed, .inl (ke, 200, .inl g))] := ⟨_, hP, hD⟩
  replace hP := hPx; replace hD := hDx; clear hPx hDx
  replace hP : va_P (dC, dI) vwCl [(h0, .inr (15, fs_26)), (qfed, .inl (ke, 200, .inl f_32))] H := hP
  replace hD : va_D A [(h0, .inr (15, fs_26)), (qfed, .inl (ke, 200, .inl f_32))] := hD
  refine lv_aload_n hx hb dX15_feed_104 rfl (lv_at hl 2 rfl) ?_
  refine lv_dup hx hb dX15_feed_105 rfl ?_
  refine va_get (D := (dC, dI)) (ci := 15) (v := .int 3) (C := RX15) (T := TX15) (N := 89) hx hb hts (in_m_feed_X15) hown hK hP 0 rfl rfl 18 (by decide) (hts (.fieldLink RX15 299 "MotionSignsModel" "tape" "I") (List.mem_of_getElem? (i := 2) rfl)) (fun _ h9 => h9) (mF.get hF_h0 0 rfl) dX15_feed_106 ?_
  refine lv_iconst (v := 1) hx hb dX15_feed_109 (by decide) ?_
  refine lv_iadd hx hb dX15_feed_110 ?_
  refine lv_topi (fun v_33 ev_33 => ?_)
  have ev_33 : v_33 = 4 := ev_33.trans (by decide)
  subst ev_33
  refine va_put (D := (dC, dI)) (ci := 15) (v := .int 4) (ty := .int) (C := RX15) (T := TX15) (N := 89) hx hb hts (in_m_feed_X15) tyX15 tyX15_ok nmX15 hown hK hP hD hS 0 rfl rfl 18 (by decide) (hts (.fieldLink RX15 299 "MotionSignsModel" "tape" "I") (List.mem_of_getElem? (i := 2) rfl)) (fun _ h9 => h9) rfl (tyX15_ok 18 (by decide)) rfl rfl (mF.lt hF_h0 (by decide)) dX15_feed_111 ?_
  clear hP hD hS; try clear H
  intro H locs hP hD hS
  have hF0 := mF.sub (L' := [(0, .int 0), (19, .int 0), (20, .int (-1)), (21, .int 0), (22, .int 0), (23, .int 0), (24, .int 0), (25, .int 0), (27, .int 0), (28, .int 0), (29, .int 0), (35, .int 0), (17, .int (-1)), (26, .ref qfed), (30, .ref qf), (31, .ref qfd), (33, .ref qs), (36, .ref qk)]) hF_h0 [1, 2, 3, 4, 5, 6, 7, 8, 9, 10, 11, 12, 13, 14, 15, 16, 17, 18] rfl
  have hF1 := mF.put hF0 18 (.int 4) (by decide) rfl
  replace hP : va_P (dC, dI) vwCl [(h0, .inr (15, (fs_26.set 18 (.int 4)))), (qfed, .inl (ke, 200, .inl f_32))] H := hP
  replace hD : va_D A [(h0, .inr (15, (fs_26.set 18 (.int 4)))), (qfed, .inl (ke, 200, .inl f_32))] := hD
  generalize fs_26.set 18 (.int 4) = fs_34 at hP hD hF1
  replace hF_h0 : mF 89 [(18, .int 4), (0, .int 0), (19, .int 0), (20, .int (-1)), (21, .int 0), (22, .int 0), (23, .int 0), (24, .int 0), (25, .int 0), (27, .int 0), (28, .int 0), (29, .int 0), (35, .int 0), (17, .int (-1)), (26, .ref qfed), (30, .ref qf), (31, .ref qfd), (33, .ref qs), (36, .ref qk)] fs_34 := hF1
  clear hF1 hF0
  replace hP : va_P (dC, dI) vwCl [(h0, .inr (15, fs_34)), (qfed, .inl (ke, 200, .inl f_32))] H := hP
  replace hD : va_D A [(h0, .inr (15, fs_34)), (qfed, .inl (ke, 200, .inl f_32))] := hD
  refine lv_iinc (v := 4) (lv' := [(6, .int 4), (7, .int x0), (0, .ref h0), (1, .int x0), (2, .int x1), (3, .int x2), (4, .int x3), (5, .int x4)]) hx hb dX15_feed_114 hl (k := 1) rfl (by decide) (by decide) rfl (fun ls hl => ?_)
  refine lv_goto (tgt := 23) hx hb dX15_feed_117 (by decide) ?_
  refine lv_iload hx hb dX15_feed_23 (lv_at hl 0 rfl) ?_
  refine lv_bipush (v := 20) hx hb dX15_feed_25 (by decide) ?_
  refine lv_icmp_ge (tgt := 120) hx hb dX15_feed_27 (by decide) (fun hc => absurd hc (by decide)) (fun _ => ?_)
  refine lv_iload hx hb dX15_feed_30 (lv_at hl 0 rfl) ?_
  refine lv_iconst (v := 4) hx hb dX15_feed_32 (by decide) ?_
  refine lv_icmp_ge (tgt := 40) hx hb dX15_feed_33 (by decide) (fun _ => ?_) (fun hc => absurd (by decide) hc)
  refine lv_iload hx hb dX15_feed_40 (lv_at hl 0 rfl) ?_
  refine lv_bipush (v := 8) hx hb dX15_feed_42 (by decide) ?_
  refine lv_icmp_ge (tgt := 51) hx hb dX15_feed_44 (by decide) (fun hc => absurd hc (by decide)) (fun _ => ?_)
  refine lv_iload_n hx hb dX15_feed_47 rfl (lv_at hl 4 rfl) ?_
  refine lv_goto (tgt := 76) hx hb dX15_feed_48 (by decide) ?_
  refine lv_istore (lv' := [(7, .int x1), (6, .int 4), (0, .ref h0), (1, .int x0), (2, .int x1), (3, .int x2), (4, .int x3), (5, .int x4)]) hx hb dX15_feed_76 hl (by decide) rfl (fun ls hl => ?_)
  refine lv_aload_n hx hb dX15_feed_78 rfl (lv_at hl 2 rfl) ?_
  refine va_get (D := (dC, dI)) (ci := 15) (v := .ref qfed) (C := RX15) (T := TX15) (N := 89) hx hb hts (in_m_feed_X15) hown hK hP 0 rfl rfl 26 (by decide) (hts (.fieldLink RX15 124 "MotionSignsModel" "fed" "[I") (List.mem_of_getElem? (i := 3) rfl)) (fun _ h9 => h9) (mF.get hF_h0 14 rfl) dX15_feed_79 ?_
  refine lv_aload_n hx hb dX15_feed_82 rfl (lv_at hl 2 rfl) ?_
  refine va_get (D := (dC, dI)) (ci := 15) (v := .int 4) (C := RX15) (T := TX15) (N := 89) hx hb hts (in_m_feed_X15) hown hK hP 0 rfl rfl 18 (by decide) (hts (.fieldLink RX15 299 "MotionSignsModel" "tape" "I") (List.mem_of_getElem? (i := 2) rfl)) (fun _ h9 => h9) (mF.get hF_h0 0 rfl) dX15_feed_83 ?_
  refine lv_iload hx hb dX15_feed_86 (lv_at hl 0 rfl) ?_
  refine lv_bipush (v := 24) hx hb dX15_feed_88 (by decide) ?_
  refine lv_bipush (v := 8) hx hb dX15_feed_90 (by decide) ?_
  refine lv_iload hx hb dX15_feed_92 (lv_at hl 1 rfl) ?_
  refine lv_iconst (v := 4) hx hb dX15_feed_94 (by decide) ?_
  refine lv_irem hx hb dX15_feed_95 (by decide) ?_
  refine lv_topi (fun v_35 ev_35 => ?_)
  have ev_35 : v_35 = 0 := ev_35.trans (by decide)
  subst ev_35
  refine lv_imul hx hb dX15_feed_96 ?_
  refine lv_topi (fun v_36 ev_36 => ?_)
  have ev_36 : v_36 = 0 := ev_36.trans (by decide)
  subst ev_36
  refine lv_isub hx hb dX15_feed_97 ?_
  refine lv_topi (fun v_37 ev_37 => ?_)
  have ev_37 : v_37 = 24 := ev_37.trans (by decide)
  subst ev_37
  refine lv_ishr hx hb dX15_feed_98 ?_
  refine lv_topi (fun v_38 ev_38 => ?_)
  refine lv_sipush (v := 255) hx hb dX15_feed_99 (by decide) ?_
  refine lv_iand hx hb dX15_feed_102 ?_
  refine lv_topi (fun v_39 ev_39 => ?_)
  refine va_iast hx hb hK hP hD hS 1 0 rfl rfl (by exact fun h => by rcases h with h | h <;> revert h <;> decide) dX15_feed_103 ?_
  clear hP hD hS; try clear H
  intro H locs hP hD hS
  have hPx := hP; have hDx := hD
  obtain ⟨f_40, hPx, hDx⟩ : ∃ g : Nat → Int32, va_P (dC, dI) vwCl [(h0, .inr (15, fs_34)), (qfed, .inl (ke, 200, .inl g))] H ∧ va_D A [(h0, .inr (15, fs_34)), (qfed, .inl (ke, 200, .inl g))] := ⟨_, hP, hD⟩
  replace hP := hPx; replace hD := hDx; clear hPx hDx
  replace hP : va_P (dC, dI) vwCl [(h0, .inr (15, fs_34)), (qfed, .inl (ke, 200, .inl f_40))] H := hP
  replace hD : va_D A [(h0, .inr (15, fs_34)), (qfed, .inl (ke, 200, .inl f_40))] := hD
  refine lv_aload_n hx hb dX15_feed_104 rfl (lv_at hl 2 rfl) ?_
  refine lv_dup hx hb dX15_feed_105 rfl ?_
  refine va_get (D := (dC, dI)) (ci := 15) (v := .int 4) (C := RX15) (T := TX15) (N := 89) hx hb hts (in_m_feed_X15) hown hK hP 0 rfl rfl 18 (by decide) (hts (.fieldLink RX15 299 "MotionSignsModel" "tape" "I") (List.mem_of_getElem? (i := 2) rfl)) (fun _ h9 => h9) (mF.get hF_h0 0 rfl) dX15_feed_106 ?_
  refine lv_iconst (v := 1) hx hb dX15_feed_109 (by decide) ?_
  refine lv_iadd hx hb dX15_feed_110 ?_
  refine lv_topi (fun v_41 ev_41 => ?_)
  have ev_41 : v_41 = 5 := ev_41.trans (by decide)
  subst ev_41
  refine va_put (D := (dC, dI)) (ci := 15) (v := .int 5) (ty := .int) (C := RX15) (T := TX15) (N := 89) hx hb hts (in_m_feed_X15) tyX15 tyX15_ok nmX15 hown hK hP hD hS 0 rfl rfl 18 (by decide) (hts (.fieldLink RX15 299 "MotionSignsModel" "tape" "I") (List.mem_of_getElem? (i := 2) rfl)) (fun _ h9 => h9) rfl (tyX15_ok 18 (by decide)) rfl rfl (mF.lt hF_h0 (by decide)) dX15_feed_111 ?_
  clear hP hD hS; try clear H
  intro H locs hP hD hS
  have hF0 := mF.sub (L' := [(0, .int 0), (19, .int 0), (20, .int (-1)), (21, .int 0), (22, .int 0), (23, .int 0), (24, .int 0), (25, .int 0), (27, .int 0), (28, .int 0), (29, .int 0), (35, .int 0), (17, .int (-1)), (26, .ref qfed), (30, .ref qf), (31, .ref qfd), (33, .ref qs), (36, .ref qk)]) hF_h0 [1, 2, 3, 4, 5, 6, 7, 8, 9, 10, 11, 12, 13, 14, 15, 16, 17, 18] rfl
  have hF1 := mF.put hF0 18 (.int 5) (by decide) rfl
  replace hP : va_P (dC, dI) vwCl [(h0, .inr (15, (fs_34.set 18 (.int 5)))), (qfed, .inl (ke, 200, .inl f_40))] H := hP
  replace hD : va_D A [(h0, .inr (15, (fs_34.set 18 (.int 5)))), (qfed, .inl (ke, 200, .inl f_40))] := hD
  generalize fs_34.set 18 (.int 5) = fs_42 at hP hD hF1
  replace hF_h0 : mF 89 [(18, .int 5), (0, .int 0), (19, .int 0), (20, .int (-1)), (21, .int 0), (22, .int 0), (23, .int 0), (24, .int 0), (25, .int 0), (27, .int 0), (28, .int 0), (29, .int 0), (35, .int 0), (17, .int (-1)), (26, .ref qfed), (30, .ref qf), (31, .ref qfd), (33, .ref qs), (36, .ref qk)] fs_42 := hF1
  clear hF1 hF0
  replace hP : va_P (dC, dI) vwCl [(h0, .inr (15, fs_42)), (qfed, .inl (ke, 200, .inl f_40))] H := hP
  replace hD : va_D A [(h0, .inr (15, fs_42)), (qfed, .inl (ke, 200, .inl f_40))] := hD
  refine lv_iinc (v := 5) (lv' := [(6, .int 5), (7, .int x1), (0, .ref h0), (1, .int x0), (2, .int x1), (3, .int x2), (4, .int x3), (5, .int x4)]) hx hb dX15_feed_114 hl (k := 1) rfl (by decide) (by decide) rfl (fun ls hl => ?_)
  refine lv_goto (tgt := 23) hx hb dX15_feed_117 (by decide) ?_
  refine lv_iload hx hb dX15_feed_23 (lv_at hl 0 rfl) ?_
  refine lv_bipush (v := 20) hx hb dX15_feed_25 (by decide) ?_
  refine lv_icmp_ge (tgt := 120) hx hb dX15_feed_27 (by decide) (fun hc => absurd hc (by decide)) (fun _ => ?_)
  refine lv_iload hx hb dX15_feed_30 (lv_at hl 0 rfl) ?_
  refine lv_iconst (v := 4) hx hb dX15_feed_32 (by decide) ?_
  refine lv_icmp_ge (tgt := 40) hx hb dX15_feed_33 (by decide) (fun _ => ?_) (fun hc => absurd (by decide) hc)
  refine lv_iload hx hb dX15_feed_40 (lv_at hl 0 rfl) ?_
  refine lv_bipush (v := 8) hx hb dX15_feed_42 (by decide) ?_
  refine lv_icmp_ge (tgt := 51) hx hb dX15_feed_44 (by decide) (fun hc => absurd hc (by decide)) (fun _ => ?_)
  refine lv_iload_n hx hb dX15_feed_47 rfl (lv_at hl 4 rfl) ?_
  refine lv_goto (tgt := 76) hx hb dX15_feed_48 (by decide) ?_
  refine lv_istore (lv' := [(7, .int x1), (6, .int 5), (0, .ref h0), (1, .int x0), (2, .int x1), (3, .int x2), (4, .int x3), (5, .int x4)]) hx hb dX15_feed_76 hl (by decide) rfl (fun ls hl => ?_)
  refine lv_aload_n hx hb dX15_feed_78 rfl (lv_at hl 2 rfl) ?_
  refine va_get (D := (dC, dI)) (ci := 15) (v := .ref qfed) (C := RX15) (T := TX15) (N := 89) hx hb hts (in_m_feed_X15) hown hK hP 0 rfl rfl 26 (by decide) (hts (.fieldLink RX15 124 "MotionSignsModel" "fed" "[I") (List.mem_of_getElem? (i := 3) rfl)) (fun _ h9 => h9) (mF.get hF_h0 14 rfl) dX15_feed_79 ?_
  refine lv_aload_n hx hb dX15_feed_82 rfl (lv_at hl 2 rfl) ?_
  refine va_get (D := (dC, dI)) (ci := 15) (v := .int 5) (C := RX15) (T := TX15) (N := 89) hx hb hts (in_m_feed_X15) hown hK hP 0 rfl rfl 18 (by decide) (hts (.fieldLink RX15 299 "MotionSignsModel" "tape" "I") (List.mem_of_getElem? (i := 2) rfl)) (fun _ h9 => h9) (mF.get hF_h0 0 rfl) dX15_feed_83 ?_
  refine lv_iload hx hb dX15_feed_86 (lv_at hl 0 rfl) ?_
  refine lv_bipush (v := 24) hx hb dX15_feed_88 (by decide) ?_
  refine lv_bipush (v := 8) hx hb dX15_feed_90 (by decide) ?_
  refine lv_iload hx hb dX15_feed_92 (lv_at hl 1 rfl) ?_
  refine lv_iconst (v := 4) hx hb dX15_feed_94 (by decide) ?_
  refine lv_irem hx hb dX15_feed_95 (by decide) ?_
  refine lv_topi (fun v_43 ev_43 => ?_)
  have ev_43 : v_43 = 1 := ev_43.trans (by decide)
  subst ev_43
  refine lv_imul hx hb dX15_feed_96 ?_
  refine lv_topi (fun v_44 ev_44 => ?_)
  have ev_44 : v_44 = 8 := ev_44.trans (by decide)
  subst ev_44
  refine lv_isub hx hb dX15_feed_97 ?_
  refine lv_topi (fun v_45 ev_45 => ?_)
  have ev_45 : v_45 = 16 := ev_45.trans (by decide)
  subst ev_45
  refine lv_ishr hx hb dX15_feed_98 ?_
  refine lv_topi (fun v_46 ev_46 => ?_)
  refine lv_sipush (v := 255) hx hb dX15_feed_99 (by decide) ?_
  refine lv_iand hx hb dX15_feed_102 ?_
  refine lv_topi (fun v_47 ev_47 => ?_)
  refine va_iast hx hb hK hP hD hS 1 0 rfl rfl (by exact fun h => by rcases h with h | h <;> revert h <;> decide) dX15_feed_103 ?_
  clear hP hD hS; try clear H
  intro H locs hP hD hS
  have hPx := hP; have hDx := hD
  obtain ⟨f_48, hPx, hDx⟩ : ∃ g : Nat → Int32, va_P (dC, dI) vwCl [(h0, .inr (15, fs_42)), (qfed, .inl (ke, 200, .inl g))] H ∧ va_D A [(h0, .inr (15, fs_42)), (qfed, .inl (ke, 200, .inl g))] := ⟨_, hP, hD⟩
  replace hP := hPx; replace hD := hDx; clear hPx hDx
  replace hP : va_P (dC, dI) vwCl [(h0, .inr (15, fs_42)), (qfed, .inl (ke, 200, .inl f_48))] H := hP
  replace hD : va_D A [(h0, .inr (15, fs_42)), (qfed, .inl (ke, 200, .inl f_48))] := hD
  refine lv_aload_n hx hb dX15_feed_104 rfl (lv_at hl 2 rfl) ?_
  refine lv_dup hx hb dX15_feed_105 rfl ?_
  refine va_get (D := (dC, dI)) (ci := 15) (v := .int 5) (C := RX15) (T := TX15) (N := 89) hx hb hts (in_m_feed_X15) hown hK hP 0 rfl rfl 18 (by decide) (hts (.fieldLink RX15 299 "MotionSignsModel" "tape" "I") (List.mem_of_getElem? (i := 2) rfl)) (fun _ h9 => h9) (mF.get hF_h0 0 rfl) dX15_feed_106 ?_
  refine lv_iconst (v := 1) hx hb dX15_feed_109 (by decide) ?_
  refine lv_iadd hx hb dX15_feed_110 ?_
  refine lv_topi (fun v_49 ev_49 => ?_)
  have ev_49 : v_49 = 6 := ev_49.trans (by decide)
  subst ev_49
  refine va_put (D := (dC, dI)) (ci := 15) (v := .int 6) (ty := .int) (C := RX15) (T := TX15) (N := 89) hx hb hts (in_m_feed_X15) tyX15 tyX15_ok nmX15 hown hK hP hD hS 0 rfl rfl 18 (by decide) (hts (.fieldLink RX15 299 "MotionSignsModel" "tape" "I") (List.mem_of_getElem? (i := 2) rfl)) (fun _ h9 => h9) rfl (tyX15_ok 18 (by decide)) rfl rfl (mF.lt hF_h0 (by decide)) dX15_feed_111 ?_
  clear hP hD hS; try clear H
  intro H locs hP hD hS
  have hF0 := mF.sub (L' := [(0, .int 0), (19, .int 0), (20, .int (-1)), (21, .int 0), (22, .int 0), (23, .int 0), (24, .int 0), (25, .int 0), (27, .int 0), (28, .int 0), (29, .int 0), (35, .int 0), (17, .int (-1)), (26, .ref qfed), (30, .ref qf), (31, .ref qfd), (33, .ref qs), (36, .ref qk)]) hF_h0 [1, 2, 3, 4, 5, 6, 7, 8, 9, 10, 11, 12, 13, 14, 15, 16, 17, 18] rfl
  have hF1 := mF.put hF0 18 (.int 6) (by decide) rfl
  replace hP : va_P (dC, dI) vwCl [(h0, .inr (15, (fs_42.set 18 (.int 6)))), (qfed, .inl (ke, 200, .inl f_48))] H := hP
  replace hD : va_D A [(h0, .inr (15, (fs_42.set 18 (.int 6)))), (qfed, .inl (ke, 200, .inl f_48))] := hD
  generalize fs_42.set 18 (.int 6) = fs_50 at hP hD hF1
  replace hF_h0 : mF 89 [(18, .int 6), (0, .int 0), (19, .int 0), (20, .int (-1)), (21, .int 0), (22, .int 0), (23, .int 0), (24, .int 0), (25, .int 0), (27, .int 0), (28, .int 0), (29, .int 0), (35, .int 0), (17, .int (-1)), (26, .ref qfed), (30, .ref qf), (31, .ref qfd), (33, .ref qs), (36, .ref qk)] fs_50 := hF1
  clear hF1 hF0
  replace hP : va_P (dC, dI) vwCl [(h0, .inr (15, fs_50)), (qfed, .inl (ke, 200, .inl f_48))] H := hP
  replace hD : va_D A [(h0, .inr (15, fs_50)), (qfed, .inl (ke, 200, .inl f_48))] := hD
  refine lv_iinc (v := 6) (lv' := [(6, .int 6), (7, .int x1), (0, .ref h0), (1, .int x0), (2, .int x1), (3, .int x2), (4, .int x3), (5, .int x4)]) hx hb dX15_feed_114 hl (k := 1) rfl (by decide) (by decide) rfl (fun ls hl => ?_)
  refine lv_goto (tgt := 23) hx hb dX15_feed_117 (by decide) ?_
  refine lv_iload hx hb dX15_feed_23 (lv_at hl 0 rfl) ?_
  refine lv_bipush (v := 20) hx hb dX15_feed_25 (by decide) ?_
  refine lv_icmp_ge (tgt := 120) hx hb dX15_feed_27 (by decide) (fun hc => absurd hc (by decide)) (fun _ => ?_)
  refine lv_iload hx hb dX15_feed_30 (lv_at hl 0 rfl) ?_
  refine lv_iconst (v := 4) hx hb dX15_feed_32 (by decide) ?_
  refine lv_icmp_ge (tgt := 40) hx hb dX15_feed_33 (by decide) (fun _ => ?_) (fun hc => absurd (by decide) hc)
  refine lv_iload hx hb dX15_feed_40 (lv_at hl 0 rfl) ?_
  refine lv_bipush (v := 8) hx hb dX15_feed_42 (by decide) ?_
  refine lv_icmp_ge (tgt := 51) hx hb dX15_feed_44 (by decide) (fun hc => absurd hc (by decide)) (fun _ => ?_)
  refine lv_iload_n hx hb dX15_feed_47 rfl (lv_at hl 4 rfl) ?_
  refine lv_goto (tgt := 76) hx hb dX15_feed_48 (by decide) ?_
  refine lv_istore (lv' := [(7, .int x1), (6, .int 6), (0, .ref h0), (1, .int x0), (2, .int x1), (3, .int x2), (4, .int x3), (5, .int x4)]) hx hb dX15_feed_76 hl (by decide) rfl (fun ls hl => ?_)
  refine lv_aload_n hx hb dX15_feed_78 rfl (lv_at hl 2 rfl) ?_
  refine va_get (D := (dC, dI)) (ci := 15) (v := .ref qfed) (C := RX15) (T := TX15) (N := 89) hx hb hts (in_m_feed_X15) hown hK hP 0 rfl rfl 26 (by decide) (hts (.fieldLink RX15 124 "MotionSignsModel" "fed" "[I") (List.mem_of_getElem? (i := 3) rfl)) (fun _ h9 => h9) (mF.get hF_h0 14 rfl) dX15_feed_79 ?_
  refine lv_aload_n hx hb dX15_feed_82 rfl (lv_at hl 2 rfl) ?_
  refine va_get (D := (dC, dI)) (ci := 15) (v := .int 6) (C := RX15) (T := TX15) (N := 89) hx hb hts (in_m_feed_X15) hown hK hP 0 rfl rfl 18 (by decide) (hts (.fieldLink RX15 299 "MotionSignsModel" "tape" "I") (List.mem_of_getElem? (i := 2) rfl)) (fun _ h9 => h9) (mF.get hF_h0 0 rfl) dX15_feed_83 ?_
  refine lv_iload hx hb dX15_feed_86 (lv_at hl 0 rfl) ?_
  refine lv_bipush (v := 24) hx hb dX15_feed_88 (by decide) ?_
  refine lv_bipush (v := 8) hx hb dX15_feed_90 (by decide) ?_
  refine lv_iload hx hb dX15_feed_92 (lv_at hl 1 rfl) ?_
  refine lv_iconst (v := 4) hx hb dX15_feed_94 (by decide) ?_
  refine lv_irem hx hb dX15_feed_95 (by decide) ?_
  refine lv_topi (fun v_51 ev_51 => ?_)
  have ev_51 : v_51 = 2 := ev_51.trans (by decide)
  subst ev_51
  refine lv_imul hx hb dX15_feed_96 ?_
  refine lv_topi (fun v_52 ev_52 => ?_)
  have ev_52 : v_52 = 16 := ev_52.trans (by decide)
  subst ev_52
  refine lv_isub hx hb dX15_feed_97 ?_
  refine lv_topi (fun v_53 ev_53 => ?_)
  have ev_53 : v_53 = 8 := ev_53.trans (by decide)
  subst ev_53
  refine lv_ishr hx hb dX15_feed_98 ?_
  refine lv_topi (fun v_54 ev_54 => ?_)
  refine lv_sipush (v := 255) hx hb dX15_feed_99 (by decide) ?_
  refine lv_iand hx hb dX15_feed_102 ?_
  refine lv_topi (fun v_55 ev_55 => ?_)
  refine va_iast hx hb hK hP hD hS 1 0 rfl rfl (by exact fun h => by rcases h with h | h <;> revert h <;> decide) dX15_feed_103 ?_
  clear hP hD hS; try clear H
  intro H locs hP hD hS
  have hPx := hP; have hDx := hD
  obtain ⟨f_56, hPx, hDx⟩ : ∃ g : Nat → Int32, va_P (dC, dI) vwCl [(h0, .inr (15, fs_50)), (qfed, .inl (ke, 200, .inl g))] H ∧ va_D A [(h0, .inr (15, fs_50)), (qfed, .inl (ke, 200, .inl g))] := ⟨_, hP, hD⟩
  replace hP := hPx; replace hD := hDx; clear hPx hDx
  replace hP : va_P (dC, dI) vwCl [(h0, .inr (15, fs_50)), (qfed, .inl (ke, 200, .inl f_56))] H := hP
  replace hD : va_D A [(h0, .inr (15, fs_50)), (qfed, .inl (ke, 200, .inl f_56))] := hD
  refine lv_aload_n hx hb dX15_feed_104 rfl (lv_at hl 2 rfl) ?_
  refine lv_dup hx hb dX15_feed_105 rfl ?_
  refine va_get (D := (dC, dI)) (ci := 15) (v := .int 6) (C := RX15) (T := TX15) (N := 89) hx hb hts (in_m_feed_X15) hown hK hP 0 rfl rfl 18 (by decide) (hts (.fieldLink RX15 299 "MotionSignsModel" "tape" "I") (List.mem_of_getElem? (i := 2) rfl)) (fun _ h9 => h9) (mF.get hF_h0 0 rfl) dX15_feed_106 ?_
  refine lv_iconst (v := 1) hx hb dX15_feed_109 (by decide) ?_
  refine lv_iadd hx hb dX15_feed_110 ?_
  refine lv_topi (fun v_57 ev_57 => ?_)
  have ev_57 : v_57 = 7 := ev_57.trans (by decide)
  subst ev_57
  refine va_put (D := (dC, dI)) (ci := 15) (v := .int 7) (ty := .int) (C := RX15) (T := TX15) (N := 89) hx hb hts (in_m_feed_X15) tyX15 tyX15_ok nmX15 hown hK hP hD hS 0 rfl rfl 18 (by decide) (hts (.fieldLink RX15 299 "MotionSignsModel" "tape" "I") (List.mem_of_getElem? (i := 2) rfl)) (fun _ h9 => h9) rfl (tyX15_ok 18 (by decide)) rfl rfl (mF.lt hF_h0 (by decide)) dX15_feed_111 ?_
  clear hP hD hS; try clear H
  intro H locs hP hD hS
  have hF0 := mF.sub (L' := [(0, .int 0), (19, .int 0), (20, .int (-1)), (21, .int 0), (22, .int 0), (23, .int 0), (24, .int 0), (25, .int 0), (27, .int 0), (28, .int 0), (29, .int 0), (35, .int 0), (17, .int (-1)), (26, .ref qfed), (30, .ref qf), (31, .ref qfd), (33, .ref qs), (36, .ref qk)]) hF_h0 [1, 2, 3, 4, 5, 6, 7, 8, 9, 10, 11, 12, 13, 14, 15, 16, 17, 18] rfl
  have hF1 := mF.put hF0 18 (.int 7) (by decide) rfl
  replace hP : va_P (dC, dI) vwCl [(h0, .inr (15, (fs_50.set 18 (.int 7)))), (qfed, .inl (ke, 200, .inl f_56))] H := hP
  replace hD : va_D A [(h0, .inr (15, (fs_50.set 18 (.int 7)))), (qfed, .inl (ke, 200, .inl f_56))] := hD
  generalize fs_50.set 18 (.int 7) = fs_58 at hP hD hF1
  replace hF_h0 : mF 89 [(18, .int 7), (0, .int 0), (19, .int 0), (20, .int (-1)), (21, .int 0), (22, .int 0), (23, .int 0), (24, .int 0), (25, .int 0), (27, .int 0), (28, .int 0), (29, .int 0), (35, .int 0), (17, .int (-1)), (26, .ref qfed), (30, .ref qf), (31, .ref qfd), (33, .ref qs), (36, .ref qk)] fs_58 := hF1
  clear hF1 hF0
  replace hP : va_P (dC, dI) vwCl [(h0, .inr (15, fs_58)), (qfed, .inl (ke, 200, .inl f_56))] H := hP
  replace hD : va_D A [(h0, .inr (15, fs_58)), (qfed, .inl (ke, 200, .inl f_56))] := hD
  refine lv_iinc (v := 7) (lv' := [(6, .int 7), (7, .int x1), (0, .ref h0), (1, .int x0), (2, .int x1), (3, .int x2), (4, .int x3), (5, .int x4)]) hx hb dX15_feed_114 hl (k := 1) rfl (by decide) (by decide) rfl (fun ls hl => ?_)
  refine lv_goto (tgt := 23) hx hb dX15_feed_117 (by decide) ?_
  refine lv_iload hx hb dX15_feed_23 (lv_at hl 0 rfl) ?_
  refine lv_bipush (v := 20) hx hb dX15_feed_25 (by decide) ?_
  refine lv_icmp_ge (tgt := 120) hx hb dX15_feed_27 (by decide) (fun hc => absurd hc (by decide)) (fun _ => ?_)
  refine lv_iload hx hb dX15_feed_30 (lv_at hl 0 rfl) ?_
  refine lv_iconst (v := 4) hx hb dX15_feed_32 (by decide) ?_
  refine lv_icmp_ge (tgt := 40) hx hb dX15_feed_33 (by decide) (fun _ => ?_) (fun hc => absurd (by decide) hc)
  refine lv_iload hx hb dX15_feed_40 (lv_at hl 0 rfl) ?_
  refine lv_bipush (v := 8) hx hb dX15_feed_42 (by decide) ?_
  refine lv_icmp_ge (tgt := 51) hx hb dX15_feed_44 (by decide) (fun hc => absurd hc (by decide)) (fun _ => ?_)
  refine lv_iload_n hx hb dX15_feed_47 rfl (lv_at hl 4 rfl) ?_
  refine lv_goto (tgt := 76) hx hb dX15_feed_48 (by decide) ?_
  refine lv_istore (lv' := [(7, .int x1), (6, .int 7), (0, .ref h0), (1, .int x0), (2, .int x1), (3, .int x2), (4, .int x3), (5, .int x4)]) hx hb dX15_feed_76 hl (by decide) rfl (fun ls hl => ?_)
  refine lv_aload_n hx hb dX15_feed_78 rfl (lv_at hl 2 rfl) ?_
  refine va_get (D := (dC, dI)) (ci := 15) (v := .ref qfed) (C := RX15) (T := TX15) (N := 89) hx hb hts (in_m_feed_X15) hown hK hP 0 rfl rfl 26 (by decide) (hts (.fieldLink RX15 124 "MotionSignsModel" "fed" "[I") (List.mem_of_getElem? (i := 3) rfl)) (fun _ h9 => h9) (mF.get hF_h0 14 rfl) dX15_feed_79 ?_
  refine lv_aload_n hx hb dX15_feed_82 rfl (lv_at hl 2 rfl) ?_
  refine va_get (D := (dC, dI)) (ci := 15) (v := .int 7) (C := RX15) (T := TX15) (N := 89) hx hb hts (in_m_feed_X15) hown hK hP 0 rfl rfl 18 (by decide) (hts (.fieldLink RX15 299 "MotionSignsModel" "tape" "I") (List.mem_of_getElem? (i := 2) rfl)) (fun _ h9 => h9) (mF.get hF_h0 0 rfl) dX15_feed_83 ?_
  refine lv_iload hx hb dX15_feed_86 (lv_at hl 0 rfl) ?_
  refine lv_bipush (v := 24) hx hb dX15_feed_88 (by decide) ?_
  refine lv_bipush (v := 8) hx hb dX15_feed_90 (by decide) ?_
  refine lv_iload hx hb dX15_feed_92 (lv_at hl 1 rfl) ?_
  refine lv_iconst (v := 4) hx hb dX15_feed_94 (by decide) ?_
  refine lv_irem hx hb dX15_feed_95 (by decide) ?_
  refine lv_topi (fun v_59 ev_59 => ?_)
  have ev_59 : v_59 = 3 := ev_59.trans (by decide)
  subst ev_59
  refine lv_imul hx hb dX15_feed_96 ?_
  refine lv_topi (fun v_60 ev_60 => ?_)
  have ev_60 : v_60 = 24 := ev_60.trans (by decide)
  subst ev_60
  refine lv_isub hx hb dX15_feed_97 ?_
  refine lv_topi (fun v_61 ev_61 => ?_)
  have ev_61 : v_61 = 0 := ev_61.trans (by decide)
  subst ev_61
  refine lv_ishr hx hb dX15_feed_98 ?_
  refine lv_topi (fun v_62 ev_62 => ?_)
  refine lv_sipush (v := 255) hx hb dX15_feed_99 (by decide) ?_
  refine lv_iand hx hb dX15_feed_102 ?_
  refine lv_topi (fun v_63 ev_63 => ?_)
  refine va_iast hx hb hK hP hD hS 1 0 rfl rfl (by exact fun h => by rcases h with h | h <;> revert h <;> decide) dX15_feed_103 ?_
  clear hP hD hS; try clear H
  intro H locs hP hD hS
  have hPx := hP; have hDx := hD
  obtain ⟨f_64, hPx, hDx⟩ : ∃ g : Nat → Int32, va_P (dC, dI) vwCl [(h0, .inr (15, fs_58)), (qfed, .inl (ke, 200, .inl g))] H ∧ va_D A [(h0, .inr (15, fs_58)), (qfed, .inl (ke, 200, .inl g))] := ⟨_, hP, hD⟩
  replace hP := hPx; replace hD := hDx; clear hPx hDx
  replace hP : va_P (dC, dI) vwCl [(h0, .inr (15, fs_58)), (qfed, .inl (ke, 200, .inl f_64))] H := hP
  replace hD : va_D A [(h0, .inr (15, fs_58)), (qfed, .inl (ke, 200, .inl f_64))] := hD
  refine lv_aload_n hx hb dX15_feed_104 rfl (lv_at hl 2 rfl) ?_
  refine lv_dup hx hb dX15_feed_105 rfl ?_
  refine va_get (D := (dC, dI)) (ci := 15) (v := .int 7) (C := RX15) (T := TX15) (N := 89) hx hb hts (in_m_feed_X15) hown hK hP 0 rfl rfl 18 (by decide) (hts (.fieldLink RX15 299 "MotionSignsModel" "tape" "I") (List.mem_of_getElem? (i := 2) rfl)) (fun _ h9 => h9) (mF.get hF_h0 0 rfl) dX15_feed_106 ?_
  refine lv_iconst (v := 1) hx hb dX15_feed_109 (by decide) ?_
  refine lv_iadd hx hb dX15_feed_110 ?_
  refine lv_topi (fun v_65 ev_65 => ?_)
  have ev_65 : v_65 = 8 := ev_65.trans (by decide)
  subst ev_65
  refine va_put (D := (dC, dI)) (ci := 15) (v := .int 8) (ty := .int) (C := RX15) (T := TX15) (N := 89) hx hb hts (in_m_feed_X15) tyX15 tyX15_ok nmX15 hown hK hP hD hS 0 rfl rfl 18 (by decide) (hts (.fieldLink RX15 299 "MotionSignsModel" "tape" "I") (List.mem_of_getElem? (i := 2) rfl)) (fun _ h9 => h9) rfl (tyX15_ok 18 (by decide)) rfl rfl (mF.lt hF_h0 (by decide)) dX15_feed_111 ?_
  clear hP hD hS; try clear H
  intro H locs hP hD hS
  have hF0 := mF.sub (L' := [(0, .int 0), (19, .int 0), (20, .int (-1)), (21, .int 0), (22, .int 0), (23, .int 0), (24, .int 0), (25, .int 0), (27, .int 0), (28, .int 0), (29, .int 0), (35, .int 0), (17, .int (-1)), (26, .ref qfed), (30, .ref qf), (31, .ref qfd), (33, .ref qs), (36, .ref qk)]) hF_h0 [1, 2, 3, 4, 5, 6, 7, 8, 9, 10, 11, 12, 13, 14, 15, 16, 17, 18] rfl
  have hF1 := mF.put hF0 18 (.int 8) (by decide) rfl
  replace hP : va_P (dC, dI) vwCl [(h0, .inr (15, (fs_58.set 18 (.int 8)))), (qfed, .inl (ke, 200, .inl f_64))] H := hP
  replace hD : va_D A [(h0, .inr (15, (fs_58.set 18 (.int 8)))), (qfed, .inl (ke, 200, .inl f_64))] := hD
  generalize fs_58.set 18 (.int 8) = fs_66 at hP hD hF1
  replace hF_h0 : mF 89 [(18, .int 8), (0, .int 0), (19, .int 0), (20, .int (-1)), (21, .int 0), (22, .int 0), (23, .int 0), (24, .int 0), (25, .int 0), (27, .int 0), (28, .int 0), (29, .int 0), (35, .int 0), (17, .int (-1)), (26, .ref qfed), (30, .ref qf), (31, .ref qfd), (33, .ref qs), (36, .ref qk)] fs_66 := hF1
  clear hF1 hF0
  replace hP : va_P (dC, dI) vwCl [(h0, .inr (15, fs_66)), (qfed, .inl (ke, 200, .inl f_64))] H := hP
  replace hD : va_D A [(h0, .inr (15, fs_66)), (qfed, .inl (ke, 200, .inl f_64))] := hD
  refine lv_iinc (v := 8) (lv' := [(6, .int 8), (7, .int x1), (0, .ref h0), (1, .int x0), (2, .int x1), (3, .int x2), (4, .int x3), (5, .int x4)]) hx hb dX15_feed_114 hl (k := 1) rfl (by decide) (by decide) rfl (fun ls hl => ?_)
  refine lv_goto (tgt := 23) hx hb dX15_feed_117 (by decide) ?_
  refine lv_iload hx hb dX15_feed_23 (lv_at hl 0 rfl) ?_
  refine lv_bipush (v := 20) hx hb dX15_feed_25 (by decide) ?_
  refine lv_icmp_ge (tgt := 120) hx hb dX15_feed_27 (by decide) (fun hc => absurd hc (by decide)) (fun _ => ?_)
  refine lv_iload hx hb dX15_feed_30 (lv_at hl 0 rfl) ?_
  refine lv_iconst (v := 4) hx hb dX15_feed_32 (by decide) ?_
  refine lv_icmp_ge (tgt := 40) hx hb dX15_feed_33 (by decide) (fun _ => ?_) (fun hc => absurd (by decide) hc)
  refine lv_iload hx hb dX15_feed_40 (lv_at hl 0 rfl) ?_
  refine lv_bipush (v := 8) hx hb dX15_feed_42 (by decide) ?_
  refine lv_icmp_ge (tgt := 51) hx hb dX15_feed_44 (by decide) (fun _ => ?_) (fun hc => absurd (by decide) hc)
  refine lv_iload hx hb dX15_feed_51 (lv_at hl 0 rfl) ?_
  refine lv_bipush (v := 12) hx hb dX15_feed_53 (by decide) ?_
  refine lv_icmp_ge (tgt := 62) hx hb dX15_feed_55 (by decide) (fun hc => absurd hc (by decide)) (fun _ => ?_)
  refine lv_iload_n hx hb dX15_feed_58 rfl (lv_at hl 5 rfl) ?_
  refine lv_goto (tgt := 76) hx hb dX15_feed_59 (by decide) ?_
  refine lv_istore (lv' := [(7, .int x2), (6, .int 8), (0, .ref h0), (1, .int x0), (2, .int x1), (3, .int x2), (4, .int x3), (5, .int x4)]) hx hb dX15_feed_76 hl (by decide) rfl (fun ls hl => ?_)
  refine lv_aload_n hx hb dX15_feed_78 rfl (lv_at hl 2 rfl) ?_
  refine va_get (D := (dC, dI)) (ci := 15) (v := .ref qfed) (C := RX15) (T := TX15) (N := 89) hx hb hts (in_m_feed_X15) hown hK hP 0 rfl rfl 26 (by decide) (hts (.fieldLink RX15 124 "MotionSignsModel" "fed" "[I") (List.mem_of_getElem? (i := 3) rfl)) (fun _ h9 => h9) (mF.get hF_h0 14 rfl) dX15_feed_79 ?_
  refine lv_aload_n hx hb dX15_feed_82 rfl (lv_at hl 2 rfl) ?_
  refine va_get (D := (dC, dI)) (ci := 15) (v := .int 8) (C := RX15) (T := TX15) (N := 89) hx hb hts (in_m_feed_X15) hown hK hP 0 rfl rfl 18 (by decide) (hts (.fieldLink RX15 299 "MotionSignsModel" "tape" "I") (List.mem_of_getElem? (i := 2) rfl)) (fun _ h9 => h9) (mF.get hF_h0 0 rfl) dX15_feed_83 ?_
  refine lv_iload hx hb dX15_feed_86 (lv_at hl 0 rfl) ?_
  refine lv_bipush (v := 24) hx hb dX15_feed_88 (by decide) ?_
  refine lv_bipush (v := 8) hx hb dX15_feed_90 (by decide) ?_
  refine lv_iload hx hb dX15_feed_92 (lv_at hl 1 rfl) ?_
  refine lv_iconst (v := 4) hx hb dX15_feed_94 (by decide) ?_
  refine lv_irem hx hb dX15_feed_95 (by decide) ?_
  refine lv_topi (fun v_67 ev_67 => ?_)
  have ev_67 : v_67 = 0 := ev_67.trans (by decide)
  subst ev_67
  refine lv_imul hx hb dX15_feed_96 ?_
  refine lv_topi (fun v_68 ev_68 => ?_)
  have ev_68 : v_68 = 0 := ev_68.trans (by decide)
  subst ev_68
  refine lv_isub hx hb dX15_feed_97 ?_
  refine lv_topi (fun v_69 ev_69 => ?_)
  have ev_69 : v_69 = 24 := ev_69.trans (by decide)
  subst ev_69
  refine lv_ishr hx hb dX15_feed_98 ?_
  refine lv_topi (fun v_70 ev_70 => ?_)
  refine lv_sipush (v := 255) hx hb dX15_feed_99 (by decide) ?_
  refine lv_iand hx hb dX15_feed_102 ?_
  refine lv_topi (fun v_71 ev_71 => ?_)
  refine va_iast hx hb hK hP hD hS 1 0 rfl rfl (by exact fun h => by rcases h with h | h <;> revert h <;> decide) dX15_feed_103 ?_
  clear hP hD hS; try clear H
  intro H locs hP hD hS
  have hPx := hP; have hDx := hD
  obtain ⟨f_72, hPx, hDx⟩ : ∃ g : Nat → Int32, va_P (dC, dI) vwCl [(h0, .inr (15, fs_66)), (qfed, .inl (ke, 200, .inl g))] H ∧ va_D A [(h0, .inr (15, fs_66)), (qfed, .inl (ke, 200, .inl g))] := ⟨_, hP, hD⟩
  replace hP := hPx; replace hD := hDx; clear hPx hDx
  replace hP : va_P (dC, dI) vwCl [(h0, .inr (15, fs_66)), (qfed, .inl (ke, 200, .inl f_72))] H := hP
  replace hD : va_D A [(h0, .inr (15, fs_66)), (qfed, .inl (ke, 200, .inl f_72))] := hD
  refine lv_aload_n hx hb dX15_feed_104 rfl (lv_at hl 2 rfl) ?_
  refine lv_dup hx hb dX15_feed_105 rfl ?_
  refine va_get (D := (dC, dI)) (ci := 15) (v := .int 8) (C := RX15) (T := TX15) (N := 89) hx hb hts (in_m_feed_X15) hown hK hP 0 rfl rfl 18 (by decide) (hts (.fieldLink RX15 299 "MotionSignsModel" "tape" "I") (List.mem_of_getElem? (i := 2) rfl)) (fun _ h9 => h9) (mF.get hF_h0 0 rfl) dX15_feed_106 ?_
  refine lv_iconst (v := 1) hx hb dX15_feed_109 (by decide) ?_
  refine lv_iadd hx hb dX15_feed_110 ?_
  refine lv_topi (fun v_73 ev_73 => ?_)
  have ev_73 : v_73 = 9 := ev_73.trans (by decide)
  subst ev_73
  refine va_put (D := (dC, dI)) (ci := 15) (v := .int 9) (ty := .int) (C := RX15) (T := TX15) (N := 89) hx hb hts (in_m_feed_X15) tyX15 tyX15_ok nmX15 hown hK hP hD hS 0 rfl rfl 18 (by decide) (hts (.fieldLink RX15 299 "MotionSignsModel" "tape" "I") (List.mem_of_getElem? (i := 2) rfl)) (fun _ h9 => h9) rfl (tyX15_ok 18 (by decide)) rfl rfl (mF.lt hF_h0 (by decide)) dX15_feed_111 ?_
  clear hP hD hS; try clear H
  intro H locs hP hD hS
  have hF0 := mF.sub (L' := [(0, .int 0), (19, .int 0), (20, .int (-1)), (21, .int 0), (22, .int 0), (23, .int 0), (24, .int 0), (25, .int 0), (27, .int 0), (28, .int 0), (29, .int 0), (35, .int 0), (17, .int (-1)), (26, .ref qfed), (30, .ref qf), (31, .ref qfd), (33, .ref qs), (36, .ref qk)]) hF_h0 [1, 2, 3, 4, 5, 6, 7, 8, 9, 10, 11, 12, 13, 14, 15, 16, 17, 18] rfl
  have hF1 := mF.put hF0 18 (.int 9) (by decide) rfl
  replace hP : va_P (dC, dI) vwCl [(h0, .inr (15, (fs_66.set 18 (.int 9)))), (qfed, .inl (ke, 200, .inl f_72))] H := hP
  replace hD : va_D A [(h0, .inr (15, (fs_66.set 18 (.int 9)))), (qfed, .inl (ke, 200, .inl f_72))] := hD
  generalize fs_66.set 18 (.int 9) = fs_74 at hP hD hF1
  replace hF_h0 : mF 89 [(18, .int 9), (0, .int 0), (19, .int 0), (20, .int (-1)), (21, .int 0), (22, .int 0), (23, .int 0), (24, .int 0), (25, .int 0), (27, .int 0), (28, .int 0), (29, .int 0), (35, .int 0), (17, .int (-1)), (26, .ref qfed), (30, .ref qf), (31, .ref qfd), (33, .ref qs), (36, .ref qk)] fs_74 := hF1
  clear hF1 hF0
  replace hP : va_P (dC, dI) vwCl [(h0, .inr (15, fs_74)), (qfed, .inl (ke, 200, .inl f_72))] H := hP
  replace hD : va_D A [(h0, .inr (15, fs_74)), (qfed, .inl (ke, 200, .inl f_72))] := hD
  refine lv_iinc (v := 9) (lv' := [(6, .int 9), (7, .int x2), (0, .ref h0), (1, .int x0), (2, .int x1), (3, .int x2), (4, .int x3), (5, .int x4)]) hx hb dX15_feed_114 hl (k := 1) rfl (by decide) (by decide) rfl (fun ls hl => ?_)
  refine lv_goto (tgt := 23) hx hb dX15_feed_117 (by decide) ?_
  refine lv_iload hx hb dX15_feed_23 (lv_at hl 0 rfl) ?_
  refine lv_bipush (v := 20) hx hb dX15_feed_25 (by decide) ?_
  refine lv_icmp_ge (tgt := 120) hx hb dX15_feed_27 (by decide) (fun hc => absurd hc (by decide)) (fun _ => ?_)
  refine lv_iload hx hb dX15_feed_30 (lv_at hl 0 rfl) ?_
  refine lv_iconst (v := 4) hx hb dX15_feed_32 (by decide) ?_
  refine lv_icmp_ge (tgt := 40) hx hb dX15_feed_33 (by decide) (fun _ => ?_) (fun hc => absurd (by decide) hc)
  refine lv_iload hx hb dX15_feed_40 (lv_at hl 0 rfl) ?_
  refine lv_bipush (v := 8) hx hb dX15_feed_42 (by decide) ?_
  refine lv_icmp_ge (tgt := 51) hx hb dX15_feed_44 (by decide) (fun _ => ?_) (fun hc => absurd (by decide) hc)
  refine lv_iload hx hb dX15_feed_51 (lv_at hl 0 rfl) ?_
  refine lv_bipush (v := 12) hx hb dX15_feed_53 (by decide) ?_
  refine lv_icmp_ge (tgt := 62) hx hb dX15_feed_55 (by decide) (fun hc => absurd hc (by decide)) (fun _ => ?_)
  refine lv_iload_n hx hb dX15_feed_58 rfl (lv_at hl 5 rfl) ?_
  refine lv_goto (tgt := 76) hx hb dX15_feed_59 (by decide) ?_
  refine lv_istore (lv' := [(7, .int x2), (6, .int 9), (0, .ref h0), (1, .int x0), (2, .int x1), (3, .int x2), (4, .int x3), (5, .int x4)]) hx hb dX15_feed_76 hl (by decide) rfl (fun ls hl => ?_)
  refine lv_aload_n hx hb dX15_feed_78 rfl (lv_at hl 2 rfl) ?_
  refine va_get (D := (dC, dI)) (ci := 15) (v := .ref qfed) (C := RX15) (T := TX15) (N := 89) hx hb hts (in_m_feed_X15) hown hK hP 0 rfl rfl 26 (by decide) (hts (.fieldLink RX15 124 "MotionSignsModel" "fed" "[I") (List.mem_of_getElem? (i := 3) rfl)) (fun _ h9 => h9) (mF.get hF_h0 14 rfl) dX15_feed_79 ?_
  refine lv_aload_n hx hb dX15_feed_82 rfl (lv_at hl 2 rfl) ?_
  refine va_get (D := (dC, dI)) (ci := 15) (v := .int 9) (C := RX15) (T := TX15) (N := 89) hx hb hts (in_m_feed_X15) hown hK hP 0 rfl rfl 18 (by decide) (hts (.fieldLink RX15 299 "MotionSignsModel" "tape" "I") (List.mem_of_getElem? (i := 2) rfl)) (fun _ h9 => h9) (mF.get hF_h0 0 rfl) dX15_feed_83 ?_
  refine lv_iload hx hb dX15_feed_86 (lv_at hl 0 rfl) ?_
  refine lv_bipush (v := 24) hx hb dX15_feed_88 (by decide) ?_
  refine lv_bipush (v := 8) hx hb dX15_feed_90 (by decide) ?_
  refine lv_iload hx hb dX15_feed_92 (lv_at hl 1 rfl) ?_
  refine lv_iconst (v := 4) hx hb dX15_feed_94 (by decide) ?_
  refine lv_irem hx hb dX15_feed_95 (by decide) ?_
  refine lv_topi (fun v_75 ev_75 => ?_)
  have ev_75 : v_75 = 1 := ev_75.trans (by decide)
  subst ev_75
  refine lv_imul hx hb dX15_feed_96 ?_
  refine lv_topi (fun v_76 ev_76 => ?_)
  have ev_76 : v_76 = 8 := ev_76.trans (by decide)
  subst ev_76
  refine lv_isub hx hb dX15_feed_97 ?_
  refine lv_topi (fun v_77 ev_77 => ?_)
  have ev_77 : v_77 = 16 := ev_77.trans (by decide)
  subst ev_77
  refine lv_ishr hx hb dX15_feed_98 ?_
  refine lv_topi (fun v_78 ev_78 => ?_)
  refine lv_sipush (v := 255) hx hb dX15_feed_99 (by decide) ?_
  refine lv_iand hx hb dX15_feed_102 ?_
  refine lv_topi (fun v_79 ev_79 => ?_)
  refine va_iast hx hb hK hP hD hS 1 0 rfl rfl (by exact fun h => by rcases h with h | h <;> revert h <;> decide) dX15_feed_103 ?_
  clear hP hD hS; try clear H
  intro H locs hP hD hS
  have hPx := hP; have hDx := hD
  obtain ⟨f_80, hPx, hDx⟩ : ∃ g : Nat → Int32, va_P (dC, dI) vwCl [(h0, .inr (15, fs_74)), (qfed, .inl (ke, 200, .inl g))] H ∧ va_D A [(h0, .inr (15, fs_74)), (qfed, .inl (ke, 200, .inl g))] := ⟨_, hP, hD⟩
  replace hP := hPx; replace hD := hDx; clear hPx hDx
  replace hP : va_P (dC, dI) vwCl [(h0, .inr (15, fs_74)), (qfed, .inl (ke, 200, .inl f_80))] H := hP
  replace hD : va_D A [(h0, .inr (15, fs_74)), (qfed, .inl (ke, 200, .inl f_80))] := hD
  refine lv_aload_n hx hb dX15_feed_104 rfl (lv_at hl 2 rfl) ?_
  refine lv_dup hx hb dX15_feed_105 rfl ?_
  refine va_get (D := (dC, dI)) (ci := 15) (v := .int 9) (C := RX15) (T := TX15) (N := 89) hx hb hts (in_m_feed_X15) hown hK hP 0 rfl rfl 18 (by decide) (hts (.fieldLink RX15 299 "MotionSignsModel" "tape" "I") (List.mem_of_getElem? (i := 2) rfl)) (fun _ h9 => h9) (mF.get hF_h0 0 rfl) dX15_feed_106 ?_
  refine lv_iconst (v := 1) hx hb dX15_feed_109 (by decide) ?_
  refine lv_iadd hx hb dX15_feed_110 ?_
  refine lv_topi (fun v_81 ev_81 => ?_)
  have ev_81 : v_81 = 10 := ev_81.trans (by decide)
  subst ev_81
  refine va_put (D := (dC, dI)) (ci := 15) (v := .int 10) (ty := .int) (C := RX15) (T := TX15) (N := 89) hx hb hts (in_m_feed_X15) tyX15 tyX15_ok nmX15 hown hK hP hD hS 0 rfl rfl 18 (by decide) (hts (.fieldLink RX15 299 "MotionSignsModel" "tape" "I") (List.mem_of_getElem? (i := 2) rfl)) (fun _ h9 => h9) rfl (tyX15_ok 18 (by decide)) rfl rfl (mF.lt hF_h0 (by decide)) dX15_feed_111 ?_
  clear hP hD hS; try clear H
  intro H locs hP hD hS
  have hF0 := mF.sub (L' := [(0, .int 0), (19, .int 0), (20, .int (-1)), (21, .int 0), (22, .int 0), (23, .int 0), (24, .int 0), (25, .int 0), (27, .int 0), (28, .int 0), (29, .int 0), (35, .int 0), (17, .int (-1)), (26, .ref qfed), (30, .ref qf), (31, .ref qfd), (33, .ref qs), (36, .ref qk)]) hF_h0 [1, 2, 3, 4, 5, 6, 7, 8, 9, 10, 11, 12, 13, 14, 15, 16, 17, 18] rfl
  have hF1 := mF.put hF0 18 (.int 10) (by decide) rfl
  replace hP : va_P (dC, dI) vwCl [(h0, .inr (15, (fs_74.set 18 (.int 10)))), (qfed, .inl (ke, 200, .inl f_80))] H := hP
  replace hD : va_D A [(h0, .inr (15, (fs_74.set 18 (.int 10)))), (qfed, .inl (ke, 200, .inl f_80))] := hD
  generalize fs_74.set 18 (.int 10) = fs_82 at hP hD hF1
  replace hF_h0 : mF 89 [(18, .int 10), (0, .int 0), (19, .int 0), (20, .int (-1)), (21, .int 0), (22, .int 0), (23, .int 0), (24, .int 0), (25, .int 0), (27, .int 0), (28, .int 0), (29, .int 0), (35, .int 0), (17, .int (-1)), (26, .ref qfed), (30, .ref qf), (31, .ref qfd), (33, .ref qs), (36, .ref qk)] fs_82 := hF1
  clear hF1 hF0
  replace hP : va_P (dC, dI) vwCl [(h0, .inr (15, fs_82)), (qfed, .inl (ke, 200, .inl f_80))] H := hP
  replace hD : va_D A [(h0, .inr (15, fs_82)), (qfed, .inl (ke, 200, .inl f_80))] := hD
  refine lv_iinc (v := 10) (lv' := [(6, .int 10), (7, .int x2), (0, .ref h0), (1, .int x0), (2, .int x1), (3, .int x2), (4, .int x3), (5, .int x4)]) hx hb dX15_feed_114 hl (k := 1) rfl (by decide) (by decide) rfl (fun ls hl => ?_)
  refine lv_goto (tgt := 23) hx hb dX15_feed_117 (by decide) ?_
  refine lv_iload hx hb dX15_feed_23 (lv_at hl 0 rfl) ?_
  refine lv_bipush (v := 20) hx hb dX15_feed_25 (by decide) ?_
  refine lv_icmp_ge (tgt := 120) hx hb dX15_feed_27 (by decide) (fun hc => absurd hc (by decide)) (fun _ => ?_)
  refine lv_iload hx hb dX15_feed_30 (lv_at hl 0 rfl) ?_
  refine lv_iconst (v := 4) hx hb dX15_feed_32 (by decide) ?_
  refine lv_icmp_ge (tgt := 40) hx hb dX15_feed_33 (by decide) (fun _ => ?_) (fun hc => absurd (by decide) hc)
  refine lv_iload hx hb dX15_feed_40 (lv_at hl 0 rfl) ?_
  refine lv_bipush (v := 8) hx hb dX15_feed_42 (by decide) ?_
  refine lv_icmp_ge (tgt := 51) hx hb dX15_feed_44 (by decide) (fun _ => ?_) (fun hc => absurd (by decide) hc)
  refine lv_iload hx hb dX15_feed_51 (lv_at hl 0 rfl) ?_
  refine lv_bipush (v := 12) hx hb dX15_feed_53 (by decide) ?_
  refine lv_icmp_ge (tgt := 62) hx hb dX15_feed_55 (by decide) (fun hc => absurd hc (by decide)) (fun _ => ?_)
  refine lv_iload_n hx hb dX15_feed_58 rfl (lv_at hl 5 rfl) ?_
  refine lv_goto (tgt := 76) hx hb dX15_feed_59 (by decide) ?_
  refine lv_istore (lv' := [(7, .int x2), (6, .int 10), (0, .ref h0), (1, .int x0), (2, .int x1), (3, .int x2), (4, .int x3), (5, .int x4)]) hx hb dX15_feed_76 hl (by decide) rfl (fun ls hl => ?_)
  refine lv_aload_n hx hb dX15_feed_78 rfl (lv_at hl 2 rfl) ?_
  refine va_get (D := (dC, dI)) (ci := 15) (v := .ref qfed) (C := RX15) (T := TX15) (N := 89) hx hb hts (in_m_feed_X15) hown hK hP 0 rfl rfl 26 (by decide) (hts (.fieldLink RX15 124 "MotionSignsModel" "fed" "[I") (List.mem_of_getElem? (i := 3) rfl)) (fun _ h9 => h9) (mF.get hF_h0 14 rfl) dX15_feed_79 ?_
  refine lv_aload_n hx hb dX15_feed_82 rfl (lv_at hl 2 rfl) ?_
  refine va_get (D := (dC, dI)) (ci := 15) (v := .int 10) (C := RX15) (T := TX15) (N := 89) hx hb hts (in_m_feed_X15) hown hK hP 0 rfl rfl 18 (by decide) (hts (.fieldLink RX15 299 "MotionSignsModel" "tape" "I") (List.mem_of_getElem? (i := 2) rfl)) (fun _ h9 => h9) (mF.get hF_h0 0 rfl) dX15_feed_83 ?_
  refine lv_iload hx hb dX15_feed_86 (lv_at hl 0 rfl) ?_
  refine lv_bipush (v := 24) hx hb dX15_feed_88 (by decide) ?_
  refine lv_bipush (v := 8) hx hb dX15_feed_90 (by decide) ?_
  refine lv_iload hx hb dX15_feed_92 (lv_at hl 1 rfl) ?_
  refine lv_iconst (v := 4) hx hb dX15_feed_94 (by decide) ?_
  refine lv_irem hx hb dX15_feed_95 (by decide) ?_
  refine lv_topi (fun v_83 ev_83 => ?_)
  have ev_83 : v_83 = 2 := ev_83.trans (by decide)
  subst ev_83
  refine lv_imul hx hb dX15_feed_96 ?_
  refine lv_topi (fun v_84 ev_84 => ?_)
  have ev_84 : v_84 = 16 := ev_84.trans (by decide)
  subst ev_84
  refine lv_isub hx hb dX15_feed_97 ?_
  refine lv_topi (fun v_85 ev_85 => ?_)
  have ev_85 : v_85 = 8 := ev_85.trans (by decide)
  subst ev_85
  refine lv_ishr hx hb dX15_feed_98 ?_
  refine lv_topi (fun v_86 ev_86 => ?_)
  refine lv_sipush (v := 255) hx hb dX15_feed_99 (by decide) ?_
  refine lv_iand hx hb dX15_feed_102 ?_
  refine lv_topi (fun v_87 ev_87 => ?_)
  refine va_iast hx hb hK hP hD hS 1 0 rfl rfl (by exact fun h => by rcases h with h | h <;> revert h <;> decide) dX15_feed_103 ?_
  clear hP hD hS; try clear H
  intro H locs hP hD hS
  have hPx := hP; have hDx := hD
  obtain ⟨f_88, hPx, hDx⟩ : ∃ g : Nat → Int32, va_P (dC, dI) vwCl [(h0, .inr (15, fs_82)), (qfed, .inl (ke, 200, .inl g))] H ∧ va_D A [(h0, .inr (15, fs_82)), (qfed, .inl (ke, 200, .inl g))] := ⟨_, hP, hD⟩
  replace hP := hPx; replace hD := hDx; clear hPx hDx
  replace hP : va_P (dC, dI) vwCl [(h0, .inr (15, fs_82)), (qfed, .inl (ke, 200, .inl f_88))] H := hP
  replace hD : va_D A [(h0, .inr (15, fs_82)), (qfed, .inl (ke, 200, .inl f_88))] := hD
  refine lv_aload_n hx hb dX15_feed_104 rfl (lv_at hl 2 rfl) ?_
  refine lv_dup hx hb dX15_feed_105 rfl ?_
  refine va_get (D := (dC, dI)) (ci := 15) (v := .int 10) (C := RX15) (T := TX15) (N := 89) hx hb hts (in_m_feed_X15) hown hK hP 0 rfl rfl 18 (by decide) (hts (.fieldLink RX15 299 "MotionSignsModel" "tape" "I") (List.mem_of_getElem? (i := 2) rfl)) (fun _ h9 => h9) (mF.get hF_h0 0 rfl) dX15_feed_106 ?_
  refine lv_iconst (v := 1) hx hb dX15_feed_109 (by decide) ?_
  refine lv_iadd hx hb dX15_feed_110 ?_
  refine lv_topi (fun v_89 ev_89 => ?_)
  have ev_89 : v_89 = 11 := ev_89.trans (by decide)
  subst ev_89
  refine va_put (D := (dC, dI)) (ci := 15) (v := .int 11) (ty := .int) (C := RX15) (T := TX15) (N := 89) hx hb hts (in_m_feed_X15) tyX15 tyX15_ok nmX15 hown hK hP hD hS 0 rfl rfl 18 (by decide) (hts (.fieldLink RX15 299 "MotionSignsModel" "tape" "I") (List.mem_of_getElem? (i := 2) rfl)) (fun _ h9 => h9) rfl (tyX15_ok 18 (by decide)) rfl rfl (mF.lt hF_h0 (by decide)) dX15_feed_111 ?_
  clear hP hD hS; try clear H
  intro H locs hP hD hS
  have hF0 := mF.sub (L' := [(0, .int 0), (19, .int 0), (20, .int (-1)), (21, .int 0), (22, .int 0), (23, .int 0), (24, .int 0), (25, .int 0), (27, .int 0), (28, .int 0), (29, .int 0), (35, .int 0), (17, .int (-1)), (26, .ref qfed), (30, .ref qf), (31, .ref qfd), (33, .ref qs), (36, .ref qk)]) hF_h0 [1, 2, 3, 4, 5, 6, 7, 8, 9, 10, 11, 12, 13, 14, 15, 16, 17, 18] rfl
  have hF1 := mF.put hF0 18 (.int 11) (by decide) rfl
  replace hP : va_P (dC, dI) vwCl [(h0, .inr (15, (fs_82.set 18 (.int 11)))), (qfed, .inl (ke, 200, .inl f_88))] H := hP
  replace hD : va_D A [(h0, .inr (15, (fs_82.set 18 (.int 11)))), (qfed, .inl (ke, 200, .inl f_88))] := hD
  generalize fs_82.set 18 (.int 11) = fs_90 at hP hD hF1
  replace hF_h0 : mF 89 [(18, .int 11), (0, .int 0), (19, .int 0), (20, .int (-1)), (21, .int 0), (22, .int 0), (23, .int 0), (24, .int 0), (25, .int 0), (27, .int 0), (28, .int 0), (29, .int 0), (35, .int 0), (17, .int (-1)), (26, .ref qfed), (30, .ref qf), (31, .ref qfd), (33, .ref qs), (36, .ref qk)] fs_90 := hF1
  clear hF1 hF0
  replace hP : va_P (dC, dI) vwCl [(h0, .inr (15, fs_90)), (qfed, .inl (ke, 200, .inl f_88))] H := hP
  replace hD : va_D A [(h0, .inr (15, fs_90)), (qfed, .inl (ke, 200, .inl f_88))] := hD
  refine lv_iinc (v := 11) (lv' := [(6, .int 11), (7, .int x2), (0, .ref h0), (1, .int x0), (2, .int x1), (3, .int x2), (4, .int x3), (5, .int x4)]) hx hb dX15_feed_114 hl (k := 1) rfl (by decide) (by decide) rfl (fun ls hl => ?_)
  refine lv_goto (tgt := 23) hx hb dX15_feed_117 (by decide) ?_
  refine lv_iload hx hb dX15_feed_23 (lv_at hl 0 rfl) ?_
  refine lv_bipush (v := 20) hx hb dX15_feed_25 (by decide) ?_
  refine lv_icmp_ge (tgt := 120) hx hb dX15_feed_27 (by decide) (fun hc => absurd hc (by decide)) (fun _ => ?_)
  refine lv_iload hx hb dX15_feed_30 (lv_at hl 0 rfl) ?_
  refine lv_iconst (v := 4) hx hb dX15_feed_32 (by decide) ?_
  refine lv_icmp_ge (tgt := 40) hx hb dX15_feed_33 (by decide) (fun _ => ?_) (fun hc => absurd (by decide) hc)
  refine lv_iload hx hb dX15_feed_40 (lv_at hl 0 rfl) ?_
  refine lv_bipush (v := 8) hx hb dX15_feed_42 (by decide) ?_
  refine lv_icmp_ge (tgt := 51) hx hb dX15_feed_44 (by decide) (fun _ => ?_) (fun hc => absurd (by decide) hc)
  refine lv_iload hx hb dX15_feed_51 (lv_at hl 0 rfl) ?_
  refine lv_bipush (v := 12) hx hb dX15_feed_53 (by decide) ?_
  refine lv_icmp_ge (tgt := 62) hx hb dX15_feed_55 (by decide) (fun hc => absurd hc (by decide)) (fun _ => ?_)
  refine lv_iload_n hx hb dX15_feed_58 rfl (lv_at hl 5 rfl) ?_
  refine lv_goto (tgt := 76) hx hb dX15_feed_59 (by decide) ?_
  refine lv_istore (lv' := [(7, .int x2), (6, .int 11), (0, .ref h0), (1, .int x0), (2, .int x1), (3, .int x2), (4, .int x3), (5, .int x4)]) hx hb dX15_feed_76 hl (by decide) rfl (fun ls hl => ?_)
  refine lv_aload_n hx hb dX15_feed_78 rfl (lv_at hl 2 rfl) ?_
  refine va_get (D := (dC, dI)) (ci := 15) (v := .ref qfed) (C := RX15) (T := TX15) (N := 89) hx hb hts (in_m_feed_X15) hown hK hP 0 rfl rfl 26 (by decide) (hts (.fieldLink RX15 124 "MotionSignsModel" "fed" "[I") (List.mem_of_getElem? (i := 3) rfl)) (fun _ h9 => h9) (mF.get hF_h0 14 rfl) dX15_feed_79 ?_
  refine lv_aload_n hx hb dX15_feed_82 rfl (lv_at hl 2 rfl) ?_
  refine va_get (D := (dC, dI)) (ci := 15) (v := .int 11) (C := RX15) (T := TX15) (N := 89) hx hb hts (in_m_feed_X15) hown hK hP 0 rfl rfl 18 (by decide) (hts (.fieldLink RX15 299 "MotionSignsModel" "tape" "I") (List.mem_of_getElem? (i := 2) rfl)) (fun _ h9 => h9) (mF.get hF_h0 0 rfl) dX15_feed_83 ?_
  refine lv_iload hx hb dX15_feed_86 (lv_at hl 0 rfl) ?_
  refine lv_bipush (v := 24) hx hb dX15_feed_88 (by decide) ?_
  refine lv_bipush (v := 8) hx hb dX15_feed_90 (by decide) ?_
  refine lv_iload hx hb dX15_feed_92 (lv_at hl 1 rfl) ?_
  refine lv_iconst (v := 4) hx hb dX15_feed_94 (by decide) ?_
  refine lv_irem hx hb dX15_feed_95 (by decide) ?_
  refine lv_topi (fun v_91 ev_91 => ?_)
  have ev_91 : v_91 = 3 := ev_91.trans (by decide)
  subst ev_91
  refine lv_imul hx hb dX15_feed_96 ?_
  refine lv_topi (fun v_92 ev_92 => ?_)
  have ev_92 : v_92 = 24 := ev_92.trans (by decide)
  subst ev_92
  refine lv_isub hx hb dX15_feed_97 ?_
  refine lv_topi (fun v_93 ev_93 => ?_)
  have ev_93 : v_93 = 0 := ev_93.trans (by decide)
  subst ev_93
  refine lv_ishr hx hb dX15_feed_98 ?_
  refine lv_topi (fun v_94 ev_94 => ?_)
  refine lv_sipush (v := 255) hx hb dX15_feed_99 (by decide) ?_
  refine lv_iand hx hb dX15_feed_102 ?_
  refine lv_topi (fun v_95 ev_95 => ?_)
  refine va_iast hx hb hK hP hD hS 1 0 rfl rfl (by exact fun h => by rcases h with h | h <;> revert h <;> decide) dX15_feed_103 ?_
  clear hP hD hS; try clear H
  intro H locs hP hD hS
  have hPx := hP; have hDx := hD
  obtain ⟨f_96, hPx, hDx⟩ : ∃ g : Nat → Int32, va_P (dC, dI) vwCl [(h0, .inr (15, fs_90)), (qfed, .inl (ke, 200, .inl g))] H ∧ va_D A [(h0, .inr (15, fs_90)), (qfed, .inl (ke, 200, .inl g))] := ⟨_, hP, hD⟩
  replace hP := hPx; replace hD := hDx; clear hPx hDx
  replace hP : va_P (dC, dI) vwCl [(h0, .inr (15, fs_90)), (qfed, .inl (ke, 200, .inl f_96))] H := hP
  replace hD : va_D A [(h0, .inr (15, fs_90)), (qfed, .inl (ke, 200, .inl f_96))] := hD
  refine lv_aload_n hx hb dX15_feed_104 rfl (lv_at hl 2 rfl) ?_
  refine lv_dup hx hb dX15_feed_105 rfl ?_
  refine va_get (D := (dC, dI)) (ci := 15) (v := .int 11) (C := RX15) (T := TX15) (N := 89) hx hb hts (in_m_feed_X15) hown hK hP 0 rfl rfl 18 (by decide) (hts (.fieldLink RX15 299 "MotionSignsModel" "tape" "I") (List.mem_of_getElem? (i := 2) rfl)) (fun _ h9 => h9) (mF.get hF_h0 0 rfl) dX15_feed_106 ?_
  refine lv_iconst (v := 1) hx hb dX15_feed_109 (by decide) ?_
  refine lv_iadd hx hb dX15_feed_110 ?_
  refine lv_topi (fun v_97 ev_97 => ?_)
  have ev_97 : v_97 = 12 := ev_97.trans (by decide)
  subst ev_97
  refine va_put (D := (dC, dI)) (ci := 15) (v := .int 12) (ty := .int) (C := RX15) (T := TX15) (N := 89) hx hb hts (in_m_feed_X15) tyX15 tyX15_ok nmX15 hown hK hP hD hS 0 rfl rfl 18 (by decide) (hts (.fieldLink RX15 299 "MotionSignsModel" "tape" "I") (List.mem_of_getElem? (i := 2) rfl)) (fun _ h9 => h9) rfl (tyX15_ok 18 (by decide)) rfl rfl (mF.lt hF_h0 (by decide)) dX15_feed_111 ?_
  clear hP hD hS; try clear H
  intro H locs hP hD hS
  have hF0 := mF.sub (L' := [(0, .int 0), (19, .int 0), (20, .int (-1)), (21, .int 0), (22, .int 0), (23, .int 0), (24, .int 0), (25, .int 0), (27, .int 0), (28, .int 0), (29, .int 0), (35, .int 0), (17, .int (-1)), (26, .ref qfed), (30, .ref qf), (31, .ref qfd), (33, .ref qs), (36, .ref qk)]) hF_h0 [1, 2, 3, 4, 5, 6, 7, 8, 9, 10, 11, 12, 13, 14, 15, 16, 17, 18] rfl
  have hF1 := mF.put hF0 18 (.int 12) (by decide) rfl
  replace hP : va_P (dC, dI) vwCl [(h0, .inr (15, (fs_90.set 18 (.int 12)))), (qfed, .inl (ke, 200, .inl f_96))] H := hP
  replace hD : va_D A [(h0, .inr (15, (fs_90.set 18 (.int 12)))), (qfed, .inl (ke, 200, .inl f_96))] := hD
  generalize fs_90.set 18 (.int 12) = fs_98 at hP hD hF1
  replace hF_h0 : mF 89 [(18, .int 12), (0, .int 0), (19, .int 0), (20, .int (-1)), (21, .int 0), (22, .int 0), (23, .int 0), (24, .int 0), (25, .int 0), (27, .int 0), (28, .int 0), (29, .int 0), (35, .int 0), (17, .int (-1)), (26, .ref qfed), (30, .ref qf), (31, .ref qfd), (33, .ref qs), (36, .ref qk)] fs_98 := hF1
  clear hF1 hF0
  replace hP : va_P (dC, dI) vwCl [(h0, .inr (15, fs_98)), (qfed, .inl (ke, 200, .inl f_96))] H := hP
  replace hD : va_D A [(h0, .inr (15, fs_98)), (qfed, .inl (ke, 200, .inl f_96))] := hD
  refine lv_iinc (v := 12) (lv' := [(6, .int 12), (7, .int x2), (0, .ref h0), (1, .int x0), (2, .int x1), (3, .int x2), (4, .int x3), (5, .int x4)]) hx hb dX15_feed_114 hl (k := 1) rfl (by decide) (by decide) rfl (fun ls hl => ?_)
  refine lv_goto (tgt := 23) hx hb dX15_feed_117 (by decide) ?_
  refine lv_iload hx hb dX15_feed_23 (lv_at hl 0 rfl) ?_
  refine lv_bipush (v := 20) hx hb dX15_feed_25 (by decide) ?_
  refine lv_icmp_ge (tgt := 120) hx hb dX15_feed_27 (by decide) (fun hc => absurd hc (by decide)) (fun _ => ?_)
  refine lv_iload hx hb dX15_feed_30 (lv_at hl 0 rfl) ?_
  refine lv_iconst (v := 4) hx hb dX15_feed_32 (by decide) ?_
  refine lv_icmp_ge (tgt := 40) hx hb dX15_feed_33 (by decide) (fun _ => ?_) (fun hc => absurd (by decide) hc)
  refine lv_iload hx hb dX15_feed_40 (lv_at hl 0 rfl) ?_
  refine lv_bipush (v := 8) hx hb dX15_feed_42 (by decide) ?_
  refine lv_icmp_ge (tgt := 51) hx hb dX15_feed_44 (by decide) (fun _ => ?_) (fun hc => absurd (by decide) hc)
  refine lv_iload hx hb dX15_feed_51 (lv_at hl 0 rfl) ?_
  refine lv_bipush (v := 12) hx hb dX15_feed_53 (by decide) ?_
  refine lv_icmp_ge (tgt := 62) hx hb dX15_feed_55 (by decide) (fun _ => ?_) (fun hc => absurd (by decide) hc)
  refine lv_iload hx hb dX15_feed_62 (lv_at hl 0 rfl) ?_
  refine lv_bipush (v := 16) hx hb dX15_feed_64 (by decide) ?_
  refine lv_icmp_ge (tgt := 74) hx hb dX15_feed_66 (by decide) (fun hc => absurd hc (by decide)) (fun _ => ?_)
  refine lv_iload hx hb dX15_feed_69 (lv_at hl 6 rfl) ?_
  refine lv_goto (tgt := 76) hx hb dX15_feed_71 (by decide) ?_
  refine lv_istore (lv' := [(7, .int x3), (6, .int 12), (0, .ref h0), (1, .int x0), (2, .int x1), (3, .int x2), (4, .int x3), (5, .int x4)]) hx hb dX15_feed_76 hl (by decide) rfl (fun ls hl => ?_)
  refine lv_aload_n hx hb dX15_feed_78 rfl (lv_at hl 2 rfl) ?_
  refine va_get (D := (dC, dI)) (ci := 15) (v := .ref qfed) (C := RX15) (T := TX15) (N := 89) hx hb hts (in_m_feed_X15) hown hK hP 0 rfl rfl 26 (by decide) (hts (.fieldLink RX15 124 "MotionSignsModel" "fed" "[I") (List.mem_of_getElem? (i := 3) rfl)) (fun _ h9 => h9) (mF.get hF_h0 14 rfl) dX15_feed_79 ?_
  refine lv_aload_n hx hb dX15_feed_82 rfl (lv_at hl 2 rfl) ?_
  refine va_get (D := (dC, dI)) (ci := 15) (v := .int 12) (C := RX15) (T := TX15) (N := 89) hx hb hts (in_m_feed_X15) hown hK hP 0 rfl rfl 18 (by decide) (hts (.fieldLink RX15 299 "MotionSignsModel" "tape" "I") (List.mem_of_getElem? (i := 2) rfl)) (fun _ h9 => h9) (mF.get hF_h0 0 rfl) dX15_feed_83 ?_
  refine lv_iload hx hb dX15_feed_86 (lv_at hl 0 rfl) ?_
  refine lv_bipush (v := 24) hx hb dX15_feed_88 (by decide) ?_
  refine lv_bipush (v := 8) hx hb dX15_feed_90 (by decide) ?_
  refine lv_iload hx hb dX15_feed_92 (lv_at hl 1 rfl) ?_
  refine lv_iconst (v := 4) hx hb dX15_feed_94 (by decide) ?_
  refine lv_irem hx hb dX15_feed_95 (by decide) ?_
  refine lv_topi (fun v_99 ev_99 => ?_)
  have ev_99 : v_99 = 0 := ev_99.trans (by decide)
  subst ev_99
  refine lv_imul hx hb dX15_feed_96 ?_
  refine lv_topi (fun v_100 ev_100 => ?_)
  have ev_100 : v_100 = 0 := ev_100.trans (by decide)
  subst ev_100
  refine lv_isub hx hb dX15_feed_97 ?_
  refine lv_topi (fun v_101 ev_101 => ?_)
  have ev_101 : v_101 = 24 := ev_101.trans (by decide)
  subst ev_101
  refine lv_ishr hx hb dX15_feed_98 ?_
  refine lv_topi (fun v_102 ev_102 => ?_)
  refine lv_sipush (v := 255) hx hb dX15_feed_99 (by decide) ?_
  refine lv_iand hx hb dX15_feed_102 ?_
  refine lv_topi (fun v_103 ev_103 => ?_)
  refine va_iast hx hb hK hP hD hS 1 0 rfl rfl (by exact fun h => by rcases h with h | h <;> revert h <;> decide) dX15_feed_103 ?_
  clear hP hD hS; try clear H
  intro H locs hP hD hS
  have hPx := hP; have hDx := hD
  obtain ⟨f_104, hPx, hDx⟩ : ∃ g : Nat → Int32, va_P (dC, dI) vwCl [(h0, .inr (15, fs_98)), (qfed, .inl (ke, 200, .inl g))] H ∧ va_D A [(h0, .inr (15, fs_98)), (qfed, .inl (ke, 200, .inl g))] := ⟨_, hP, hD⟩
  replace hP := hPx; replace hD := hDx; clear hPx hDx
  replace hP : va_P (dC, dI) vwCl [(h0, .inr (15, fs_98)), (qfed, .inl (ke, 200, .inl f_104))] H := hP
  replace hD : va_D A [(h0, .inr (15, fs_98)), (qfed, .inl (ke, 200, .inl f_104))] := hD
  refine lv_aload_n hx hb dX15_feed_104 rfl (lv_at hl 2 rfl) ?_
  refine lv_dup hx hb dX15_feed_105 rfl ?_
  refine va_get (D := (dC, dI)) (ci := 15) (v := .int 12) (C := RX15) (T := TX15) (N := 89) hx hb hts (in_m_feed_X15) hown hK hP 0 rfl rfl 18 (by decide) (hts (.fieldLink RX15 299 "MotionSignsModel" "tape" "I") (List.mem_of_getElem? (i := 2) rfl)) (fun _ h9 => h9) (mF.get hF_h0 0 rfl) dX15_feed_106 ?_
  refine lv_iconst (v := 1) hx hb dX15_feed_109 (by decide) ?_
  refine lv_iadd hx hb dX15_feed_110 ?_
  refine lv_topi (fun v_105 ev_105 => ?_)
  have ev_105 : v_105 = 13 := ev_105.trans (by decide)
  subst ev_105
  refine va_put (D := (dC, dI)) (ci := 15) (v := .int 13) (ty := .int) (C := RX15) (T := TX15) (N := 89) hx hb hts (in_m_feed_X15) tyX15 tyX15_ok nmX15 hown hK hP hD hS 0 rfl rfl 18 (by decide) (hts (.fieldLink RX15 299 "MotionSignsModel" "tape" "I") (List.mem_of_getElem? (i := 2) rfl)) (fun _ h9 => h9) rfl (tyX15_ok 18 (by decide)) rfl rfl (mF.lt hF_h0 (by decide)) dX15_feed_111 ?_
  clear hP hD hS; try clear H
  intro H locs hP hD hS
  have hF0 := mF.sub (L' := [(0, .int 0), (19, .int 0), (20, .int (-1)), (21, .int 0), (22, .int 0), (23, .int 0), (24, .int 0), (25, .int 0), (27, .int 0), (28, .int 0), (29, .int 0), (35, .int 0), (17, .int (-1)), (26, .ref qfed), (30, .ref qf), (31, .ref qfd), (33, .ref qs), (36, .ref qk)]) hF_h0 [1, 2, 3, 4, 5, 6, 7, 8, 9, 10, 11, 12, 13, 14, 15, 16, 17, 18] rfl
  have hF1 := mF.put hF0 18 (.int 13) (by decide) rfl
  replace hP : va_P (dC, dI) vwCl [(h0, .inr (15, (fs_98.set 18 (.int 13)))), (qfed, .inl (ke, 200, .inl f_104))] H := hP
  replace hD : va_D A [(h0, .inr (15, (fs_98.set 18 (.int 13)))), (qfed, .inl (ke, 200, .inl f_104))] := hD
  generalize fs_98.set 18 (.int 13) = fs_106 at hP hD hF1
  replace hF_h0 : mF 89 [(18, .int 13), (0, .int 0), (19, .int 0), (20, .int (-1)), (21, .int 0), (22, .int 0), (23, .int 0), (24, .int 0), (25, .int 0), (27, .int 0), (28, .int 0), (29, .int 0), (35, .int 0), (17, .int (-1)), (26, .ref qfed), (30, .ref qf), (31, .ref qfd), (33, .ref qs), (36, .ref qk)] fs_106 := hF1
  clear hF1 hF0
  replace hP : va_P (dC, dI) vwCl [(h0, .inr (15, fs_106)), (qfed, .inl (ke, 200, .inl f_104))] H := hP
  replace hD : va_D A [(h0, .inr (15, fs_106)), (qfed, .inl (ke, 200, .inl f_104))] := hD
  refine lv_iinc (v := 13) (lv' := [(6, .int 13), (7, .int x3), (0, .ref h0), (1, .int x0), (2, .int x1), (3, .int x2), (4, .int x3), (5, .int x4)]) hx hb dX15_feed_114 hl (k := 1) rfl (by decide) (by decide) rfl (fun ls hl => ?_)
  refine lv_goto (tgt := 23) hx hb dX15_feed_117 (by decide) ?_
  refine lv_iload hx hb dX15_feed_23 (lv_at hl 0 rfl) ?_
  refine lv_bipush (v := 20) hx hb dX15_feed_25 (by decide) ?_
  refine lv_icmp_ge (tgt := 120) hx hb dX15_feed_27 (by decide) (fun hc => absurd hc (by decide)) (fun _ => ?_)
  refine lv_iload hx hb dX15_feed_30 (lv_at hl 0 rfl) ?_
  refine lv_iconst (v := 4) hx hb dX15_feed_32 (by decide) ?_
  refine lv_icmp_ge (tgt := 40) hx hb dX15_feed_33 (by decide) (fun _ => ?_) (fun hc => absurd (by decide) hc)
  refine lv_iload hx hb dX15_feed_40 (lv_at hl 0 rfl) ?_
  refine lv_bipush (v := 8) hx hb dX15_feed_42 (by decide) ?_
  refine lv_icmp_ge (tgt := 51) hx hb dX15_feed_44 (by decide) (fun _ => ?_) (fun hc => absurd (by decide) hc)
  refine lv_iload hx hb dX15_feed_51 (lv_at hl 0 rfl) ?_
  refine lv_bipush (v := 12) hx hb dX15_feed_53 (by decide) ?_
  refine lv_icmp_ge (tgt := 62) hx hb dX15_feed_55 (by decide) (fun _ => ?_) (fun hc => absurd (by decide) hc)
  refine lv_iload hx hb dX15_feed_62 (lv_at hl 0 rfl) ?_
  refine lv_bipush (v := 16) hx hb dX15_feed_64 (by decide) ?_
  refine lv_icmp_ge (tgt := 74) hx hb dX15_feed_66 (by decide) (fun hc => absurd hc (by decide)) (fun _ => ?_)
  refine lv_iload hx hb dX15_feed_69 (lv_at hl 6 rfl) ?_
  refine lv_goto (tgt := 76) hx hb dX15_feed_71 (by decide) ?_
  refine lv_istore (lv' := [(7, .int x3), (6, .int 13), (0, .ref h0), (1, .int x0), (2, .int x1), (3, .int x2), (4, .int x3), (5, .int x4)]) hx hb dX15_feed_76 hl (by decide) rfl (fun ls hl => ?_)
  refine lv_aload_n hx hb dX15_feed_78 rfl (lv_at hl 2 rfl) ?_
  refine va_get (D := (dC, dI)) (ci := 15) (v := .ref qfed) (C := RX15) (T := TX15) (N := 89) hx hb hts (in_m_feed_X15) hown hK hP 0 rfl rfl 26 (by decide) (hts (.fieldLink RX15 124 "MotionSignsModel" "fed" "[I") (List.mem_of_getElem? (i := 3) rfl)) (fun _ h9 => h9) (mF.get hF_h0 14 rfl) dX15_feed_79 ?_
  refine lv_aload_n hx hb dX15_feed_82 rfl (lv_at hl 2 rfl) ?_
  refine va_get (D := (dC, dI)) (ci := 15) (v := .int 13) (C := RX15) (T := TX15) (N := 89) hx hb hts (in_m_feed_X15) hown hK hP 0 rfl rfl 18 (by decide) (hts (.fieldLink RX15 299 "MotionSignsModel" "tape" "I") (List.mem_of_getElem? (i := 2) rfl)) (fun _ h9 => h9) (mF.get hF_h0 0 rfl) dX15_feed_83 ?_
  refine lv_iload hx hb dX15_feed_86 (lv_at hl 0 rfl) ?_
  refine lv_bipush (v := 24) hx hb dX15_feed_88 (by decide) ?_
  refine lv_bipush (v := 8) hx hb dX15_feed_90 (by decide) ?_
  refine lv_iload hx hb dX15_feed_92 (lv_at hl 1 rfl) ?_
  refine lv_iconst (v := 4) hx hb dX15_feed_94 (by decide) ?_
  refine lv_irem hx hb dX15_feed_95 (by decide) ?_
  refine lv_topi (fun v_107 ev_107 => ?_)
  have ev_107 : v_107 = 1 := ev_107.trans (by decide)
  subst ev_107
  refine lv_imul hx hb dX15_feed_96 ?_
  refine lv_topi (fun v_108 ev_108 => ?_)
  have ev_108 : v_108 = 8 := ev_108.trans (by decide)
  subst ev_108
  refine lv_isub hx hb dX15_feed_97 ?_
  refine lv_topi (fun v_109 ev_109 => ?_)
  have ev_109 : v_109 = 16 := ev_109.trans (by decide)
  subst ev_109
  refine lv_ishr hx hb dX15_feed_98 ?_
  refine lv_topi (fun v_110 ev_110 => ?_)
  refine lv_sipush (v := 255) hx hb dX15_feed_99 (by decide) ?_
  refine lv_iand hx hb dX15_feed_102 ?_
  refine lv_topi (fun v_111 ev_111 => ?_)
  refine va_iast hx hb hK hP hD hS 1 0 rfl rfl (by exact fun h => by rcases h with h | h <;> revert h <;> decide) dX15_feed_103 ?_
  clear hP hD hS; try clear H
  intro H locs hP hD hS
  have hPx := hP; have hDx := hD
  obtain ⟨f_112, hPx, hDx⟩ : ∃ g : Nat → Int32, va_P (dC, dI) vwCl [(h0, .inr (15, fs_106)), (qfed, .inl (ke, 200, .inl g))] H ∧ va_D A [(h0, .inr (15, fs_106)), (qfed, .inl (ke, 200, .inl g))] := ⟨_, hP, hD⟩
  replace hP := hPx; replace hD := hDx; clear hPx hDx
  replace hP : va_P (dC, dI) vwCl [(h0, .inr (15, fs_106)), (qfed, .inl (ke, 200, .inl f_112))] H := hP
  replace hD : va_D A [(h0, .inr (15, fs_106)), (qfed, .inl (ke, 200, .inl f_112))] := hD
  refine lv_aload_n hx hb dX15_feed_104 rfl (lv_at hl 2 rfl) ?_
  refine lv_dup hx hb dX15_feed_105 rfl ?_
  refine va_get (D := (dC, dI)) (ci := 15) (v := .int 13) (C := RX15) (T := TX15) (N := 89) hx hb hts (in_m_feed_X15) hown hK hP 0 rfl rfl 18 (by decide) (hts (.fieldLink RX15 299 "MotionSignsModel" "tape" "I") (List.mem_of_getElem? (i := 2) rfl)) (fun _ h9 => h9) (mF.get hF_h0 0 rfl) dX15_feed_106 ?_
  refine lv_iconst (v := 1) hx hb dX15_feed_109 (by decide) ?_
  refine lv_iadd hx hb dX15_feed_110 ?_
  refine lv_topi (fun v_113 ev_113 => ?_)
  have ev_113 : v_113 = 14 := ev_113.trans (by decide)
  subst ev_113
  refine va_put (D := (dC, dI)) (ci := 15) (v := .int 14) (ty := .int) (C := RX15) (T := TX15) (N := 89) hx hb hts (in_m_feed_X15) tyX15 tyX15_ok nmX15 hown hK hP hD hS 0 rfl rfl 18 (by decide) (hts (.fieldLink RX15 299 "MotionSignsModel" "tape" "I") (List.mem_of_getElem? (i := 2) rfl)) (fun _ h9 => h9) rfl (tyX15_ok 18 (by decide)) rfl rfl (mF.lt hF_h0 (by decide)) dX15_feed_111 ?_
  clear hP hD hS; try clear H
  intro H locs hP hD hS
  have hF0 := mF.sub (L' := [(0, .int 0), (19, .int 0), (20, .int (-1)), (21, .int 0), (22, .int 0), (23, .int 0), (24, .int 0), (25, .int 0), (27, .int 0), (28, .int 0), (29, .int 0), (35, .int 0), (17, .int (-1)), (26, .ref qfed), (30, .ref qf), (31, .ref qfd), (33, .ref qs), (36, .ref qk)]) hF_h0 [1, 2, 3, 4, 5, 6, 7, 8, 9, 10, 11, 12, 13, 14, 15, 16, 17, 18] rfl
  have hF1 := mF.put hF0 18 (.int 14) (by decide) rfl
  replace hP : va_P (dC, dI) vwCl [(h0, .inr (15, (fs_106.set 18 (.int 14)))), (qfed, .inl (ke, 200, .inl f_112))] H := hP
  replace hD : va_D A [(h0, .inr (15, (fs_106.set 18 (.int 14)))), (qfed, .inl (ke, 200, .inl f_112))] := hD
  generalize fs_106.set 18 (.int 14) = fs_114 at hP hD hF1
  replace hF_h0 : mF 89 [(18, .int 14), (0, .int 0), (19, .int 0), (20, .int (-1)), (21, .int 0), (22, .int 0), (23, .int 0), (24, .int 0), (25, .int 0), (27, .int 0), (28, .int 0), (29, .int 0), (35, .int 0), (17, .int (-1)), (26, .ref qfed), (30, .ref qf), (31, .ref qfd), (33, .ref qs), (36, .ref qk)] fs_114 := hF1
  clear hF1 hF0
  replace hP : va_P (dC, dI) vwCl [(h0, .inr (15, fs_114)), (qfed, .inl (ke, 200, .inl f_112))] H := hP
  replace hD : va_D A [(h0, .inr (15, fs_114)), (qfed, .inl (ke, 200, .inl f_112))] := hD
  refine lv_iinc (v := 14) (lv' := [(6, .int 14), (7, .int x3), (0, .ref h0), (1, .int x0), (2, .int x1), (3, .int x2), (4, .int x3), (5, .int x4)]) hx hb dX15_feed_114 hl (k := 1) rfl (by decide) (by decide) rfl (fun ls hl => ?_)
  refine lv_goto (tgt := 23) hx hb dX15_feed_117 (by decide) ?_
  refine lv_iload hx hb dX15_feed_23 (lv_at hl 0 rfl) ?_
  refine lv_bipush (v := 20) hx hb dX15_feed_25 (by decide) ?_
  refine lv_icmp_ge (tgt := 120) hx hb dX15_feed_27 (by decide) (fun hc => absurd hc (by decide)) (fun _ => ?_)
  refine lv_iload hx hb dX15_feed_30 (lv_at hl 0 rfl) ?_
  refine lv_iconst (v := 4) hx hb dX15_feed_32 (by decide) ?_
  refine lv_icmp_ge (tgt := 40) hx hb dX15_feed_33 (by decide) (fun _ => ?_) (fun hc => absurd (by decide) hc)
  refine lv_iload hx hb dX15_feed_40 (lv_at hl 0 rfl) ?_
  refine lv_bipush (v := 8) hx hb dX15_feed_42 (by decide) ?_
  refine lv_icmp_ge (tgt := 51) hx hb dX15_feed_44 (by decide) (fun _ => ?_) (fun hc => absurd (by decide) hc)
  refine lv_iload hx hb dX15_feed_51 (lv_at hl 0 rfl) ?_
  refine lv_bipush (v := 12) hx hb dX15_feed_53 (by decide) ?_
  refine lv_icmp_ge (tgt := 62) hx hb dX15_feed_55 (by decide) (fun _ => ?_) (fun hc => absurd (by decide) hc)
  refine lv_iload hx hb dX15_feed_62 (lv_at hl 0 rfl) ?_
  refine lv_bipush (v := 16) hx hb dX15_feed_64 (by decide) ?_
  refine lv_icmp_ge (tgt := 74) hx hb dX15_feed_66 (by decide) (fun hc => absurd hc (by decide)) (fun _ => ?_)
  refine lv_iload hx hb dX15_feed_69 (lv_at hl 6 rfl) ?_
  refine lv_goto (tgt := 76) hx hb dX15_feed_71 (by decide) ?_
  refine lv_istore (lv' := [(7, .int x3), (6, .int 14), (0, .ref h0), (1, .int x0), (2, .int x1), (3, .int x2), (4, .int x3), (5, .int x4)]) hx hb dX15_feed_76 hl (by decide) rfl (fun ls hl => ?_)
  refine lv_aload_n hx hb dX15_feed_78 rfl (lv_at hl 2 rfl) ?_
  refine va_get (D := (dC, dI)) (ci := 15) (v := .ref qfed) (C := RX15) (T := TX15) (N := 89) hx hb hts (in_m_feed_X15) hown hK hP 0 rfl rfl 26 (by decide) (hts (.fieldLink RX15 124 "MotionSignsModel" "fed" "[I") (List.mem_of_getElem? (i := 3) rfl)) (fun _ h9 => h9) (mF.get hF_h0 14 rfl) dX15_feed_79 ?_
  refine lv_aload_n hx hb dX15_feed_82 rfl (lv_at hl 2 rfl) ?_
  refine va_get (D := (dC, dI)) (ci := 15) (v := .int 14) (C := RX15) (T := TX15) (N := 89) hx hb hts (in_m_feed_X15) hown hK hP 0 rfl rfl 18 (by decide) (hts (.fieldLink RX15 299 "MotionSignsModel" "tape" "I") (List.mem_of_getElem? (i := 2) rfl)) (fun _ h9 => h9) (mF.get hF_h0 0 rfl) dX15_feed_83 ?_
  refine lv_iload hx hb dX15_feed_86 (lv_at hl 0 rfl) ?_
  refine lv_bipush (v := 24) hx hb dX15_feed_88 (by decide) ?_
  refine lv_bipush (v := 8) hx hb dX15_feed_90 (by decide) ?_
  refine lv_iload hx hb dX15_feed_92 (lv_at hl 1 rfl) ?_
  refine lv_iconst (v := 4) hx hb dX15_feed_94 (by decide) ?_
  refine lv_irem hx hb dX15_feed_95 (by decide) ?_
  refine lv_topi (fun v_115 ev_115 => ?_)
  have ev_115 : v_115 = 2 := ev_115.trans (by decide)
  subst ev_115
  refine lv_imul hx hb dX15_feed_96 ?_
  refine lv_topi (fun v_116 ev_116 => ?_)
  have ev_116 : v_116 = 16 := ev_116.trans (by decide)
  subst ev_116
  refine lv_isub hx hb dX15_feed_97 ?_
  refine lv_topi (fun v_117 ev_117 => ?_)
  have ev_117 : v_117 = 8 := ev_117.trans (by decide)
  subst ev_117
  refine lv_ishr hx hb dX15_feed_98 ?_
  refine lv_topi (fun v_118 ev_118 => ?_)
  refine lv_sipush (v := 255) hx hb dX15_feed_99 (by decide) ?_
  refine lv_iand hx hb dX15_feed_102 ?_
  refine lv_topi (fun v_119 ev_119 => ?_)
  refine va_iast hx hb hK hP hD hS 1 0 rfl rfl (by exact fun h => by rcases h with h | h <;> revert h <;> decide) dX15_feed_103 ?_
  clear hP hD hS; try clear H
  intro H locs hP hD hS
  have hPx := hP; have hDx := hD
  obtain ⟨f_120, hPx, hDx⟩ : ∃ g : Nat → Int32, va_P (dC, dI) vwCl [(h0, .inr (15, fs_114)), (qfed, .inl (ke, 200, .inl g))] H ∧ va_D A [(h0, .inr (15, fs_114)), (qfed, .inl (ke, 200, .inl g))] := ⟨_, hP, hD⟩
  replace hP := hPx; replace hD := hDx; clear hPx hDx
  replace hP : va_P (dC, dI) vwCl [(h0, .inr (15, fs_114)), (qfed, .inl (ke, 200, .inl f_120))] H := hP
  replace hD : va_D A [(h0, .inr (15, fs_114)), (qfed, .inl (ke, 200, .inl f_120))] := hD
  refine lv_aload_n hx hb dX15_feed_104 rfl (lv_at hl 2 rfl) ?_
  refine lv_dup hx hb dX15_feed_105 rfl ?_
  refine va_get (D := (dC, dI)) (ci := 15) (v := .int 14) (C := RX15) (T := TX15) (N := 89) hx hb hts (in_m_feed_X15) hown hK hP 0 rfl rfl 18 (by decide) (hts (.fieldLink RX15 299 "MotionSignsModel" "tape" "I") (List.mem_of_getElem? (i := 2) rfl)) (fun _ h9 => h9) (mF.get hF_h0 0 rfl) dX15_feed_106 ?_
  refine lv_iconst (v := 1) hx hb dX15_feed_109 (by decide) ?_
  refine lv_iadd hx hb dX15_feed_110 ?_
  refine lv_topi (fun v_121 ev_121 => ?_)
  have ev_121 : v_121 = 15 := ev_121.trans (by decide)
  subst ev_121
  refine va_put (D := (dC, dI)) (ci := 15) (v := .int 15) (ty := .int) (C := RX15) (T := TX15) (N := 89) hx hb hts (in_m_feed_X15) tyX15 tyX15_ok nmX15 hown hK hP hD hS 0 rfl rfl 18 (by decide) (hts (.fieldLink RX15 299 "MotionSignsModel" "tape" "I") (List.mem_of_getElem? (i := 2) rfl)) (fun _ h9 => h9) rfl (tyX15_ok 18 (by decide)) rfl rfl (mF.lt hF_h0 (by decide)) dX15_feed_111 ?_
  clear hP hD hS; try clear H
  intro H locs hP hD hS
  have hF0 := mF.sub (L' := [(0, .int 0), (19, .int 0), (20, .int (-1)), (21, .int 0), (22, .int 0), (23, .int 0), (24, .int 0), (25, .int 0), (27, .int 0), (28, .int 0), (29, .int 0), (35, .int 0), (17, .int (-1)), (26, .ref qfed), (30, .ref qf), (31, .ref qfd), (33, .ref qs), (36, .ref qk)]) hF_h0 [1, 2, 3, 4, 5, 6, 7, 8, 9, 10, 11, 12, 13, 14, 15, 16, 17, 18] rfl
  have hF1 := mF.put hF0 18 (.int 15) (by decide) rfl
  replace hP : va_P (dC, dI) vwCl [(h0, .inr (15, (fs_114.set 18 (.int 15)))), (qfed, .inl (ke, 200, .inl f_120))] H := hP
  replace hD : va_D A [(h0, .inr (15, (fs_114.set 18 (.int 15)))), (qfed, .inl (ke, 200, .inl f_120))] := hD
  generalize fs_114.set 18 (.int 15) = fs_122 at hP hD hF1
  replace hF_h0 : mF 89 [(18, .int 15), (0, .int 0), (19, .int 0), (20, .int (-1)), (21, .int 0), (22, .int 0), (23, .int 0), (24, .int 0), (25, .int 0), (27, .int 0), (28, .int 0), (29, .int 0), (35, .int 0), (17, .int (-1)), (26, .ref qfed), (30, .ref qf), (31, .ref qfd), (33, .ref qs), (36, .ref qk)] fs_122 := hF1
  clear hF1 hF0
  replace hP : va_P (dC, dI) vwCl [(h0, .inr (15, fs_122)), (qfed, .inl (ke, 200, .inl f_120))] H := hP
  replace hD : va_D A [(h0, .inr (15, fs_122)), (qfed, .inl (ke, 200, .inl f_120))] := hD
  refine lv_iinc (v := 15) (lv' := [(6, .int 15), (7, .int x3), (0, .ref h0), (1, .int x0), (2, .int x1), (3, .int x2), (4, .int x3), (5, .int x4)]) hx hb dX15_feed_114 hl (k := 1) rfl (by decide) (by decide) rfl (fun ls hl => ?_)
  refine lv_goto (tgt := 23) hx hb dX15_feed_117 (by decide) ?_
  refine lv_iload hx hb dX15_feed_23 (lv_at hl 0 rfl) ?_
  refine lv_bipush (v := 20) hx hb dX15_feed_25 (by decide) ?_
  refine lv_icmp_ge (tgt := 120) hx hb dX15_feed_27 (by decide) (fun hc => absurd hc (by decide)) (fun _ => ?_)
  refine lv_iload hx hb dX15_feed_30 (lv_at hl 0 rfl) ?_
  refine lv_iconst (v := 4) hx hb dX15_feed_32 (by decide) ?_
  refine lv_icmp_ge (tgt := 40) hx hb dX15_feed_33 (by decide) (fun _ => ?_) (fun hc => absurd (by decide) hc)
  refine lv_iload hx hb dX15_feed_40 (lv_at hl 0 rfl) ?_
  refine lv_bipush (v := 8) hx hb dX15_feed_42 (by decide) ?_
  refine lv_icmp_ge (tgt := 51) hx hb dX15_feed_44 (by decide) (fun _ => ?_) (fun hc => absurd (by decide) hc)
  refine lv_iload hx hb dX15_feed_51 (lv_at hl 0 rfl) ?_
  refine lv_bipush (v := 12) hx hb dX15_feed_53 (by decide) ?_
  refine lv_icmp_ge (tgt := 62) hx hb dX15_feed_55 (by decide) (fun _ => ?_) (fun hc => absurd (by decide) hc)
  refine lv_iload hx hb dX15_feed_62 (lv_at hl 0 rfl) ?_
  refine lv_bipush (v := 16) hx hb dX15_feed_64 (by decide) ?_
  refine lv_icmp_ge (tgt := 74) hx hb dX15_feed_66 (by decide) (fun hc => absurd hc (by decide)) (fun _ => ?_)
  refine lv_iload hx hb dX15_feed_69 (lv_at hl 6 rfl) ?_
  refine lv_goto (tgt := 76) hx hb dX15_feed_71 (by decide) ?_
  refine lv_istore (lv' := [(7, .int x3), (6, .int 15), (0, .ref h0), (1, .int x0), (2, .int x1), (3, .int x2), (4, .int x3), (5, .int x4)]) hx hb dX15_feed_76 hl (by decide) rfl (fun ls hl => ?_)
  refine lv_aload_n hx hb dX15_feed_78 rfl (lv_at hl 2 rfl) ?_
  refine va_get (D := (dC, dI)) (ci := 15) (v := .ref qfed) (C := RX15) (T := TX15) (N := 89) hx hb hts (in_m_feed_X15) hown hK hP 0 rfl rfl 26 (by decide) (hts (.fieldLink RX15 124 "MotionSignsModel" "fed" "[I") (List.mem_of_getElem? (i := 3) rfl)) (fun _ h9 => h9) (mF.get hF_h0 14 rfl) dX15_feed_79 ?_
  refine lv_aload_n hx hb dX15_feed_82 rfl (lv_at hl 2 rfl) ?_
  refine va_get (D := (dC, dI)) (ci := 15) (v := .int 15) (C := RX15) (T := TX15) (N := 89) hx hb hts (in_m_feed_X15) hown hK hP 0 rfl rfl 18 (by decide) (hts (.fieldLink RX15 299 "MotionSignsModel" "tape" "I") (List.mem_of_getElem? (i := 2) rfl)) (fun _ h9 => h9) (mF.get hF_h0 0 rfl) dX15_feed_83 ?_
  refine lv_iload hx hb dX15_feed_86 (lv_at hl 0 rfl) ?_
  refine lv_bipush (v := 24) hx hb dX15_feed_88 (by decide) ?_
  refine lv_bipush (v := 8) hx hb dX15_feed_90 (by decide) ?_
  refine lv_iload hx hb dX15_feed_92 (lv_at hl 1 rfl) ?_
  refine lv_iconst (v := 4) hx hb dX15_feed_94 (by decide) ?_
  refine lv_irem hx hb dX15_feed_95 (by decide) ?_
  refine lv_topi (fun v_123 ev_123 => ?_)
  have ev_123 : v_123 = 3 := ev_123.trans (by decide)
  subst ev_123
  refine lv_imul hx hb dX15_feed_96 ?_
  refine lv_topi (fun v_124 ev_124 => ?_)
  have ev_124 : v_124 = 24 := ev_124.trans (by decide)
  subst ev_124
  refine lv_isub hx hb dX15_feed_97 ?_
  refine lv_topi (fun v_125 ev_125 => ?_)
  have ev_125 : v_125 = 0 := ev_125.trans (by decide)
  subst ev_125
  refine lv_ishr hx hb dX15_feed_98 ?_
  refine lv_topi (fun v_126 ev_126 => ?_)
  refine lv_sipush (v := 255) hx hb dX15_feed_99 (by decide) ?_
  refine lv_iand hx hb dX15_feed_102 ?_
  refine lv_topi (fun v_127 ev_127 => ?_)
  refine va_iast hx hb hK hP hD hS 1 0 rfl rfl (by exact fun h => by rcases h with h | h <;> revert h <;> decide) dX15_feed_103 ?_
  clear hP hD hS; try clear H
  intro H locs hP hD hS
  have hPx := hP; have hDx := hD
  obtain ⟨f_128, hPx, hDx⟩ : ∃ g : Nat → Int32, va_P (dC, dI) vwCl [(h0, .inr (15, fs_122)), (qfed, .inl (ke, 200, .inl g))] H ∧ va_D A [(h0, .inr (15, fs_122)), (qfed, .inl (ke, 200, .inl g))] := ⟨_, hP, hD⟩
  replace hP := hPx; replace hD := hDx; clear hPx hDx
  replace hP : va_P (dC, dI) vwCl [(h0, .inr (15, fs_122)), (qfed, .inl (ke, 200, .inl f_128))] H := hP
  replace hD : va_D A [(h0, .inr (15, fs_122)), (qfed, .inl (ke, 200, .inl f_128))] := hD
  refine lv_aload_n hx hb dX15_feed_104 rfl (lv_at hl 2 rfl) ?_
  refine lv_dup hx hb dX15_feed_105 rfl ?_
  refine va_get (D := (dC, dI)) (ci := 15) (v := .int 15) (C := RX15) (T := TX15) (N := 89) hx hb hts (in_m_feed_X15) hown hK hP 0 rfl rfl 18 (by decide) (hts (.fieldLink RX15 299 "MotionSignsModel" "tape" "I") (List.mem_of_getElem? (i := 2) rfl)) (fun _ h9 => h9) (mF.get hF_h0 0 rfl) dX15_feed_106 ?_
  refine lv_iconst (v := 1) hx hb dX15_feed_109 (by decide) ?_
  refine lv_iadd hx hb dX15_feed_110 ?_
  refine lv_topi (fun v_129 ev_129 => ?_)
  have ev_129 : v_129 = 16 := ev_129.trans (by decide)
  subst ev_129
  refine va_put (D := (dC, dI)) (ci := 15) (v := .int 16) (ty := .int) (C := RX15) (T := TX15) (N := 89) hx hb hts (in_m_feed_X15) tyX15 tyX15_ok nmX15 hown hK hP hD hS 0 rfl rfl 18 (by decide) (hts (.fieldLink RX15 299 "MotionSignsModel" "tape" "I") (List.mem_of_getElem? (i := 2) rfl)) (fun _ h9 => h9) rfl (tyX15_ok 18 (by decide)) rfl rfl (mF.lt hF_h0 (by decide)) dX15_feed_111 ?_
  clear hP hD hS; try clear H
  intro H locs hP hD hS
  have hF0 := mF.sub (L' := [(0, .int 0), (19, .int 0), (20, .int (-1)), (21, .int 0), (22, .int 0), (23, .int 0), (24, .int 0), (25, .int 0), (27, .int 0), (28, .int 0), (29, .int 0), (35, .int 0), (17, .int (-1)), (26, .ref qfed), (30, .ref qf), (31, .ref qfd), (33, .ref qs), (36, .ref qk)]) hF_h0 [1, 2, 3, 4, 5, 6, 7, 8, 9, 10, 11, 12, 13, 14, 15, 16, 17, 18] rfl
  have hF1 := mF.put hF0 18 (.int 16) (by decide) rfl
  replace hP : va_P (dC, dI) vwCl [(h0, .inr (15, (fs_122.set 18 (.int 16)))), (qfed, .inl (ke, 200, .inl f_128))] H := hP
  replace hD : va_D A [(h0, .inr (15, (fs_122.set 18 (.int 16)))), (qfed, .inl (ke, 200, .inl f_128))] := hD
  generalize fs_122.set 18 (.int 16) = fs_130 at hP hD hF1
  replace hF_h0 : mF 89 [(18, .int 16), (0, .int 0), (19, .int 0), (20, .int (-1)), (21, .int 0), (22, .int 0), (23, .int 0), (24, .int 0), (25, .int 0), (27, .int 0), (28, .int 0), (29, .int 0), (35, .int 0), (17, .int (-1)), (26, .ref qfed), (30, .ref qf), (31, .ref qfd), (33, .ref qs), (36, .ref qk)] fs_130 := hF1
  clear hF1 hF0
  replace hP : va_P (dC, dI) vwCl [(h0, .inr (15, fs_130)), (qfed, .inl (ke, 200, .inl f_128))] H := hP
  replace hD : va_D A [(h0, .inr (15, fs_130)), (qfed, .inl (ke, 200, .inl f_128))] := hD
  refine lv_iinc (v := 16) (lv' := [(6, .int 16), (7, .int x3), (0, .ref h0), (1, .int x0), (2, .int x1), (3, .int x2), (4, .int x3), (5, .int x4)]) hx hb dX15_feed_114 hl (k := 1) rfl (by decide) (by decide) rfl (fun ls hl => ?_)
  refine lv_goto (tgt := 23) hx hb dX15_feed_117 (by decide) ?_
  refine lv_iload hx hb dX15_feed_23 (lv_at hl 0 rfl) ?_
  refine lv_bipush (v := 20) hx hb dX15_feed_25 (by decide) ?_
  refine lv_icmp_ge (tgt := 120) hx hb dX15_feed_27 (by decide) (fun hc => absurd hc (by decide)) (fun _ => ?_)
  refine lv_iload hx hb dX15_feed_30 (lv_at hl 0 rfl) ?_
  refine lv_iconst (v := 4) hx hb dX15_feed_32 (by decide) ?_
  refine lv_icmp_ge (tgt := 40) hx hb dX15_feed_33 (by decide) (fun _ => ?_) (fun hc => absurd (by decide) hc)
  refine lv_iload hx hb dX15_feed_40 (lv_at hl 0 rfl) ?_
  refine lv_bipush (v := 8) hx hb dX15_feed_42 (by decide) ?_
  refine lv_icmp_ge (tgt := 51) hx hb dX15_feed_44 (by decide) (fun _ => ?_) (fun hc => absurd (by decide) hc)
  refine lv_iload hx hb dX15_feed_51 (lv_at hl 0 rfl) ?_
  refine lv_bipush (v := 12) hx hb dX15_feed_53 (by decide) ?_
  refine lv_icmp_ge (tgt := 62) hx hb dX15_feed_55 (by decide) (fun _ => ?_) (fun hc => absurd (by decide) hc)
  refine lv_iload hx hb dX15_feed_62 (lv_at hl 0 rfl) ?_
  refine lv_bipush (v := 16) hx hb dX15_feed_64 (by decide) ?_
  refine lv_icmp_ge (tgt := 74) hx hb dX15_feed_66 (by decide) (fun _ => ?_) (fun hc => absurd (by decide) hc)
  refine lv_iload hx hb dX15_feed_74 (lv_at hl 7 rfl) ?_
  refine lv_istore (lv' := [(7, .int x4), (6, .int 16), (0, .ref h0), (1, .int x0), (2, .int x1), (3, .int x2), (4, .int x3), (5, .int x4)]) hx hb dX15_feed_76 hl (by decide) rfl (fun ls hl => ?_)
  refine lv_aload_n hx hb dX15_feed_78 rfl (lv_at hl 2 rfl) ?_
  refine va_get (D := (dC, dI)) (ci := 15) (v := .ref qfed) (C := RX15) (T := TX15) (N := 89) hx hb hts (in_m_feed_X15) hown hK hP 0 rfl rfl 26 (by decide) (hts (.fieldLink RX15 124 "MotionSignsModel" "fed" "[I") (List.mem_of_getElem? (i := 3) rfl)) (fun _ h9 => h9) (mF.get hF_h0 14 rfl) dX15_feed_79 ?_
  refine lv_aload_n hx hb dX15_feed_82 rfl (lv_at hl 2 rfl) ?_
  refine va_get (D := (dC, dI)) (ci := 15) (v := .int 16) (C := RX15) (T := TX15) (N := 89) hx hb hts (in_m_feed_X15) hown hK hP 0 rfl rfl 18 (by decide) (hts (.fieldLink RX15 299 "MotionSignsModel" "tape" "I") (List.mem_of_getElem? (i := 2) rfl)) (fun _ h9 => h9) (mF.get hF_h0 0 rfl) dX15_feed_83 ?_
  refine lv_iload hx hb dX15_feed_86 (lv_at hl 0 rfl) ?_
  refine lv_bipush (v := 24) hx hb dX15_feed_88 (by decide) ?_
  refine lv_bipush (v := 8) hx hb dX15_feed_90 (by decide) ?_
  refine lv_iload hx hb dX15_feed_92 (lv_at hl 1 rfl) ?_
  refine lv_iconst (v := 4) hx hb dX15_feed_94 (by decide) ?_
  refine lv_irem hx hb dX15_feed_95 (by decide) ?_
  refine lv_topi (fun v_131 ev_131 => ?_)
  have ev_131 : v_131 = 0 := ev_131.trans (by decide)
  subst ev_131
  refine lv_imul hx hb dX15_feed_96 ?_
  refine lv_topi (fun v_132 ev_132 => ?_)
  have ev_132 : v_132 = 0 := ev_132.trans (by decide)
  subst ev_132
  refine lv_isub hx hb dX15_feed_97 ?_
  refine lv_topi (fun v_133 ev_133 => ?_)
  have ev_133 : v_133 = 24 := ev_133.trans (by decide)
  subst ev_133
  refine lv_ishr hx hb dX15_feed_98 ?_
  refine lv_topi (fun v_134 ev_134 => ?_)
  refine lv_sipush (v := 255) hx hb dX15_feed_99 (by decide) ?_
  refine lv_iand hx hb dX15_feed_102 ?_
  refine lv_topi (fun v_135 ev_135 => ?_)
  refine va_iast hx hb hK hP hD hS 1 0 rfl rfl (by exact fun h => by rcases h with h | h <;> revert h <;> decide) dX15_feed_103 ?_
  clear hP hD hS; try clear H
  intro H locs hP hD hS
  have hPx := hP; have hDx := hD
  obtain ⟨f_136, hPx, hDx⟩ : ∃ g : Nat → Int32, va_P (dC, dI) vwCl [(h0, .inr (15, fs_130)), (qfed, .inl (ke, 200, .inl g))] H ∧ va_D A [(h0, .inr (15, fs_130)), (qfed, .inl (ke, 200, .inl g))] := ⟨_, hP, hD⟩
  replace hP := hPx; replace hD := hDx; clear hPx hDx
  replace hP : va_P (dC, dI) vwCl [(h0, .inr (15, fs_130)), (qfed, .inl (ke, 200, .inl f_136))] H := hP
  replace hD : va_D A [(h0, .inr (15, fs_130)), (qfed, .inl (ke, 200, .inl f_136))] := hD
  refine lv_aload_n hx hb dX15_feed_104 rfl (lv_at hl 2 rfl) ?_
  refine lv_dup hx hb dX15_feed_105 rfl ?_
  refine va_get (D := (dC, dI)) (ci := 15) (v := .int 16) (C := RX15) (T := TX15) (N := 89) hx hb hts (in_m_feed_X15) hown hK hP 0 rfl rfl 18 (by decide) (hts (.fieldLink RX15 299 "MotionSignsModel" "tape" "I") (List.mem_of_getElem? (i := 2) rfl)) (fun _ h9 => h9) (mF.get hF_h0 0 rfl) dX15_feed_106 ?_
  refine lv_iconst (v := 1) hx hb dX15_feed_109 (by decide) ?_
  refine lv_iadd hx hb dX15_feed_110 ?_
  refine lv_topi (fun v_137 ev_137 => ?_)
  have ev_137 : v_137 = 17 := ev_137.trans (by decide)
  subst ev_137
  refine va_put (D := (dC, dI)) (ci := 15) (v := .int 17) (ty := .int) (C := RX15) (T := TX15) (N := 89) hx hb hts (in_m_feed_X15) tyX15 tyX15_ok nmX15 hown hK hP hD hS 0 rfl rfl 18 (by decide) (hts (.fieldLink RX15 299 "MotionSignsModel" "tape" "I") (List.mem_of_getElem? (i := 2) rfl)) (fun _ h9 => h9) rfl (tyX15_ok 18 (by decide)) rfl rfl (mF.lt hF_h0 (by decide)) dX15_feed_111 ?_
  clear hP hD hS; try clear H
  intro H locs hP hD hS
  have hF0 := mF.sub (L' := [(0, .int 0), (19, .int 0), (20, .int (-1)), (21, .int 0), (22, .int 0), (23, .int 0), (24, .int 0), (25, .int 0), (27, .int 0), (28, .int 0), (29, .int 0), (35, .int 0), (17, .int (-1)), (26, .ref qfed), (30, .ref qf), (31, .ref qfd), (33, .ref qs), (36, .ref qk)]) hF_h0 [1, 2, 3, 4, 5, 6, 7, 8, 9, 10, 11, 12, 13, 14, 15, 16, 17, 18] rfl
  have hF1 := mF.put hF0 18 (.int 17) (by decide) rfl
  replace hP : va_P (dC, dI) vwCl [(h0, .inr (15, (fs_130.set 18 (.int 17)))), (qfed, .inl (ke, 200, .inl f_136))] H := hP
  replace hD : va_D A [(h0, .inr (15, (fs_130.set 18 (.int 17)))), (qfed, .inl (ke, 200, .inl f_136))] := hD
  generalize fs_130.set 18 (.int 17) = fs_138 at hP hD hF1
  replace hF_h0 : mF 89 [(18, .int 17), (0, .int 0), (19, .int 0), (20, .int (-1)), (21, .int 0), (22, .int 0), (23, .int 0), (24, .int 0), (25, .int 0), (27, .int 0), (28, .int 0), (29, .int 0), (35, .int 0), (17, .int (-1)), (26, .ref qfed), (30, .ref qf), (31, .ref qfd), (33, .ref qs), (36, .ref qk)] fs_138 := hF1
  clear hF1 hF0
  replace hP : va_P (dC, dI) vwCl [(h0, .inr (15, fs_138)), (qfed, .inl (ke, 200, .inl f_136))] H := hP
  replace hD : va_D A [(h0, .inr (15, fs_138)), (qfed, .inl (ke, 200, .inl f_136))] := hD
  refine lv_iinc (v := 17) (lv' := [(6, .int 17), (7, .int x4), (0, .ref h0), (1, .int x0), (2, .int x1), (3, .int x2), (4, .int x3), (5, .int x4)]) hx hb dX15_feed_114 hl (k := 1) rfl (by decide) (by decide) rfl (fun ls hl => ?_)
  refine lv_goto (tgt := 23) hx hb dX15_feed_117 (by decide) ?_
  refine lv_iload hx hb dX15_feed_23 (lv_at hl 0 rfl) ?_
  refine lv_bipush (v := 20) hx hb dX15_feed_25 (by decide) ?_
  refine lv_icmp_ge (tgt := 120) hx hb dX15_feed_27 (by decide) (fun hc => absurd hc (by decide)) (fun _ => ?_)
  refine lv_iload hx hb dX15_feed_30 (lv_at hl 0 rfl) ?_
  refine lv_iconst (v := 4) hx hb dX15_feed_32 (by decide) ?_
  refine lv_icmp_ge (tgt := 40) hx hb dX15_feed_33 (by decide) (fun _ => ?_) (fun hc => absurd (by decide) hc)
  refine lv_iload hx hb dX15_feed_40 (lv_at hl 0 rfl) ?_
  refine lv_bipush (v := 8) hx hb dX15_feed_42 (by decide) ?_
  refine lv_icmp_ge (tgt := 51) hx hb dX15_feed_44 (by decide) (fun _ => ?_) (fun hc => absurd (by decide) hc)
  refine lv_iload hx hb dX15_feed_51 (lv_at hl 0 rfl) ?_
  refine lv_bipush (v := 12) hx hb dX15_feed_53 (by decide) ?_
  refine lv_icmp_ge (tgt := 62) hx hb dX15_feed_55 (by decide) (fun _ => ?_) (fun hc => absurd (by decide) hc)
  refine lv_iload hx hb dX15_feed_62 (lv_at hl 0 rfl) ?_
  refine lv_bipush (v := 16) hx hb dX15_feed_64 (by decide) ?_
  refine lv_icmp_ge (tgt := 74) hx hb dX15_feed_66 (by decide) (fun _ => ?_) (fun hc => absurd (by decide) hc)
  refine lv_iload hx hb dX15_feed_74 (lv_at hl 7 rfl) ?_
  refine lv_istore (lv' := [(7, .int x4), (6, .int 17), (0, .ref h0), (1, .int x0), (2, .int x1), (3, .int x2), (4, .int x3), (5, .int x4)]) hx hb dX15_feed_76 hl (by decide) rfl (fun ls hl => ?_)
  refine lv_aload_n hx hb dX15_feed_78 rfl (lv_at hl 2 rfl) ?_
  refine va_get (D := (dC, dI)) (ci := 15) (v := .ref qfed) (C := RX15) (T := TX15) (N := 89) hx hb hts (in_m_feed_X15) hown hK hP 0 rfl rfl 26 (by decide) (hts (.fieldLink RX15 124 "MotionSignsModel" "fed" "[I") (List.mem_of_getElem? (i := 3) rfl)) (fun _ h9 => h9) (mF.get hF_h0 14 rfl) dX15_feed_79 ?_
  refine lv_aload_n hx hb dX15_feed_82 rfl (lv_at hl 2 rfl) ?_
  refine va_get (D := (dC, dI)) (ci := 15) (v := .int 17) (C := RX15) (T := TX15) (N := 89) hx hb hts (in_m_feed_X15) hown hK hP 0 rfl rfl 18 (by decide) (hts (.fieldLink RX15 299 "MotionSignsModel" "tape" "I") (List.mem_of_getElem? (i := 2) rfl)) (fun _ h9 => h9) (mF.get hF_h0 0 rfl) dX15_feed_83 ?_
  refine lv_iload hx hb dX15_feed_86 (lv_at hl 0 rfl) ?_
  refine lv_bipush (v := 24) hx hb dX15_feed_88 (by decide) ?_
  refine lv_bipush (v := 8) hx hb dX15_feed_90 (by decide) ?_
  refine lv_iload hx hb dX15_feed_92 (lv_at hl 1 rfl) ?_
  refine lv_iconst (v := 4) hx hb dX15_feed_94 (by decide) ?_
  refine lv_irem hx hb dX15_feed_95 (by decide) ?_
  refine lv_topi (fun v_139 ev_139 => ?_)
  have ev_139 : v_139 = 1 := ev_139.trans (by decide)
  subst ev_139
  refine lv_imul hx hb dX15_feed_96 ?_
  refine lv_topi (fun v_140 ev_140 => ?_)
  have ev_140 : v_140 = 8 := ev_140.trans (by decide)
  subst ev_140
  refine lv_isub hx hb dX15_feed_97 ?_
  refine lv_topi (fun v_141 ev_141 => ?_)
  have ev_141 : v_141 = 16 := ev_141.trans (by decide)
  subst ev_141
  refine lv_ishr hx hb dX15_feed_98 ?_
  refine lv_topi (fun v_142 ev_142 => ?_)
  refine lv_sipush (v := 255) hx hb dX15_feed_99 (by decide) ?_
  refine lv_iand hx hb dX15_feed_102 ?_
  refine lv_topi (fun v_143 ev_143 => ?_)
  refine va_iast hx hb hK hP hD hS 1 0 rfl rfl (by exact fun h => by rcases h with h | h <;> revert h <;> decide) dX15_feed_103 ?_
  clear hP hD hS; try clear H
  intro H locs hP hD hS
  have hPx := hP; have hDx := hD
  obtain ⟨f_144, hPx, hDx⟩ : ∃ g : Nat → Int32, va_P (dC, dI) vwCl [(h0, .inr (15, fs_138)), (qfed, .inl (ke, 200, .inl g))] H ∧ va_D A [(h0, .inr (15, fs_138)), (qfed, .inl (ke, 200, .inl g))] := ⟨_, hP, hD⟩
  replace hP := hPx; replace hD := hDx; clear hPx hDx
  replace hP : va_P (dC, dI) vwCl [(h0, .inr (15, fs_138)), (qfed, .inl (ke, 200, .inl f_144))] H := hP
  replace hD : va_D A [(h0, .inr (15, fs_138)), (qfed, .inl (ke, 200, .inl f_144))] := hD
  refine lv_aload_n hx hb dX15_feed_104 rfl (lv_at hl 2 rfl) ?_
  refine lv_dup hx hb dX15_feed_105 rfl ?_
  refine va_get (D := (dC, dI)) (ci := 15) (v := .int 17) (C := RX15) (T := TX15) (N := 89) hx hb hts (in_m_feed_X15) hown hK hP 0 rfl rfl 18 (by decide) (hts (.fieldLink RX15 299 "MotionSignsModel" "tape" "I") (List.mem_of_getElem? (i := 2) rfl)) (fun _ h9 => h9) (mF.get hF_h0 0 rfl) dX15_feed_106 ?_
  refine lv_iconst (v := 1) hx hb dX15_feed_109 (by decide) ?_
  refine lv_iadd hx hb dX15_feed_110 ?_
  refine lv_topi (fun v_145 ev_145 => ?_)
  have ev_145 : v_145 = 18 := ev_145.trans (by decide)
  subst ev_145
  refine va_put (D := (dC, dI)) (ci := 15) (v := .int 18) (ty := .int) (C := RX15) (T := TX15) (N := 89) hx hb hts (in_m_feed_X15) tyX15 tyX15_ok nmX15 hown hK hP hD hS 0 rfl rfl 18 (by decide) (hts (.fieldLink RX15 299 "MotionSignsModel" "tape" "I") (List.mem_of_getElem? (i := 2) rfl)) (fun _ h9 => h9) rfl (tyX15_ok 18 (by decide)) rfl rfl (mF.lt hF_h0 (by decide)) dX15_feed_111 ?_
  clear hP hD hS; try clear H
  intro H locs hP hD hS
  have hF0 := mF.sub (L' := [(0, .int 0), (19, .int 0), (20, .int (-1)), (21, .int 0), (22, .int 0), (23, .int 0), (24, .int 0), (25, .int 0), (27, .int 0), (28, .int 0), (29, .int 0), (35, .int 0), (17, .int (-1)), (26, .ref qfed), (30, .ref qf), (31, .ref qfd), (33, .ref qs), (36, .ref qk)]) hF_h0 [1, 2, 3, 4, 5, 6, 7, 8, 9, 10, 11, 12, 13, 14, 15, 16, 17, 18] rfl
  have hF1 := mF.put hF0 18 (.int 18) (by decide) rfl
  replace hP : va_P (dC, dI) vwCl [(h0, .inr (15, (fs_138.set 18 (.int 18)))), (qfed, .inl (ke, 200, .inl f_144))] H := hP
  replace hD : va_D A [(h0, .inr (15, (fs_138.set 18 (.int 18)))), (qfed, .inl (ke, 200, .inl f_144))] := hD
  generalize fs_138.set 18 (.int 18) = fs_146 at hP hD hF1
  replace hF_h0 : mF 89 [(18, .int 18), (0, .int 0), (19, .int 0), (20, .int (-1)), (21, .int 0), (22, .int 0), (23, .int 0), (24, .int 0), (25, .int 0), (27, .int 0), (28, .int 0), (29, .int 0), (35, .int 0), (17, .int (-1)), (26, .ref qfed), (30, .ref qf), (31, .ref qfd), (33, .ref qs), (36, .ref qk)] fs_146 := hF1
  clear hF1 hF0
  replace hP : va_P (dC, dI) vwCl [(h0, .inr (15, fs_146)), (qfed, .inl (ke, 200, .inl f_144))] H := hP
  replace hD : va_D A [(h0, .inr (15, fs_146)), (qfed, .inl (ke, 200, .inl f_144))] := hD
  refine lv_iinc (v := 18) (lv' := [(6, .int 18), (7, .int x4), (0, .ref h0), (1, .int x0), (2, .int x1), (3, .int x2), (4, .int x3), (5, .int x4)]) hx hb dX15_feed_114 hl (k := 1) rfl (by decide) (by decide) rfl (fun ls hl => ?_)
  refine lv_goto (tgt := 23) hx hb dX15_feed_117 (by decide) ?_
  refine lv_iload hx hb dX15_feed_23 (lv_at hl 0 rfl) ?_
  refine lv_bipush (v := 20) hx hb dX15_feed_25 (by decide) ?_
  refine lv_icmp_ge (tgt := 120) hx hb dX15_feed_27 (by decide) (fun hc => absurd hc (by decide)) (fun _ => ?_)
  refine lv_iload hx hb dX15_feed_30 (lv_at hl 0 rfl) ?_
  refine lv_iconst (v := 4) hx hb dX15_feed_32 (by decide) ?_
  refine lv_icmp_ge (tgt := 40) hx hb dX15_feed_33 (by decide) (fun _ => ?_) (fun hc => absurd (by decide) hc)
  refine lv_iload hx hb dX15_feed_40 (lv_at hl 0 rfl) ?_
  refine lv_bipush (v := 8) hx hb dX15_feed_42 (by decide) ?_
  refine lv_icmp_ge (tgt := 51) hx hb dX15_feed_44 (by decide) (fun _ => ?_) (fun hc => absurd (by decide) hc)
  refine lv_iload hx hb dX15_feed_51 (lv_at hl 0 rfl) ?_
  refine lv_bipush (v := 12) hx hb dX15_feed_53 (by decide) ?_
  refine lv_icmp_ge (tgt := 62) hx hb dX15_feed_55 (by decide) (fun _ => ?_) (fun hc => absurd (by decide) hc)
  refine lv_iload hx hb dX15_feed_62 (lv_at hl 0 rfl) ?_
  refine lv_bipush (v := 16) hx hb dX15_feed_64 (by decide) ?_
  refine lv_icmp_ge (tgt := 74) hx hb dX15_feed_66 (by decide) (fun _ => ?_) (fun hc => absurd (by decide) hc)
  refine lv_iload hx hb dX15_feed_74 (lv_at hl 7 rfl) ?_
  refine lv_istore (lv' := [(7, .int x4), (6, .int 18), (0, .ref h0), (1, .int x0), (2, .int x1), (3, .int x2), (4, .int x3), (5, .int x4)]) hx hb dX15_feed_76 hl (by decide) rfl (fun ls hl => ?_)
  refine lv_aload_n hx hb dX15_feed_78 rfl (lv_at hl 2 rfl) ?_
  refine va_get (D := (dC, dI)) (ci := 15) (v := .ref qfed) (C := RX15) (T := TX15) (N := 89) hx hb hts (in_m_feed_X15) hown hK hP 0 rfl rfl 26 (by decide) (hts (.fieldLink RX15 124 "MotionSignsModel" "fed" "[I") (List.mem_of_getElem? (i := 3) rfl)) (fun _ h9 => h9) (mF.get hF_h0 14 rfl) dX15_feed_79 ?_
  refine lv_aload_n hx hb dX15_feed_82 rfl (lv_at hl 2 rfl) ?_
  refine va_get (D := (dC, dI)) (ci := 15) (v := .int 18) (C := RX15) (T := TX15) (N := 89) hx hb hts (in_m_feed_X15) hown hK hP 0 rfl rfl 18 (by decide) (hts (.fieldLink RX15 299 "MotionSignsModel" "tape" "I") (List.mem_of_getElem? (i := 2) rfl)) (fun _ h9 => h9) (mF.get hF_h0 0 rfl) dX15_feed_83 ?_
  refine lv_iload hx hb dX15_feed_86 (lv_at hl 0 rfl) ?_
  refine lv_bipush (v := 24) hx hb dX15_feed_88 (by decide) ?_
  refine lv_bipush (v := 8) hx hb dX15_feed_90 (by decide) ?_
  refine lv_iload hx hb dX15_feed_92 (lv_at hl 1 rfl) ?_
  refine lv_iconst (v := 4) hx hb dX15_feed_94 (by decide) ?_
  refine lv_irem hx hb dX15_feed_95 (by decide) ?_
  refine lv_topi (fun v_147 ev_147 => ?_)
  have ev_147 : v_147 = 2 := ev_147.trans (by decide)
  subst ev_147
  refine lv_imul hx hb dX15_feed_96 ?_
  refine lv_topi (fun v_148 ev_148 => ?_)
  have ev_148 : v_148 = 16 := ev_148.trans (by decide)
  subst ev_148
  refine lv_isub hx hb dX15_feed_97 ?_
  refine lv_topi (fun v_149 ev_149 => ?_)
  have ev_149 : v_149 = 8 := ev_149.trans (by decide)
  subst ev_149
  refine lv_ishr hx hb dX15_feed_98 ?_
  refine lv_topi (fun v_150 ev_150 => ?_)
  refine lv_sipush (v := 255) hx hb dX15_feed_99 (by decide) ?_
  refine lv_iand hx hb dX15_feed_102 ?_
  refine lv_topi (fun v_151 ev_151 => ?_)
  refine va_iast hx hb hK hP hD hS 1 0 rfl rfl (by exact fun h => by rcases h with h | h <;> revert h <;> decide) dX15_feed_103 ?_
  clear hP hD hS; try clear H
  intro H locs hP hD hS
  have hPx := hP; have hDx := hD
  obtain ⟨f_152, hPx, hDx⟩ : ∃ g : Nat → Int32, va_P (dC, dI) vwCl [(h0, .inr (15, fs_146)), (qfed, .inl (ke, 200, .inl g))] H ∧ va_D A [(h0, .inr (15, fs_146)), (qfed, .inl (ke, 200, .inl g))] := ⟨_, hP, hD⟩
  replace hP := hPx; replace hD := hDx; clear hPx hDx
  replace hP : va_P (dC, dI) vwCl [(h0, .inr (15, fs_146)), (qfed, .inl (ke, 200, .inl f_152))] H := hP
  replace hD : va_D A [(h0, .inr (15, fs_146)), (qfed, .inl (ke, 200, .inl f_152))] := hD
  refine lv_aload_n hx hb dX15_feed_104 rfl (lv_at hl 2 rfl) ?_
  refine lv_dup hx hb dX15_feed_105 rfl ?_
  refine va_get (D := (dC, dI)) (ci := 15) (v := .int 18) (C := RX15) (T := TX15) (N := 89) hx hb hts (in_m_feed_X15) hown hK hP 0 rfl rfl 18 (by decide) (hts (.fieldLink RX15 299 "MotionSignsModel" "tape" "I") (List.mem_of_getElem? (i := 2) rfl)) (fun _ h9 => h9) (mF.get hF_h0 0 rfl) dX15_feed_106 ?_
  refine lv_iconst (v := 1) hx hb dX15_feed_109 (by decide) ?_
  refine lv_iadd hx hb dX15_feed_110 ?_
  refine lv_topi (fun v_153 ev_153 => ?_)
  have ev_153 : v_153 = 19 := ev_153.trans (by decide)
  subst ev_153
  refine va_put (D := (dC, dI)) (ci := 15) (v := .int 19) (ty := .int) (C := RX15) (T := TX15) (N := 89) hx hb hts (in_m_feed_X15) tyX15 tyX15_ok nmX15 hown hK hP hD hS 0 rfl rfl 18 (by decide) (hts (.fieldLink RX15 299 "MotionSignsModel" "tape" "I") (List.mem_of_getElem? (i := 2) rfl)) (fun _ h9 => h9) rfl (tyX15_ok 18 (by decide)) rfl rfl (mF.lt hF_h0 (by decide)) dX15_feed_111 ?_
  clear hP hD hS; try clear H
  intro H locs hP hD hS
  have hF0 := mF.sub (L' := [(0, .int 0), (19, .int 0), (20, .int (-1)), (21, .int 0), (22, .int 0), (23, .int 0), (24, .int 0), (25, .int 0), (27, .int 0), (28, .int 0), (29, .int 0), (35, .int 0), (17, .int (-1)), (26, .ref qfed), (30, .ref qf), (31, .ref qfd), (33, .ref qs), (36, .ref qk)]) hF_h0 [1, 2, 3, 4, 5, 6, 7, 8, 9, 10, 11, 12, 13, 14, 15, 16, 17, 18] rfl
  have hF1 := mF.put hF0 18 (.int 19) (by decide) rfl
  replace hP : va_P (dC, dI) vwCl [(h0, .inr (15, (fs_146.set 18 (.int 19)))), (qfed, .inl (ke, 200, .inl f_152))] H := hP
  replace hD : va_D A [(h0, .inr (15, (fs_146.set 18 (.int 19)))), (qfed, .inl (ke, 200, .inl f_152))] := hD
  generalize fs_146.set 18 (.int 19) = fs_154 at hP hD hF1
  replace hF_h0 : mF 89 [(18, .int 19), (0, .int 0), (19, .int 0), (20, .int (-1)), (21, .int 0), (22, .int 0), (23, .int 0), (24, .int 0), (25, .int 0), (27, .int 0), (28, .int 0), (29, .int 0), (35, .int 0), (17, .int (-1)), (26, .ref qfed), (30, .ref qf), (31, .ref qfd), (33, .ref qs), (36, .ref qk)] fs_154 := hF1
  clear hF1 hF0
  replace hP : va_P (dC, dI) vwCl [(h0, .inr (15, fs_154)), (qfed, .inl (ke, 200, .inl f_152))] H := hP
  replace hD : va_D A [(h0, .inr (15, fs_154)), (qfed, .inl (ke, 200, .inl f_152))] := hD
  refine lv_iinc (v := 19) (lv' := [(6, .int 19), (7, .int x4), (0, .ref h0), (1, .int x0), (2, .int x1), (3, .int x2), (4, .int x3), (5, .int x4)]) hx hb dX15_feed_114 hl (k := 1) rfl (by decide) (by decide) rfl (fun ls hl => ?_)
  refine lv_goto (tgt := 23) hx hb dX15_feed_117 (by decide) ?_
  refine lv_iload hx hb dX15_feed_23 (lv_at hl 0 rfl) ?_
  refine lv_bipush (v := 20) hx hb dX15_feed_25 (by decide) ?_
  refine lv_icmp_ge (tgt := 120) hx hb dX15_feed_27 (by decide) (fun hc => absurd hc (by decide)) (fun _ => ?_)
  refine lv_iload hx hb dX15_feed_30 (lv_at hl 0 rfl) ?_
  refine lv_iconst (v := 4) hx hb dX15_feed_32 (by decide) ?_
  refine lv_icmp_ge (tgt := 40) hx hb dX15_feed_33 (by decide) (fun _ => ?_) (fun hc => absurd (by decide) hc)
  refine lv_iload hx hb dX15_feed_40 (lv_at hl 0 rfl) ?_
  refine lv_bipush (v := 8) hx hb dX15_feed_42 (by decide) ?_
  refine lv_icmp_ge (tgt := 51) hx hb dX15_feed_44 (by decide) (fun _ => ?_) (fun hc => absurd (by decide) hc)
  refine lv_iload hx hb dX15_feed_51 (lv_at hl 0 rfl) ?_
  refine lv_bipush (v := 12) hx hb dX15_feed_53 (by decide) ?_
  refine lv_icmp_ge (tgt := 62) hx hb dX15_feed_55 (by decide) (fun _ => ?_) (fun hc => absurd (by decide) hc)
  refine lv_iload hx hb dX15_feed_62 (lv_at hl 0 rfl) ?_
  refine lv_bipush (v := 16) hx hb dX15_feed_64 (by decide) ?_
  refine lv_icmp_ge (tgt := 74) hx hb dX15_feed_66 (by decide) (fun _ => ?_) (fun hc => absurd (by decide) hc)
  refine lv_iload hx hb dX15_feed_74 (lv_at hl 7 rfl) ?_
  refine lv_istore (lv' := [(7, .int x4), (6, .int 19), (0, .ref h0), (1, .int x0), (2, .int x1), (3, .int x2), (4, .int x3), (5, .int x4)]) hx hb dX15_feed_76 hl (by decide) rfl (fun ls hl => ?_)
  refine lv_aload_n hx hb dX15_feed_78 rfl (lv_at hl 2 rfl) ?_
  refine va_get (D := (dC, dI)) (ci := 15) (v := .ref qfed) (C := RX15) (T := TX15) (N := 89) hx hb hts (in_m_feed_X15) hown hK hP 0 rfl rfl 26 (by decide) (hts (.fieldLink RX15 124 "MotionSignsModel" "fed" "[I") (List.mem_of_getElem? (i := 3) rfl)) (fun _ h9 => h9) (mF.get hF_h0 14 rfl) dX15_feed_79 ?_
  refine lv_aload_n hx hb dX15_feed_82 rfl (lv_at hl 2 rfl) ?_
  refine va_get (D := (dC, dI)) (ci := 15) (v := .int 19) (C := RX15) (T := TX15) (N := 89) hx hb hts (in_m_feed_X15) hown hK hP 0 rfl rfl 18 (by decide) (hts (.fieldLink RX15 299 "MotionSignsModel" "tape" "I") (List.mem_of_getElem? (i := 2) rfl)) (fun _ h9 => h9) (mF.get hF_h0 0 rfl) dX15_feed_83 ?_
  refine lv_iload hx hb dX15_feed_86 (lv_at hl 0 rfl) ?_
  refine lv_bipush (v := 24) hx hb dX15_feed_88 (by decide) ?_
  refine lv_bipush (v := 8) hx hb dX15_feed_90 (by decide) ?_
  refine lv_iload hx hb dX15_feed_92 (lv_at hl 1 rfl) ?_
  refine lv_iconst (v := 4) hx hb dX15_feed_94 (by decide) ?_
  refine lv_irem hx hb dX15_feed_95 (by decide) ?_
  refine lv_topi (fun v_155 ev_155 => ?_)
  have ev_155 : v_155 = 3 := ev_155.trans (by decide)
  subst ev_155
  refine lv_imul hx hb dX15_feed_96 ?_
  refine lv_topi (fun v_156 ev_156 => ?_)
  have ev_156 : v_156 = 24 := ev_156.trans (by decide)
  subst ev_156
  refine lv_isub hx hb dX15_feed_97 ?_
  refine lv_topi (fun v_157 ev_157 => ?_)
  have ev_157 : v_157 = 0 := ev_157.trans (by decide)
  subst ev_157
  refine lv_ishr hx hb dX15_feed_98 ?_
  refine lv_topi (fun v_158 ev_158 => ?_)
  refine lv_sipush (v := 255) hx hb dX15_feed_99 (by decide) ?_
  refine lv_iand hx hb dX15_feed_102 ?_
  refine lv_topi (fun v_159 ev_159 => ?_)
  refine va_iast hx hb hK hP hD hS 1 0 rfl rfl (by exact fun h => by rcases h with h | h <;> revert h <;> decide) dX15_feed_103 ?_
  clear hP hD hS; try clear H
  intro H locs hP hD hS
  have hPx := hP; have hDx := hD
  obtain ⟨f_160, hPx, hDx⟩ : ∃ g : Nat → Int32, va_P (dC, dI) vwCl [(h0, .inr (15, fs_154)), (qfed, .inl (ke, 200, .inl g))] H ∧ va_D A [(h0, .inr (15, fs_154)), (qfed, .inl (ke, 200, .inl g))] := ⟨_, hP, hD⟩
  replace hP := hPx; replace hD := hDx; clear hPx hDx
  replace hP : va_P (dC, dI) vwCl [(h0, .inr (15, fs_154)), (qfed, .inl (ke, 200, .inl f_160))] H := hP
  replace hD : va_D A [(h0, .inr (15, fs_154)), (qfed, .inl (ke, 200, .inl f_160))] := hD
  refine lv_aload_n hx hb dX15_feed_104 rfl (lv_at hl 2 rfl) ?_
  refine lv_dup hx hb dX15_feed_105 rfl ?_
  refine va_get (D := (dC, dI)) (ci := 15) (v := .int 19) (C := RX15) (T := TX15) (N := 89) hx hb hts (in_m_feed_X15) hown hK hP 0 rfl rfl 18 (by decide) (hts (.fieldLink RX15 299 "MotionSignsModel" "tape" "I") (List.mem_of_getElem? (i := 2) rfl)) (fun _ h9 => h9) (mF.get hF_h0 0 rfl) dX15_feed_106 ?_
  refine lv_iconst (v := 1) hx hb dX15_feed_109 (by decide) ?_
  refine lv_iadd hx hb dX15_feed_110 ?_
  refine lv_topi (fun v_161 ev_161 => ?_)
  have ev_161 : v_161 = 20 := ev_161.trans (by decide)
  subst ev_161
  refine va_put (D := (dC, dI)) (ci := 15) (v := .int 20) (ty := .int) (C := RX15) (T := TX15) (N := 89) hx hb hts (in_m_feed_X15) tyX15 tyX15_ok nmX15 hown hK hP hD hS 0 rfl rfl 18 (by decide) (hts (.fieldLink RX15 299 "MotionSignsModel" "tape" "I") (List.mem_of_getElem? (i := 2) rfl)) (fun _ h9 => h9) rfl (tyX15_ok 18 (by decide)) rfl rfl (mF.lt hF_h0 (by decide)) dX15_feed_111 ?_
  clear hP hD hS; try clear H
  intro H locs hP hD hS
  have hF0 := mF.sub (L' := [(0, .int 0), (19, .int 0), (20, .int (-1)), (21, .int 0), (22, .int 0), (23, .int 0), (24, .int 0), (25, .int 0), (27, .int 0), (28, .int 0), (29, .int 0), (35, .int 0), (17, .int (-1)), (26, .ref qfed), (30, .ref qf), (31, .ref qfd), (33, .ref qs), (36, .ref qk)]) hF_h0 [1, 2, 3, 4, 5, 6, 7, 8, 9, 10, 11, 12, 13, 14, 15, 16, 17, 18] rfl
  have hF1 := mF.put hF0 18 (.int 20) (by decide) rfl
  replace hP : va_P (dC, dI) vwCl [(h0, .inr (15, (fs_154.set 18 (.int 20)))), (qfed, .inl (ke, 200, .inl f_160))] H := hP
  replace hD : va_D A [(h0, .inr (15, (fs_154.set 18 (.int 20)))), (qfed, .inl (ke, 200, .inl f_160))] := hD
  generalize fs_154.set 18 (.int 20) = fs_162 at hP hD hF1
  replace hF_h0 : mF 89 [(18, .int 20), (0, .int 0), (19, .int 0), (20, .int (-1)), (21, .int 0), (22, .int 0), (23, .int 0), (24, .int 0), (25, .int 0), (27, .int 0), (28, .int 0), (29, .int 0), (35, .int 0), (17, .int (-1)), (26, .ref qfed), (30, .ref qf), (31, .ref qfd), (33, .ref qs), (36, .ref qk)] fs_162 := hF1
  clear hF1 hF0
  replace hP : va_P (dC, dI) vwCl [(h0, .inr (15, fs_162)), (qfed, .inl (ke, 200, .inl f_160))] H := hP
  replace hD : va_D A [(h0, .inr (15, fs_162)), (qfed, .inl (ke, 200, .inl f_160))] := hD
  refine lv_iinc (v := 20) (lv' := [(6, .int 20), (7, .int x4), (0, .ref h0), (1, .int x0), (2, .int x1), (3, .int x2), (4, .int x3), (5, .int x4)]) hx hb dX15_feed_114 hl (k := 1) rfl (by decide) (by decide) rfl (fun ls hl => ?_)
  refine lv_goto (tgt := 23) hx hb dX15_feed_117 (by decide) ?_
  refine lv_iload hx hb dX15_feed_23 (lv_at hl 0 rfl) ?_
  refine lv_bipush (v := 20) hx hb dX15_feed_25 (by decide) ?_
  refine lv_icmp_ge (tgt := 120) hx hb dX15_feed_27 (by decide) (fun _ => ?_) (fun hc => absurd (by decide) hc)
  refine lv_aload_n hx hb dX15_feed_120 rfl (lv_at hl 2 rfl) ?_
  refine va_get (D := (dC, dI)) (ci := 15) (v := .int 20) (C := RX15) (T := TX15) (N := 89) hx hb hts (in_m_feed_X15) hown hK hP 0 rfl rfl 18 (by decide) (hts (.fieldLink RX15 299 "MotionSignsModel" "tape" "I") (List.mem_of_getElem? (i := 2) rfl)) (fun _ h9 => h9) (mF.get hF_h0 0 rfl) dX15_feed_121 ?_
  have hP9 := hP.sub (ws' := [(h0, .inr (15, fs_162))]) [0] rfl
  have hD9 := hD.sub (ws' := [(h0, .inr (15, fs_162))]) [0] (by decide) rfl
  have hK9 := hK.sub (tys' := []) [] rfl
  rw [← hAe] at hD9
  refine W.widen (k := 0) (n := 0) (Nat.le_of_ble_eq_true rfl) (Nat.le_of_ble_eq_true rfl) ?_
  subst hAe
  exact (W.iret (v := 20) hx hb hr (fun t ht hW => ⟨⟨20, (), rfl, rfl, fs_162, by rw [ht]; exact hP9, va_K.moved hW.alike hK9, hD9, (mF.sub hF_h0 [1] rfl)⟩, hS.F ht⟩) hS.2.2 dX15_feed_124)
def wv_m_byteAt : List Cond := .code yX15_byteAt cX15_byteAt 2 (some .int) :: ([.fieldLink RX15 302 "MotionSignsModel" "size" "I"] ++ (wsX150 ++ ([])))
theorem gw_m_byteAt : wv_m_byteAt.all goodWord = true := by decide +kernel
theorem in_m_byteAt_X15 : ∀ w ∈ wsX150, w ∈ wv_m_byteAt := fun _ h => List.mem_cons_of_mem _ (List.mem_append_right _ (List.mem_append_left _ h))
set_option maxHeartbeats 4000000 in
set_option maxRecDepth 100000 in
/-- byteAt -/
theorem c_m_byteAt (l : Launch) (dC : Nat → ClassId) (dI : Nat → Nat → Nat) (h0 : Nat) (fs_h0 : List Value) (hF_h0 : mF 89 [(19, .int 0)] fs_h0) (sz : Nat) : Met l yX15_byteAt wv_m_byteAt ({ frames := 0, cells := 0, slots := 0, locals := 0 }) (va_Pc [.ref h0, .int 0] (fun U => U.heap.size = sz ∧ va_P (dC, dI) vwCl [(h0, .inr (15, fs_h0))] U.heap ∧ va_K (dC, dI) vwCl [] U ∧ va_D (fun _ => True) [(h0, .inr (15, fs_h0))] ∧ w_N U)) (va_Qi (fun (r : Int32) (_ : Unit) => r = (-1)) (fun _ t => va_P (dC, dI) vwCl [(h0, .inr (15, fs_h0))] t.heap ∧ va_K (dC, dI) vwCl [] t ∧ va_D (va_A [(h0, .inr (15, fs_h0))] sz) [(h0, .inr (15, fs_h0))]) (va_A [(h0, .inr (15, fs_h0))] sz)) 0 0 (va_A [(h0, .inr (15, fs_h0))] sz) := by
  refine Met.ofW (cc := cX15_byteAt) (maxL := 2) (ret := (some .int)) (by decide) rfl ?_
  intro p e s m args below meth c s₁ B hml hv
  obtain ⟨rfl, hsz, hP, hK, hD0, hN⟩ := hv
  have hx := B.exec
  have hb := B.bytes
  have hr := B.returns
  have hts := atoms_spec (ws := wv_m_byteAt) B.pre
  have hown : s.vm.findClass RX15 = some m.cls := findClass_of_methodNamed B.named
  have hlocks := B.notSynchronized
  subst hsz
  have hD := hD0.self (sz := s.heap.size)
  generalize hAe : va_A [(h0, .inr (15, fs_h0))] s.heap.size = A at hD ⊢
  have hA : ∀ q : Nat, s.heap.size ≤ q → A q := fun q h => by rw [← hAe]; exact Or.inr h
  obtain ⟨H, hHe, hP, hS⟩ : ∃ H : Heap, H = s.heap ∧ va_P (dC, dI) vwCl [(h0, .inr (15, fs_h0))] H ∧ va_S A s.heap H [] := ⟨s.heap, rfl, hP, va_S.rf⟩
  have hl := lv_entry ([.ref h0, .int 0]) (n := 2) (Nat.le_of_ble_eq_true rfl)
  rw [lg_entry_eq]
  generalize (lg_sl ([.ref h0, .int 0]) ++ List.replicate (2 - (lg_sl ([.ref h0, .int 0])).length) Slot.unset).toArray = ls at hl ⊢
  have hl : lv_has ls 2 [(0, .ref h0), (1, .int 0)] := hl
  rw [← hHe]; clear hHe
  refine lv_iload_n hx hb dX15_byteAt_0 rfl (lv_at hl 1 rfl) ?_
  refine lv_aload_n hx hb dX15_byteAt_1 rfl (lv_at hl 0 rfl) ?_
  refine va_get (D := (dC, dI)) (ci := 15) (v := .int 0) (C := RX15) (T := TX15) (N := 89) hx hb hts (in_m_byteAt_X15) hown hK hP 0 rfl rfl 19 (by decide) (hts (.fieldLink RX15 302 "MotionSignsModel" "size" "I") (List.mem_of_getElem? (i := 1) rfl)) (fun _ h9 => h9) (mF.get hF_h0 0 rfl) dX15_byteAt_2 ?_
  refine lv_icmp_lt (tgt := 12) hx hb dX15_byteAt_5 (by decide) (fun hc => absurd hc (by decide)) (fun _ => ?_)
  refine lv_iconst (v := -1) hx hb dX15_byteAt_8 (by decide) ?_
  refine lv_goto (tgt := 18) hx hb dX15_byteAt_9 (by decide) ?_
  have hP9 := hP.sub (ws' := [(h0, .inr (15, fs_h0))]) [0] rfl
  have hD9 := hD.sub (ws' := [(h0, .inr (15, fs_h0))]) [0] (by decide) rfl
  have hK9 := hK.sub (tys' := []) [] rfl
  rw [← hAe] at hD9
  refine W.widen (k := 0) (n := 0) (Nat.le_of_ble_eq_true rfl) (Nat.le_of_ble_eq_true rfl) ?_
  subst hAe
  exact (W.iret (v := (-1)) hx hb hr (fun t ht hW => ⟨⟨(-1), (), rfl, rfl, by rw [ht]; exact hP9, va_K.moved hW.alike hK9, hD9⟩, hS.F ht⟩) hS.2.2 dX15_byteAt_18)
def wv_m_blanks : List Cond := .code yX15_blanks cX15_blanks 1 none :: ([.fieldLink RX15 303 "MotionSignsModel" "at" "I", .methodLink RX15 306 yX15_byteAt, .instanceMethod yX15_byteAt, .selects RX15 yX15_byteAt yX15_byteAt, .initialized RX15] ++ (wsX150 ++ (wv_m_byteAt ++ ([]))))
theorem gw_m_blanks : wv_m_blanks.all goodWord = true := by decide +kernel
theorem in_m_blanks_X15 : ∀ w ∈ wsX150, w ∈ wv_m_blanks := fun _ h => List.mem_cons_of_mem _ (List.mem_append_right _ (List.mem_append_left _ h))
theorem g_m_blanks_m_byteAt_306 : GoodIn wv_m_blanks (wsV RX15 306 RX15 yX15_byteAt wv_m_byteAt) := goodIn_app (goodIn_of _ (by decide +kernel)) (goodIn_sub (fun _ h => List.mem_cons_of_mem _ (List.mem_append_right _ (List.mem_append_right _ (List.mem_append_left _ h)))) gw_m_byteAt)
set_option maxHeartbeats 4000000 in
set_option maxRecDepth 100000 in
/-- blanks -/
theorem c_m_blanks (l : Launch) (dC : Nat → ClassId) (dI : Nat → Nat → Nat) (h0 : Nat) (fs_h0 : List Value) (hF_h0 : mF 89 [(19, .int 0), (21, .int 0)] fs_h0) (sz : Nat) : Met l yX15_blanks wv_m_blanks ({ frames := 1, cells := 0, slots := 0, locals := 21 }) (va_Pc [.ref h0] (fun U => U.heap.size = sz ∧ va_P (dC, dI) vwCl [(h0, .inr (15, fs_h0))] U.heap ∧ va_K (dC, dI) vwCl [] U ∧ va_D (fun _ => True) [(h0, .inr (15, fs_h0))] ∧ w_N U)) (va_Qv (fun (_ : Unit) => True) (fun _ t => va_P (dC, dI) vwCl [(h0, .inr (15, fs_h0))] t.heap ∧ va_K (dC, dI) vwCl [] t ∧ va_D (va_A [(h0, .inr (15, fs_h0))] sz) [(h0, .inr (15, fs_h0))]) (va_A [(h0, .inr (15, fs_h0))] sz)) 0 0 (va_A [(h0, .inr (15, fs_h0))] sz) := by
  refine Met.ofW (cc := cX15_blanks) (maxL := 1) (ret := none) (by decide) rfl ?_
  intro p e s m args below meth c s₁ B hml hv
  obtain ⟨rfl, hsz, hP, hK, hD0, hN⟩ := hv
  have hx := B.exec
  have hb := B.bytes
  have hr := B.returns
  have hts := atoms_spec (ws := wv_m_blanks) B.pre
  have hown : s.vm.findClass RX15 = some m.cls := findClass_of_methodNamed B.named
  have hlocks := B.notSynchronized
  subst hsz
  have hD := hD0.self (sz := s.heap.size)
  generalize hAe : va_A [(h0, .inr (15, fs_h0))] s.heap.size = A at hD ⊢
  have hA : ∀ q : Nat, s.heap.size ≤ q → A q := fun q h => by rw [← hAe]; exact Or.inr h
  obtain ⟨H, hHe, hP, hS⟩ : ∃ H : Heap, H = s.heap ∧ va_P (dC, dI) vwCl [(h0, .inr (15, fs_h0))] H ∧ va_S A s.heap H [] := ⟨s.heap, rfl, hP, va_S.rf⟩
  have hl := lv_entry ([.ref h0]) (n := 1) (Nat.le_of_ble_eq_true rfl)
  rw [lg_entry_eq]
  generalize (lg_sl ([.ref h0]) ++ List.replicate (1 - (lg_sl ([.ref h0])).length) Slot.unset).toArray = ls at hl ⊢
  have hl : lv_has ls 1 [(0, .ref h0)] := hl
  rw [← hHe]; clear hHe
  refine lv_aload_n hx hb dX15_blanks_0 rfl (lv_at hl 0 rfl) ?_
  refine lv_aload_n hx hb dX15_blanks_1 rfl (lv_at hl 0 rfl) ?_
  refine va_get (D := (dC, dI)) (ci := 15) (v := .int 0) (C := RX15) (T := TX15) (N := 89) hx hb hts (in_m_blanks_X15) hown hK hP 0 rfl rfl 21 (by decide) (hts (.fieldLink RX15 303 "MotionSignsModel" "at" "I") (List.mem_of_getElem? (i := 1) rfl)) (fun _ h9 => h9) (mF.get hF_h0 1 rfl) dX15_blanks_2 ?_
  have hPc := hP.sub (ws' := [(h0, .inr (15, fs_h0))]) [0] rfl
  have hDc := hD.sub (ws' := [(h0, .inr (15, fs_h0))]) [0] (by decide) rfl
  have hKc := hK.sub (tys' := []) [] rfl
  have hFc := va_free (wc := [(h0, .inr (15, fs_h0))]) hD hS hA [0] rfl
  refine va_calli (va_runV (As := [.int 0]) (rest := []) ⟨hx, hb, hml, hown, hts⟩ (c_m_byteAt l dC dI h0 fs_h0 (mF.sub hF_h0 [0] rfl) H.size) (cwV 1 hts g_m_blanks_m_byteAt_306 rfl rfl rfl hv_X15_byteAt ⟨Nat.le_of_ble_eq_true rfl, Nat.le_of_ble_eq_true rfl⟩) ⟨fun a U g mk q => by obtain ⟨q0, q1, qP, qK, qD, qE0⟩ := q; exact ⟨q0, q1, qP, va_K.moved (u := U) (U := U.calling g mk a) (Vm.Alike.refl U.vm) qK, qD, w_N.same rfl qE0⟩, va_recv hKc hPc (ci := 15) (q0 := 0) rfl rfl, fun U hU hW => ⟨rfl, by rw [hU], by rw [hU]; exact hPc, va_K.moved hW.alike hKc, hDc.weaken (fun _ _ _ _ => trivial), w_N.warm hW hN⟩⟩ rfl rfl hl.1 rfl (lv_room (Nat.le_of_ble_eq_true rfl)) dX15_blanks_5 ⟨(Nat.le_of_ble_eq_true rfl), (Nat.le_of_ble_eq_true rfl)⟩) hS (fun q _ h => hFc q h) hFc (fun r_1 u t H1 locs1 ht hvm hw hB hz1 hk1 hS1 => ?_)
  obtain ⟨hP1, hK1, hD1⟩ := hB
  rw [ht] at hP1
  have hK1 := va_K.moved hvm.symm hK1
  have hJ := va_join (wr := []) (w1 := [(h0, .inr (15, fs_h0))]) hP hD [0] [] rfl rfl (by decide) (by decide) hk1 hFc hP1 hD1
  clear hP hD hPc hDc hKc hFc hz1; try clear hk1
  obtain ⟨hP, hD⟩ := hJ
  replace hK := (hK.sub (tys' := []) [] rfl).app (hK1.sub (tys' := []) [] rfl)
  clear hP1 hK1 hD1 hvm ht hS; try clear t
  try clear H
  revert hS1
  intro hS
  generalize H1 = H at hP hS ⊢; try clear H1
  replace hP : va_P (dC, dI) vwCl [(h0, .inr (15, fs_h0))] H := hP
  replace hD : va_D A [(h0, .inr (15, fs_h0))] := hD
  replace hK : va_K (dC, dI) vwCl [] s := hK
  have hw_2 : r_1 = (-1) := hw; clear hw
  subst hw_2
  refine lv_bipush (v := 32) hx hb dX15_blanks_8 (by decide) ?_
  refine lv_icmp_ne (tgt := 26) hx hb dX15_blanks_10 (by decide) (fun _ => ?_) (fun hc => absurd hc (by decide))
  have hP9 := hP.sub (ws' := [(h0, .inr (15, fs_h0))]) [0] rfl
  have hD9 := hD.sub (ws' := [(h0, .inr (15, fs_h0))]) [0] (by decide) rfl
  have hK9 := hK.sub (tys' := []) [] rfl
  rw [← hAe] at hD9
  refine W.widen (k := 0) (n := 0) (Nat.le_of_ble_eq_true rfl) (Nat.le_of_ble_eq_true rfl) ?_
  subst hAe
  exact (W.vret hx hb hr (fun t ht hW => ⟨⟨(), rfl, trivial, by rw [ht]; exact hP9, va_K.moved hW.alike hK9, hD9⟩, hS.F ht⟩) hS.2.2 dX15_blanks_26)
def wv_m_isLetter : List Cond := .code yX15_isLetter cX15_isLetter 1 (some .boolean) :: ([] ++ ([]))
theorem gw_m_isLetter : wv_m_isLetter.all goodWord = true := by decide +kernel
set_option maxHeartbeats 4000000 in
set_option maxRecDepth 100000 in
/-- isLetter -/
theorem c_m_isLetter (l : Launch) (dC : Nat → ClassId) (dI : Nat → Nat → Nat) (sz : Nat) : Met l yX15_isLetter wv_m_isLetter ({ frames := 0, cells := 0, slots := 0, locals := 0 }) (va_Pc [.int (-1)] (fun U => U.heap.size = sz ∧ va_P (dC, dI) vwCl [] U.heap ∧ va_K (dC, dI) vwCl [] U ∧ va_D (fun _ => True) [] ∧ w_N U)) (va_Qi (fun (r : Int32) (_ : Unit) => r = 0) (fun _ t => va_P (dC, dI) vwCl [] t.heap ∧ va_K (dC, dI) vwCl [] t ∧ va_D (va_A [] sz) []) (va_A [] sz)) 0 0 (va_A [] sz) := by
  refine Met.ofW (cc := cX15_isLetter) (maxL := 1) (ret := (some .boolean)) (by decide) rfl ?_
  intro p e s m args below meth c s₁ B hml hv
  obtain ⟨rfl, hsz, hP, hK, hD0, hN⟩ := hv
  have hx := B.exec
  have hb := B.bytes
  have hr := B.returns
  have hts := atoms_spec (ws := wv_m_isLetter) B.pre
  have hown : s.vm.findClass RX15 = some m.cls := findClass_of_methodNamed B.named
  have hlocks := B.notSynchronized
  subst hsz
  have hD := hD0.self (sz := s.heap.size)
  generalize hAe : va_A [] s.heap.size = A at hD ⊢
  have hA : ∀ q : Nat, s.heap.size ≤ q → A q := fun q h => by rw [← hAe]; exact Or.inr h
  obtain ⟨H, hHe, hP, hS⟩ : ∃ H : Heap, H = s.heap ∧ va_P (dC, dI) vwCl [] H ∧ va_S A s.heap H [] := ⟨s.heap, rfl, hP, va_S.rf⟩
  have hl := lv_entry ([.int (-1)]) (n := 1) (Nat.le_of_ble_eq_true rfl)
  rw [lg_entry_eq]
  generalize (lg_sl ([.int (-1)]) ++ List.replicate (1 - (lg_sl ([.int (-1)])).length) Slot.unset).toArray = ls at hl ⊢
  have hl : lv_has ls 1 [(0, .int (-1))] := hl
  rw [← hHe]; clear hHe
  refine lv_iload_n hx hb dX15_isLetter_0 rfl (lv_at hl 0 rfl) ?_
  refine lv_bipush (v := 97) hx hb dX15_isLetter_1 (by decide) ?_
  refine lv_icmp_lt (tgt := 16) hx hb dX15_isLetter_3 (by decide) (fun _ => ?_) (fun hc => absurd (by decide) hc)
  refine lv_iconst (v := 0) hx hb dX15_isLetter_16 (by decide) ?_
  have hP9 := hP.sub (ws' := []) [] rfl
  have hD9 := hD.sub (ws' := []) [] (by decide) rfl
  have hK9 := hK.sub (tys' := []) [] rfl
  rw [← hAe] at hD9
  refine W.widen (k := 0) (n := 0) (Nat.le_of_ble_eq_true rfl) (Nat.le_of_ble_eq_true rfl) ?_
  subst hAe
  exact (W.zret (v := 0) hx hb hr (by decide) (fun t ht hW => ⟨⟨0, (), rfl, rfl, by rw [ht]; exact hP9, va_K.moved hW.alike hK9, hD9⟩, hS.F ht⟩) hS.2.2 dX15_isLetter_17)
def wv_m_wordHere : List Cond := .code yX15_wordHere cX15_wordHere 3 (some .int) :: ([.methodLink RX15 316 yX15_blanks, .instanceMethod yX15_blanks, .selects RX15 yX15_blanks yX15_blanks, .initialized RX15, .fieldLink RX15 303 "MotionSignsModel" "at" "I", .methodLink RX15 306 yX15_byteAt, .instanceMethod yX15_byteAt, .selects RX15 yX15_byteAt yX15_byteAt, .methodLink RX15 328 yX15_isLetter, .static yX15_isLetter] ++ (wv_m_blanks ++ (wsX150 ++ (wv_m_byteAt ++ (wv_m_isLetter ++ ([]))))))
theorem gw_m_wordHere : wv_m_wordHere.all goodWord = true := by decide +kernel
theorem in_m_wordHere_X15 : ∀ w ∈ wsX150, w ∈ wv_m_wordHere := fun _ h => List.mem_cons_of_mem _ (List.mem_append_right _ (List.mem_append_right _ (List.mem_append_left _ h)))
theorem g_m_wordHere_m_blanks_316 : GoodIn wv_m_wordHere (wsV RX15 316 RX15 yX15_blanks wv_m_blanks) := goodIn_app (goodIn_of _ (by decide +kernel)) (goodIn_sub (fun _ h => List.mem_cons_of_mem _ (List.mem_append_right _ (List.mem_append_left _ h))) gw_m_blanks)
theorem g_m_wordHere_m_byteAt_306 : GoodIn wv_m_wordHere (wsV RX15 306 RX15 yX15_byteAt wv_m_byteAt) := goodIn_app (goodIn_of _ (by decide +kernel)) (goodIn_sub (fun _ h => List.mem_cons_of_mem _ (List.mem_append_right _ (List.mem_append_right _ (List.mem_append_right _ (List.mem_append_left _ h))))) gw_m_byteAt)
theorem g_m_wordHere_m_isLetter_328 : GoodIn wv_m_wordHere (va_wsS RX15 328 yX15_isLetter wv_m_isLetter) := goodIn_app (goodIn_of _ (by decide +kernel)) (goodIn_sub (fun _ h => List.mem_cons_of_mem _ (List.mem_append_right _ (List.mem_append_right _ (List.mem_append_right _ (List.mem_append_right _ (List.mem_append_left _ h)))))) gw_m_isLetter)
set_option maxHeartbeats 4000000 in
set_option maxRecDepth 100000 in
/-- wordHere -/
theorem c_m_wordHere (l : Launch) (dC : Nat → ClassId) (dI : Nat → Nat → Nat) (h0 : Nat) (fs_h0 : List Value) (hF_h0 : mF 89 [(19, .int 0), (21, .int 0)] fs_h0) (sz : Nat) : Met l yX15_wordHere wv_m_wordHere ({ frames := 2, cells := 0, slots := 0, locals := 41 }) (va_Pc [.ref h0] (fun U => U.heap.size = sz ∧ va_P (dC, dI) vwCl [(h0, .inr (15, fs_h0))] U.heap ∧ va_K (dC, dI) vwCl [] U ∧ va_D (fun _ => True) [(h0, .inr (15, fs_h0))] ∧ w_N U)) (va_Qi (fun (r : Int32) (_ : Unit) => r = 0) (fun _ t => va_P (dC, dI) vwCl [(h0, .inr (15, fs_h0))] t.heap ∧ va_K (dC, dI) vwCl [] t ∧ va_D (va_A [(h0, .inr (15, fs_h0))] sz) [(h0, .inr (15, fs_h0))]) (va_A [(h0, .inr (15, fs_h0))] sz)) 0 0 (va_A [(h0, .inr (15, fs_h0))] sz) := by
  refine Met.ofW (cc := cX15_wordHere) (maxL := 3) (ret := (some .int)) (by decide) rfl ?_
  intro p e s m args below meth c s₁ B hml hv
  obtain ⟨rfl, hsz, hP, hK, hD0, hN⟩ := hv
  have hx := B.exec
  have hb := B.bytes
  have hr := B.returns
  have hts := atoms_spec (ws := wv_m_wordHere) B.pre
  have hown : s.vm.findClass RX15 = some m.cls := findClass_of_methodNamed B.named
  have hlocks := B.notSynchronized
  subst hsz
  have hD := hD0.self (sz := s.heap.size)
  generalize hAe : va_A [(h0, .inr (15, fs_h0))] s.heap.size = A at hD ⊢
  have hA : ∀ q : Nat, s.heap.size ≤ q → A q := fun q h => by rw [← hAe]; exact Or.inr h
  obtain ⟨H, hHe, hP, hS⟩ : ∃ H : Heap, H = s.heap ∧ va_P (dC, dI) vwCl [(h0, .inr (15, fs_h0))] H ∧ va_S A s.heap H [] := ⟨s.heap, rfl, hP, va_S.rf⟩
  have hl := lv_entry ([.ref h0]) (n := 3) (Nat.le_of_ble_eq_true rfl)
  rw [lg_entry_eq]
  generalize (lg_sl ([.ref h0]) ++ List.replicate (3 - (lg_sl ([.ref h0])).length) Slot.unset).toArray = ls at hl ⊢
  have hl : lv_has ls 3 [(0, .ref h0)] := hl
  rw [← hHe]; clear hHe
  refine lv_aload_n hx hb dX15_wordHere_0 rfl (lv_at hl 0 rfl) ?_
  have hPc := hP.sub (ws' := [(h0, .inr (15, fs_h0))]) [0] rfl
  have hDc := hD.sub (ws' := [(h0, .inr (15, fs_h0))]) [0] (by decide) rfl
  have hKc := hK.sub (tys' := []) [] rfl
  have hFc := va_free (wc := [(h0, .inr (15, fs_h0))]) hD hS hA [0] rfl
  refine va_callv (va_runV (As := []) (rest := []) ⟨hx, hb, hml, hown, hts⟩ (c_m_blanks l dC dI h0 fs_h0 (mF.sub hF_h0 [0, 1] rfl) H.size) (cwV 0 hts g_m_wordHere_m_blanks_316 rfl rfl rfl hv_X15_blanks ⟨Nat.le_of_ble_eq_true rfl, Nat.le_of_ble_eq_true rfl⟩) ⟨fun a U g mk q => by obtain ⟨q0, q1, qP, qK, qD, qE0⟩ := q; exact ⟨q0, q1, qP, va_K.moved (u := U) (U := U.calling g mk a) (Vm.Alike.refl U.vm) qK, qD, w_N.same rfl qE0⟩, va_recv hKc hPc (ci := 15) (q0 := 0) rfl rfl, fun U hU hW => ⟨rfl, by rw [hU], by rw [hU]; exact hPc, va_K.moved hW.alike hKc, hDc.weaken (fun _ _ _ _ => trivial), w_N.warm hW hN⟩⟩ rfl rfl hl.1 rfl (lv_room (Nat.le_of_ble_eq_true rfl)) dX15_wordHere_1 ⟨(Nat.le_of_ble_eq_true rfl), (Nat.le_of_ble_eq_true rfl)⟩) hS (fun q _ h => hFc q h) hFc (fun u t H1 locs1 ht hvm hw hB hz1 hk1 hS1 => ?_)
  obtain ⟨hP1, hK1, hD1⟩ := hB
  rw [ht] at hP1
  have hK1 := va_K.moved hvm.symm hK1
  have hJ := va_join (wr := []) (w1 := [(h0, .inr (15, fs_h0))]) hP hD [0] [] rfl rfl (by decide) (by decide) hk1 hFc hP1 hD1
  clear hP hD hPc hDc hKc hFc hz1; try clear hk1
  obtain ⟨hP, hD⟩ := hJ
  replace hK := (hK.sub (tys' := []) [] rfl).app (hK1.sub (tys' := []) [] rfl)
  clear hP1 hK1 hD1 hvm ht hS; try clear t
  try clear H
  revert hS1
  intro hS
  generalize H1 = H at hP hS ⊢; try clear H1
  replace hP : va_P (dC, dI) vwCl [(h0, .inr (15, fs_h0))] H := hP
  replace hD : va_D A [(h0, .inr (15, fs_h0))] := hD
  replace hK : va_K (dC, dI) vwCl [] s := hK
  have hw_1 : True := hw; clear hw
  refine lv_iconst (v := 0) hx hb dX15_wordHere_4 (by decide) ?_
  refine lv_istore_n (lv' := [(1, .int 0), (0, .ref h0)]) hx hb dX15_wordHere_5 rfl hl (by decide) rfl (fun ls hl => ?_)
  refine lv_iconst (v := 0) hx hb dX15_wordHere_6 (by decide) ?_
  refine lv_istore_n (lv' := [(2, .int 0), (1, .int 0), (0, .ref h0)]) hx hb dX15_wordHere_7 rfl hl (by decide) rfl (fun ls hl => ?_)
  refine lv_aload_n hx hb dX15_wordHere_8 rfl (lv_at hl 2 rfl) ?_
  refine lv_aload_n hx hb dX15_wordHere_9 rfl (lv_at hl 2 rfl) ?_
  refine va_get (D := (dC, dI)) (ci := 15) (v := .int 0) (C := RX15) (T := TX15) (N := 89) hx hb hts (in_m_wordHere_X15) hown hK hP 0 rfl rfl 21 (by decide) (hts (.fieldLink RX15 303 "MotionSignsModel" "at" "I") (List.mem_of_getElem? (i := 5) rfl)) (fun _ h9 => h9) (mF.get hF_h0 1 rfl) dX15_wordHere_10 ?_
  refine lv_iload_n hx hb dX15_wordHere_13 rfl (lv_at hl 0 rfl) ?_
  refine lv_iadd hx hb dX15_wordHere_14 ?_
  refine lv_topi (fun v_2 ev_2 => ?_)
  have ev_2 : v_2 = 0 := ev_2.trans (by decide)
  subst ev_2
  have hPc := hP.sub (ws' := [(h0, .inr (15, fs_h0))]) [0] rfl
  have hDc := hD.sub (ws' := [(h0, .inr (15, fs_h0))]) [0] (by decide) rfl
  have hKc := hK.sub (tys' := []) [] rfl
  have hFc := va_free (wc := [(h0, .inr (15, fs_h0))]) hD hS hA [0] rfl
  refine va_calli (va_runV (As := [.int 0]) (rest := []) ⟨hx, hb, hml, hown, hts⟩ (c_m_byteAt l dC dI h0 fs_h0 (mF.sub hF_h0 [0] rfl) H.size) (cwV 1 hts g_m_wordHere_m_byteAt_306 rfl rfl rfl hv_X15_byteAt ⟨Nat.le_of_ble_eq_true rfl, Nat.le_of_ble_eq_true rfl⟩) ⟨fun a U g mk q => by obtain ⟨q0, q1, qP, qK, qD, qE0⟩ := q; exact ⟨q0, q1, qP, va_K.moved (u := U) (U := U.calling g mk a) (Vm.Alike.refl U.vm) qK, qD, w_N.same rfl qE0⟩, va_recv hKc hPc (ci := 15) (q0 := 0) rfl rfl, fun U hU hW => ⟨rfl, by rw [hU], by rw [hU]; exact hPc, va_K.moved hW.alike hKc, hDc.weaken (fun _ _ _ _ => trivial), w_N.warm hW hN⟩⟩ rfl rfl hl.1 rfl (lv_room (Nat.le_of_ble_eq_true rfl)) dX15_wordHere_15 ⟨(Nat.le_of_ble_eq_true rfl), (Nat.le_of_ble_eq_true rfl)⟩) hS (fun q _ h => hFc q h) hFc (fun r_3 u t H1 locs1 ht hvm hw hB hz1 hk1 hS1 => ?_)
  obtain ⟨hP1, hK1, hD1⟩ := hB
  rw [ht] at hP1
  have hK1 := va_K.moved hvm.symm hK1
  have hJ := va_join (wr := []) (w1 := [(h0, .inr (15, fs_h0))]) hP hD [0] [] rfl rfl (by decide) (by decide) hk1 hFc hP1 hD1
  clear hP hD hPc hDc hKc hFc hz1; try clear hk1
  obtain ⟨hP, hD⟩ := hJ
  replace hK := (hK.sub (tys' := []) [] rfl).app (hK1.sub (tys' := []) [] rfl)
  clear hP1 hK1 hD1 hvm ht hS; try clear t
  try clear H
  revert hS1
  intro hS
  generalize H1 = H at hP hS ⊢; try clear H1
  replace hP : va_P (dC, dI) vwCl [(h0, .inr (15, fs_h0))] H := hP
  replace hD : va_D A [(h0, .inr (15, fs_h0))] := hD
  replace hK : va_K (dC, dI) vwCl [] s := hK
  have hw_4 : r_3 = (-1) := hw; clear hw
  subst hw_4
  have hPc := hP.sub (ws' := []) [] rfl
  have hDc := hD.sub (ws' := []) [] (by decide) rfl
  have hKc := hK.sub (tys' := []) [] rfl
  have hFc := va_free (wc := []) hD hS hA [] rfl
  refine va_calli (va_runS (As := [.int (-1)]) (rest := []) ⟨hx, hb, hml, hown, hts⟩ (c_m_isLetter l dC dI  H.size) (va_cwS 1 hts g_m_wordHere_m_isLetter_328 rfl rfl rfl hd_X15_isLetter ⟨Nat.le_of_ble_eq_true rfl, Nat.le_of_ble_eq_true rfl⟩) ⟨fun a U g mk q => by obtain ⟨q0, q1, qP, qK, qD, qE0⟩ := q; exact ⟨q0, q1, qP, va_K.moved (u := U) (U := U.calling g mk a) (Vm.Alike.refl U.vm) qK, qD, w_N.same rfl qE0⟩, fun U hU hW => ⟨rfl, by rw [hU], by rw [hU]; exact hPc, va_K.moved hW.alike hKc, hDc.weaken (fun _ _ _ _ => trivial), w_N.warm hW hN⟩⟩ rfl rfl hl.1 rfl (lv_room (Nat.le_of_ble_eq_true rfl)) dX15_wordHere_18 ⟨(Nat.le_of_ble_eq_true rfl), (Nat.le_of_ble_eq_true rfl)⟩) hS (fun q _ h => hFc q h) hFc (fun r_5 u t H1 locs1 ht hvm hw hB hz1 hk1 hS1 => ?_)
  obtain ⟨hP1, hK1, hD1⟩ := hB
  rw [ht] at hP1
  have hK1 := va_K.moved hvm.symm hK1
  have hJ := va_join (wr := [(h0, .inr (15, fs_h0))]) (w1 := []) hP hD [] [0] rfl rfl (by decide) (by decide) hk1 hFc hP1 hD1
  clear hP hD hPc hDc hKc hFc hz1; try clear hk1
  obtain ⟨hP, hD⟩ := hJ
  replace hK := (hK.sub (tys' := []) [] rfl).app (hK1.sub (tys' := []) [] rfl)
  clear hP1 hK1 hD1 hvm ht hS; try clear t
  try clear H
  revert hS1
  intro hS
  generalize H1 = H at hP hS ⊢; try clear H1
  replace hP : va_P (dC, dI) vwCl [(h0, .inr (15, fs_h0))] H := hP
  replace hD : va_D A [(h0, .inr (15, fs_h0))] := hD
  replace hK : va_K (dC, dI) vwCl [] s := hK
  have hw_6 : r_5 = 0 := hw; clear hw
  subst hw_6
  refine lv_if_eq (tgt := 61) hx hb dX15_wordHere_21 (by decide) (fun _ => ?_) (fun hc => absurd (by decide) hc)
  refine lv_iload_n hx hb dX15_wordHere_61 rfl (lv_at hl 0 rfl) ?_
  refine lv_bipush (v := 6) hx hb dX15_wordHere_62 (by decide) ?_
  refine lv_icmp_le (tgt := 71) hx hb dX15_wordHere_64 (by decide) (fun _ => ?_) (fun hc => absurd (by decide) hc)
  refine lv_iload_n hx hb dX15_wordHere_71 rfl (lv_at hl 1 rfl) ?_
  have hP9 := hP.sub (ws' := [(h0, .inr (15, fs_h0))]) [0] rfl
  have hD9 := hD.sub (ws' := [(h0, .inr (15, fs_h0))]) [0] (by decide) rfl
  have hK9 := hK.sub (tys' := []) [] rfl
  rw [← hAe] at hD9
  refine W.widen (k := 0) (n := 0) (Nat.le_of_ble_eq_true rfl) (Nat.le_of_ble_eq_true rfl) ?_
  subst hAe
  exact (W.iret (v := 0) hx hb hr (fun t ht hW => ⟨⟨0, (), rfl, rfl, by rw [ht]; exact hP9, va_K.moved hW.alike hK9, hD9⟩, hS.F ht⟩) hS.2.2 dX15_wordHere_72)
def wv_m_starts : List Cond := .code yX15_starts cX15_starts 2 none :: ([.fieldLink RX15 299 "MotionSignsModel" "tape" "I", .fieldLink RX15 302 "MotionSignsModel" "size" "I", .fieldLink RX15 303 "MotionSignsModel" "at" "I", .fieldLink RX15 310 "MotionSignsModel" "fault" "I", .fieldLink RX15 313 "MotionSignsModel" "faultAt" "I", .fieldLink RX15 331 "MotionSignsModel" "open" "I", .fieldLink RX15 334 "MotionSignsModel" "over" "Z"] ++ (wsX150 ++ ([])))
theorem gw_m_starts : wv_m_starts.all goodWord = true := by decide +kernel
theorem in_m_starts_X15 : ∀ w ∈ wsX150, w ∈ wv_m_starts := fun _ h => List.mem_cons_of_mem _ (List.mem_append_right _ (List.mem_append_left _ h))
set_option maxHeartbeats 4000000 in
set_option maxRecDepth 100000 in
/-- starts -/
theorem c_m_starts (l : Launch) (dC : Nat → ClassId) (dI : Nat → Nat → Nat) (h0 : Nat) (qfed : Nat) (qf : Nat) (qfd : Nat) (qs : Nat) (qk : Nat) (fs_h0 : List Value) (hF_h0 : mF 89 [(0, .int 0), (18, .int 0), (19, .int 0), (20, .int (-1)), (21, .int 0), (22, .int 0), (23, .int 0), (24, .int 0), (25, .int 0), (27, .int 0), (28, .int 0), (29, .int 0), (35, .int 0), (17, .int (-1)), (26, .ref qfed), (30, .ref qf), (31, .ref qfd), (33, .ref qs), (36, .ref qk)] fs_h0) (sz : Nat) : Met l yX15_starts wv_m_starts ({ frames := 0, cells := 0, slots := 0, locals := 0 }) (va_Pc [.ref h0, .int 0] (fun U => U.heap.size = sz ∧ va_P (dC, dI) vwCl [(h0, .inr (15, fs_h0))] U.heap ∧ va_K (dC, dI) vwCl [] U ∧ va_D (fun _ => True) [(h0, .inr (15, fs_h0))] ∧ w_N U)) (va_Qv (fun (_ : Unit) => True) (fun _ t => ∃ (fs_h02 : List Value), va_P (dC, dI) vwCl [(h0, .inr (15, fs_h02))] t.heap ∧ va_K (dC, dI) vwCl [] t ∧ va_D (va_A [(h0, .inr (15, fs_h0))] sz) [(h0, .inr (15, fs_h02))] ∧ mF 89 [(0, .int 0), (18, .int 0), (19, .int 0), (20, .int (-1)), (21, .int 0), (22, .int 0), (23, .int (-1)), (24, .int 0), (25, .int 0), (27, .int 0), (28, .int 0), (29, .int 0), (35, .int 0), (17, .int (-1)), (26, .ref qfed), (30, .ref qf), (31, .ref qfd), (33, .ref qs), (36, .ref qk)] fs_h02) (va_A [(h0, .inr (15, fs_h0))] sz)) 0 0 (va_A [(h0, .inr (15, fs_h0))] sz) := by
  refine Met.ofW (cc := cX15_starts) (maxL := 2) (ret := none) (by decide) rfl ?_
  intro p e s m args below meth c s₁ B hml hv
  obtain ⟨rfl, hsz, hP, hK, hD0, hN⟩ := hv
  have hx := B.exec
  have hb := B.bytes
  have hr := B.returns
  have hts := atoms_spec (ws := wv_m_starts) B.pre
  have hown : s.vm.findClass RX15 = some m.cls := findClass_of_methodNamed B.named
  have hlocks := B.notSynchronized
  subst hsz
  have hD := hD0.self (sz := s.heap.size)
  generalize hAe : va_A [(h0, .inr (15, fs_h0))] s.heap.size = A at hD ⊢
  have hA : ∀ q : Nat, s.heap.size ≤ q → A q := fun q h => by rw [← hAe]; exact Or.inr h
  obtain ⟨H, hHe, hP, hS⟩ : ∃ H : Heap, H = s.heap ∧ va_P (dC, dI) vwCl [(h0, .inr (15, fs_h0))] H ∧ va_S A s.heap H [] := ⟨s.heap, rfl, hP, va_S.rf⟩
  have hl := lv_entry ([.ref h0, .int 0]) (n := 2) (Nat.le_of_ble_eq_true rfl)
  rw [lg_entry_eq]
  generalize (lg_sl ([.ref h0, .int 0]) ++ List.replicate (2 - (lg_sl ([.ref h0, .int 0])).length) Slot.unset).toArray = ls at hl ⊢
  have hl : lv_has ls 2 [(0, .ref h0), (1, .int 0)] := hl
  rw [← hHe]; clear hHe
  refine lv_aload_n hx hb dX15_starts_0 rfl (lv_at hl 0 rfl) ?_
  refine lv_iconst (v := 0) hx hb dX15_starts_1 (by decide) ?_
  refine va_put (D := (dC, dI)) (ci := 15) (v := .int 0) (ty := .int) (C := RX15) (T := TX15) (N := 89) hx hb hts (in_m_starts_X15) tyX15 tyX15_ok nmX15 hown hK hP hD hS 0 rfl rfl 18 (by decide) (hts (.fieldLink RX15 299 "MotionSignsModel" "tape" "I") (List.mem_of_getElem? (i := 1) rfl)) (fun _ h9 => h9) rfl (tyX15_ok 18 (by decide)) rfl rfl (mF.lt hF_h0 (by decide)) dX15_starts_2 ?_
  clear hP hD hS; try clear H
  intro H locs hP hD hS
  have hF0 := mF.sub (L' := [(0, .int 0), (19, .int 0), (20, .int (-1)), (21, .int 0), (22, .int 0), (23, .int 0), (24, .int 0), (25, .int 0), (27, .int 0), (28, .int 0), (29, .int 0), (35, .int 0), (17, .int (-1)), (26, .ref qfed), (30, .ref qf), (31, .ref qfd), (33, .ref qs), (36, .ref qk)]) hF_h0 [0, 2, 3, 4, 5, 6, 7, 8, 9, 10, 11, 12, 13, 14, 15, 16, 17, 18] rfl
  have hF1 := mF.put hF0 18 (.int 0) (by decide) rfl
  replace hP : va_P (dC, dI) vwCl [(h0, .inr (15, (fs_h0.set 18 (.int 0))))] H := hP
  replace hD : va_D A [(h0, .inr (15, (fs_h0.set 18 (.int 0))))] := hD
  generalize fs_h0.set 18 (.int 0) = fs_1 at hP hD hF1
  replace hF_h0 : mF 89 [(18, .int 0), (0, .int 0), (19, .int 0), (20, .int (-1)), (21, .int 0), (22, .int 0), (23, .int 0), (24, .int 0), (25, .int 0), (27, .int 0), (28, .int 0), (29, .int 0), (35, .int 0), (17, .int (-1)), (26, .ref qfed), (30, .ref qf), (31, .ref qfd), (33, .ref qs), (36, .ref qk)] fs_1 := hF1
  clear hF1 hF0
  replace hP : va_P (dC, dI) vwCl [(h0, .inr (15, fs_1))] H := hP
  replace hD : va_D A [(h0, .inr (15, fs_1))] := hD
  refine lv_aload_n hx hb dX15_starts_5 rfl (lv_at hl 0 rfl) ?_
  refine lv_iload_n hx hb dX15_starts_6 rfl (lv_at hl 1 rfl) ?_
  refine va_put (D := (dC, dI)) (ci := 15) (v := .int 0) (ty := .int) (C := RX15) (T := TX15) (N := 89) hx hb hts (in_m_starts_X15) tyX15 tyX15_ok nmX15 hown hK hP hD hS 0 rfl rfl 19 (by decide) (hts (.fieldLink RX15 302 "MotionSignsModel" "size" "I") (List.mem_of_getElem? (i := 2) rfl)) (fun _ h9 => h9) rfl (tyX15_ok 19 (by decide)) rfl rfl (mF.lt hF_h0 (by decide)) dX15_starts_7 ?_
  clear hP hD hS; try clear H
  intro H locs hP hD hS
  have hF0 := mF.sub (L' := [(18, .int 0), (0, .int 0), (20, .int (-1)), (21, .int 0), (22, .int 0), (23, .int 0), (24, .int 0), (25, .int 0), (27, .int 0), (28, .int 0), (29, .int 0), (35, .int 0), (17, .int (-1)), (26, .ref qfed), (30, .ref qf), (31, .ref qfd), (33, .ref qs), (36, .ref qk)]) hF_h0 [0, 1, 3, 4, 5, 6, 7, 8, 9, 10, 11, 12, 13, 14, 15, 16, 17, 18] rfl
  have hF1 := mF.put hF0 19 (.int 0) (by decide) rfl
  replace hP : va_P (dC, dI) vwCl [(h0, .inr (15, (fs_1.set 19 (.int 0))))] H := hP
  replace hD : va_D A [(h0, .inr (15, (fs_1.set 19 (.int 0))))] := hD
  generalize fs_1.set 19 (.int 0) = fs_2 at hP hD hF1
  replace hF_h0 : mF 89 [(19, .int 0), (18, .int 0), (0, .int 0), (20, .int (-1)), (21, .int 0), (22, .int 0), (23, .int 0), (24, .int 0), (25, .int 0), (27, .int 0), (28, .int 0), (29, .int 0), (35, .int 0), (17, .int (-1)), (26, .ref qfed), (30, .ref qf), (31, .ref qfd), (33, .ref qs), (36, .ref qk)] fs_2 := hF1
  clear hF1 hF0
  replace hP : va_P (dC, dI) vwCl [(h0, .inr (15, fs_2))] H := hP
  replace hD : va_D A [(h0, .inr (15, fs_2))] := hD
  refine lv_aload_n hx hb dX15_starts_10 rfl (lv_at hl 0 rfl) ?_
  refine lv_iconst (v := 0) hx hb dX15_starts_11 (by decide) ?_
  refine va_put (D := (dC, dI)) (ci := 15) (v := .int 0) (ty := .int) (C := RX15) (T := TX15) (N := 89) hx hb hts (in_m_starts_X15) tyX15 tyX15_ok nmX15 hown hK hP hD hS 0 rfl rfl 21 (by decide) (hts (.fieldLink RX15 303 "MotionSignsModel" "at" "I") (List.mem_of_getElem? (i := 3) rfl)) (fun _ h9 => h9) rfl (tyX15_ok 21 (by decide)) rfl rfl (mF.lt hF_h0 (by decide)) dX15_starts_12 ?_
  clear hP hD hS; try clear H
  intro H locs hP hD hS
  have hF0 := mF.sub (L' := [(19, .int 0), (18, .int 0), (0, .int 0), (20, .int (-1)), (22, .int 0), (23, .int 0), (24, .int 0), (25, .int 0), (27, .int 0), (28, .int 0), (29, .int 0), (35, .int 0), (17, .int (-1)), (26, .ref qfed), (30, .ref qf), (31, .ref qfd), (33, .ref qs), (36, .ref qk)]) hF_h0 [0, 1, 2, 3, 5, 6, 7, 8, 9, 10, 11, 12, 13, 14, 15, 16, 17, 18] rfl
  have hF1 := mF.put hF0 21 (.int 0) (by decide) rfl
  replace hP : va_P (dC, dI) vwCl [(h0, .inr (15, (fs_2.set 21 (.int 0))))] H := hP
  replace hD : va_D A [(h0, .inr (15, (fs_2.set 21 (.int 0))))] := hD
  generalize fs_2.set 21 (.int 0) = fs_3 at hP hD hF1
  replace hF_h0 : mF 89 [(21, .int 0), (19, .int 0), (18, .int 0), (0, .int 0), (20, .int (-1)), (22, .int 0), (23, .int 0), (24, .int 0), (25, .int 0), (27, .int 0), (28, .int 0), (29, .int 0), (35, .int 0), (17, .int (-1)), (26, .ref qfed), (30, .ref qf), (31, .ref qfd), (33, .ref qs), (36, .ref qk)] fs_3 := hF1
  clear hF1 hF0
  replace hP : va_P (dC, dI) vwCl [(h0, .inr (15, fs_3))] H := hP
  replace hD : va_D A [(h0, .inr (15, fs_3))] := hD
  refine lv_aload_n hx hb dX15_starts_15 rfl (lv_at hl 0 rfl) ?_
  refine lv_iconst (v := 0) hx hb dX15_starts_16 (by decide) ?_
  refine va_put (D := (dC, dI)) (ci := 15) (v := .int 0) (ty := .int) (C := RX15) (T := TX15) (N := 89) hx hb hts (in_m_starts_X15) tyX15 tyX15_ok nmX15 hown hK hP hD hS 0 rfl rfl 22 (by decide) (hts (.fieldLink RX15 310 "MotionSignsModel" "fault" "I") (List.mem_of_getElem? (i := 4) rfl)) (fun _ h9 => h9) rfl (tyX15_ok 22 (by decide)) rfl rfl (mF.lt hF_h0 (by decide)) dX15_starts_17 ?_
  clear hP hD hS; try clear H
  intro H locs hP hD hS
  have hF0 := mF.sub (L' := [(21, .int 0), (19, .int 0), (18, .int 0), (0, .int 0), (20, .int (-1)), (23, .int 0), (24, .int 0), (25, .int 0), (27, .int 0), (28, .int 0), (29, .int 0), (35, .int 0), (17, .int (-1)), (26, .ref qfed), (30, .ref qf), (31, .ref qfd), (33, .ref qs), (36, .ref qk)]) hF_h0 [0, 1, 2, 3, 4, 6, 7, 8, 9, 10, 11, 12, 13, 14, 15, 16, 17, 18] rfl
  have hF1 := mF.put hF0 22 (.int 0) (by decide) rfl
  replace hP : va_P (dC, dI) vwCl [(h0, .inr (15, (fs_3.set 22 (.int 0))))] H := hP
  replace hD : va_D A [(h0, .inr (15, (fs_3.set 22 (.int 0))))] := hD
  generalize fs_3.set 22 (.int 0) = fs_4 at hP hD hF1
  replace hF_h0 : mF 89 [(22, .int 0), (21, .int 0), (19, .int 0), (18, .int 0), (0, .int 0), (20, .int (-1)), (23, .int 0), (24, .int 0), (25, .int 0), (27, .int 0), (28, .int 0), (29, .int 0), (35, .int 0), (17, .int (-1)), (26, .ref qfed), (30, .ref qf), (31, .ref qfd), (33, .ref qs), (36, .ref qk)] fs_4 := hF1
  clear hF1 hF0
  replace hP : va_P (dC, dI) vwCl [(h0, .inr (15, fs_4))] H := hP
  replace hD : va_D A [(h0, .inr (15, fs_4))] := hD
  refine lv_aload_n hx hb dX15_starts_20 rfl (lv_at hl 0 rfl) ?_
  refine lv_iconst (v := -1) hx hb dX15_starts_21 (by decide) ?_
  refine va_put (D := (dC, dI)) (ci := 15) (v := .int (-1)) (ty := .int) (C := RX15) (T := TX15) (N := 89) hx hb hts (in_m_starts_X15) tyX15 tyX15_ok nmX15 hown hK hP hD hS 0 rfl rfl 23 (by decide) (hts (.fieldLink RX15 313 "MotionSignsModel" "faultAt" "I") (List.mem_of_getElem? (i := 5) rfl)) (fun _ h9 => h9) rfl (tyX15_ok 23 (by decide)) rfl rfl (mF.lt hF_h0 (by decide)) dX15_starts_22 ?_
  clear hP hD hS; try clear H
  intro H locs hP hD hS
  have hF0 := mF.sub (L' := [(22, .int 0), (21, .int 0), (19, .int 0), (18, .int 0), (0, .int 0), (20, .int (-1)), (24, .int 0), (25, .int 0), (27, .int 0), (28, .int 0), (29, .int 0), (35, .int 0), (17, .int (-1)), (26, .ref qfed), (30, .ref qf), (31, .ref qfd), (33, .ref qs), (36, .ref qk)]) hF_h0 [0, 1, 2, 3, 4, 5, 7, 8, 9, 10, 11, 12, 13, 14, 15, 16, 17, 18] rfl
  have hF1 := mF.put hF0 23 (.int (-1)) (by decide) rfl
  replace hP : va_P (dC, dI) vwCl [(h0, .inr (15, (fs_4.set 23 (.int (-1)))))] H := hP
  replace hD : va_D A [(h0, .inr (15, (fs_4.set 23 (.int (-1)))))] := hD
  generalize fs_4.set 23 (.int (-1)) = fs_5 at hP hD hF1
  replace hF_h0 : mF 89 [(23, .int (-1)), (22, .int 0), (21, .int 0), (19, .int 0), (18, .int 0), (0, .int 0), (20, .int (-1)), (24, .int 0), (25, .int 0), (27, .int 0), (28, .int 0), (29, .int 0), (35, .int 0), (17, .int (-1)), (26, .ref qfed), (30, .ref qf), (31, .ref qfd), (33, .ref qs), (36, .ref qk)] fs_5 := hF1
  clear hF1 hF0
  replace hP : va_P (dC, dI) vwCl [(h0, .inr (15, fs_5))] H := hP
  replace hD : va_D A [(h0, .inr (15, fs_5))] := hD
  refine lv_aload_n hx hb dX15_starts_25 rfl (lv_at hl 0 rfl) ?_
  refine lv_iconst (v := 0) hx hb dX15_starts_26 (by decide) ?_
  refine va_put (D := (dC, dI)) (ci := 15) (v := .int 0) (ty := .int) (C := RX15) (T := TX15) (N := 89) hx hb hts (in_m_starts_X15) tyX15 tyX15_ok nmX15 hown hK hP hD hS 0 rfl rfl 24 (by decide) (hts (.fieldLink RX15 331 "MotionSignsModel" "open" "I") (List.mem_of_getElem? (i := 6) rfl)) (fun _ h9 => h9) rfl (tyX15_ok 24 (by decide)) rfl rfl (mF.lt hF_h0 (by decide)) dX15_starts_27 ?_
  clear hP hD hS; try clear H
  intro H locs hP hD hS
  have hF0 := mF.sub (L' := [(23, .int (-1)), (22, .int 0), (21, .int 0), (19, .int 0), (18, .int 0), (0, .int 0), (20, .int (-1)), (25, .int 0), (27, .int 0), (28, .int 0), (29, .int 0), (35, .int 0), (17, .int (-1)), (26, .ref qfed), (30, .ref qf), (31, .ref qfd), (33, .ref qs), (36, .ref qk)]) hF_h0 [0, 1, 2, 3, 4, 5, 6, 8, 9, 10, 11, 12, 13, 14, 15, 16, 17, 18] rfl
  have hF1 := mF.put hF0 24 (.int 0) (by decide) rfl
  replace hP : va_P (dC, dI) vwCl [(h0, .inr (15, (fs_5.set 24 (.int 0))))] H := hP
  replace hD : va_D A [(h0, .inr (15, (fs_5.set 24 (.int 0))))] := hD
  generalize fs_5.set 24 (.int 0) = fs_6 at hP hD hF1
  replace hF_h0 : mF 89 [(24, .int 0), (23, .int (-1)), (22, .int 0), (21, .int 0), (19, .int 0), (18, .int 0), (0, .int 0), (20, .int (-1)), (25, .int 0), (27, .int 0), (28, .int 0), (29, .int 0), (35, .int 0), (17, .int (-1)), (26, .ref qfed), (30, .ref qf), (31, .ref qfd), (33, .ref qs), (36, .ref qk)] fs_6 := hF1
  clear hF1 hF0
  replace hP : va_P (dC, dI) vwCl [(h0, .inr (15, fs_6))] H := hP
  replace hD : va_D A [(h0, .inr (15, fs_6))] := hD
  refine lv_aload_n hx hb dX15_starts_30 rfl (lv_at hl 0 rfl) ?_
  refine lv_iconst (v := 0) hx hb dX15_starts_31 (by decide) ?_
  refine va_put (D := (dC, dI)) (ci := 15) (v := .int 0) (ty := .boolean) (C := RX15) (T := TX15) (N := 89) hx hb hts (in_m_starts_X15) tyX15 tyX15_ok nmX15 hown hK hP hD hS 0 rfl rfl 27 (by decide) (hts (.fieldLink RX15 334 "MotionSignsModel" "over" "Z") (List.mem_of_getElem? (i := 7) rfl)) (fun _ h9 => h9) rfl (tyX15_ok 27 (by decide)) (by first | rfl | decide | exact rfl) rfl (mF.lt hF_h0 (by decide)) dX15_starts_32 ?_
  clear hP hD hS; try clear H
  intro H locs hP hD hS
  have hF0 := mF.sub (L' := [(24, .int 0), (23, .int (-1)), (22, .int 0), (21, .int 0), (19, .int 0), (18, .int 0), (0, .int 0), (20, .int (-1)), (25, .int 0), (28, .int 0), (29, .int 0), (35, .int 0), (17, .int (-1)), (26, .ref qfed), (30, .ref qf), (31, .ref qfd), (33, .ref qs), (36, .ref qk)]) hF_h0 [0, 1, 2, 3, 4, 5, 6, 7, 8, 10, 11, 12, 13, 14, 15, 16, 17, 18] rfl
  have hF1 := mF.put hF0 27 (.int 0) (by decide) rfl
  replace hP : va_P (dC, dI) vwCl [(h0, .inr (15, (fs_6.set 27 (.int 0))))] H := hP
  replace hD : va_D A [(h0, .inr (15, (fs_6.set 27 (.int 0))))] := hD
  generalize fs_6.set 27 (.int 0) = fs_7 at hP hD hF1
  replace hF_h0 : mF 89 [(27, .int 0), (24, .int 0), (23, .int (-1)), (22, .int 0), (21, .int 0), (19, .int 0), (18, .int 0), (0, .int 0), (20, .int (-1)), (25, .int 0), (28, .int 0), (29, .int 0), (35, .int 0), (17, .int (-1)), (26, .ref qfed), (30, .ref qf), (31, .ref qfd), (33, .ref qs), (36, .ref qk)] fs_7 := hF1
  clear hF1 hF0
  replace hP : va_P (dC, dI) vwCl [(h0, .inr (15, fs_7))] H := hP
  replace hD : va_D A [(h0, .inr (15, fs_7))] := hD
  have hP9 := hP.sub (ws' := [(h0, .inr (15, fs_7))]) [0] rfl
  have hD9 := hD.sub (ws' := [(h0, .inr (15, fs_7))]) [0] (by decide) rfl
  have hK9 := hK.sub (tys' := []) [] rfl
  rw [← hAe] at hD9
  refine W.widen (k := 0) (n := 0) (Nat.le_of_ble_eq_true rfl) (Nat.le_of_ble_eq_true rfl) ?_
  subst hAe
  exact (W.vret hx hb hr (fun t ht hW => ⟨⟨(), rfl, trivial, fs_7, by rw [ht]; exact hP9, va_K.moved hW.alike hK9, hD9, (mF.sub hF_h0 [7, 6, 5, 8, 4, 3, 2, 1, 9, 0, 10, 11, 12, 13, 14, 15, 16, 17, 18] rfl)⟩, hS.F ht⟩) hS.2.2 dX15_starts_35)
def wv_m_wrong : List Cond := .code yX15_wrong cX15_wrong 3 none :: ([.fieldLink RX15 310 "MotionSignsModel" "fault" "I", .fieldLink RX15 313 "MotionSignsModel" "faultAt" "I"] ++ (wsX150 ++ ([])))
theorem gw_m_wrong : wv_m_wrong.all goodWord = true := by decide +kernel
theorem in_m_wrong_X15 : ∀ w ∈ wsX150, w ∈ wv_m_wrong := fun _ h => List.mem_cons_of_mem _ (List.mem_append_right _ (List.mem_append_left _ h))
set_option maxHeartbeats 4000000 in
set_option maxRecDepth 100000 in
/-- wrong -/
theorem c_m_wrong (l : Launch) (dC : Nat → ClassId) (dI : Nat → Nat → Nat) (h0 : Nat) (qfed : Nat) (qf : Nat) (qfd : Nat) (qs : Nat) (qk : Nat) (fs_h0 : List Value) (hF_h0 : mF 89 [(0, .int 0), (18, .int 0), (19, .int 0), (20, .int (-1)), (21, .int 0), (22, .int 0), (23, .int (-1)), (24, .int 0), (25, .int 0), (27, .int 0), (28, .int 0), (29, .int 0), (35, .int 0), (17, .int (-1)), (26, .ref qfed), (30, .ref qf), (31, .ref qfd), (33, .ref qs), (36, .ref qk)] fs_h0) (sz : Nat) : Met l yX15_wrong wv_m_wrong ({ frames := 0, cells := 0, slots := 0, locals := 0 }) (va_Pc [.ref h0, .int 1, .int 0] (fun U => U.heap.size = sz ∧ va_P (dC, dI) vwCl [(h0, .inr (15, fs_h0))] U.heap ∧ va_K (dC, dI) vwCl [] U ∧ va_D (fun _ => True) [(h0, .inr (15, fs_h0))] ∧ w_N U)) (va_Qv (fun (_ : Unit) => True) (fun _ t => ∃ (fs_h02 : List Value), va_P (dC, dI) vwCl [(h0, .inr (15, fs_h02))] t.heap ∧ va_K (dC, dI) vwCl [] t ∧ va_D (va_A [(h0, .inr (15, fs_h0))] sz) [(h0, .inr (15, fs_h02))] ∧ mF 89 [(0, .int 0), (18, .int 0), (19, .int 0), (20, .int (-1)), (21, .int 0), (22, .int 1), (23, .int 0), (24, .int 0), (25, .int 0), (27, .int 0), (28, .int 0), (29, .int 0), (35, .int 0), (17, .int (-1)), (26, .ref qfed), (30, .ref qf), (31, .ref qfd), (33, .ref qs), (36, .ref qk)] fs_h02) (va_A [(h0, .inr (15, fs_h0))] sz)) 0 0 (va_A [(h0, .inr (15, fs_h0))] sz) := by
  refine Met.ofW (cc := cX15_wrong) (maxL := 3) (ret := none) (by decide) rfl ?_
  intro p e s m args below meth c s₁ B hml hv
  obtain ⟨rfl, hsz, hP, hK, hD0, hN⟩ := hv
  have hx := B.exec
  have hb := B.bytes
  have hr := B.returns
  have hts := atoms_spec (ws := wv_m_wrong) B.pre
  have hown : s.vm.findClass RX15 = some m.cls := findClass_of_methodNamed B.named
  have hlocks := B.notSynchronized
  subst hsz
  have hD := hD0.self (sz := s.heap.size)
  generalize hAe : va_A [(h0, .inr (15, fs_h0))] s.heap.size = A at hD ⊢
  have hA : ∀ q : Nat, s.heap.size ≤ q → A q := fun q h => by rw [← hAe]; exact Or.inr h
  obtain ⟨H, hHe, hP, hS⟩ : ∃ H : Heap, H = s.heap ∧ va_P (dC, dI) vwCl [(h0, .inr (15, fs_h0))] H ∧ va_S A s.heap H [] := ⟨s.heap, rfl, hP, va_S.rf⟩
  have hl := lv_entry ([.ref h0, .int 1, .int 0]) (n := 3) (Nat.le_of_ble_eq_true rfl)
  rw [lg_entry_eq]
  generalize (lg_sl ([.ref h0, .int 1, .int 0]) ++ List.replicate (3 - (lg_sl ([.ref h0, .int 1, .int 0])).length) Slot.unset).toArray = ls at hl ⊢
  have hl : lv_has ls 3 [(0, .ref h0), (1, .int 1), (2, .int 0)] := hl
  rw [← hHe]; clear hHe
  refine lv_aload_n hx hb dX15_wrong_0 rfl (lv_at hl 0 rfl) ?_
  refine va_get (D := (dC, dI)) (ci := 15) (v := .int 0) (C := RX15) (T := TX15) (N := 89) hx hb hts (in_m_wrong_X15) hown hK hP 0 rfl rfl 22 (by decide) (hts (.fieldLink RX15 310 "MotionSignsModel" "fault" "I") (List.mem_of_getElem? (i := 1) rfl)) (fun _ h9 => h9) (mF.get hF_h0 5 rfl) dX15_wrong_1 ?_
  refine lv_if_ne (tgt := 17) hx hb dX15_wrong_4 (by decide) (fun hc => absurd (by decide) hc) (fun _ => ?_)
  refine lv_aload_n hx hb dX15_wrong_7 rfl (lv_at hl 0 rfl) ?_
  refine lv_iload_n hx hb dX15_wrong_8 rfl (lv_at hl 1 rfl) ?_
  refine va_put (D := (dC, dI)) (ci := 15) (v := .int 1) (ty := .int) (C := RX15) (T := TX15) (N := 89) hx hb hts (in_m_wrong_X15) tyX15 tyX15_ok nmX15 hown hK hP hD hS 0 rfl rfl 22 (by decide) (hts (.fieldLink RX15 310 "MotionSignsModel" "fault" "I") (List.mem_of_getElem? (i := 1) rfl)) (fun _ h9 => h9) rfl (tyX15_ok 22 (by decide)) rfl rfl (mF.lt hF_h0 (by decide)) dX15_wrong_9 ?_
  clear hP hD hS; try clear H
  intro H locs hP hD hS
  have hF0 := mF.sub (L' := [(0, .int 0), (18, .int 0), (19, .int 0), (20, .int (-1)), (21, .int 0), (23, .int (-1)), (24, .int 0), (25, .int 0), (27, .int 0), (28, .int 0), (29, .int 0), (35, .int 0), (17, .int (-1)), (26, .ref qfed), (30, .ref qf), (31, .ref qfd), (33, .ref qs), (36, .ref qk)]) hF_h0 [0, 1, 2, 3, 4, 6, 7, 8, 9, 10, 11, 12, 13, 14, 15, 16, 17, 18] rfl
  have hF1 := mF.put hF0 22 (.int 1) (by decide) rfl
  replace hP : va_P (dC, dI) vwCl [(h0, .inr (15, (fs_h0.set 22 (.int 1))))] H := hP
  replace hD : va_D A [(h0, .inr (15, (fs_h0.set 22 (.int 1))))] := hD
  generalize fs_h0.set 22 (.int 1) = fs_1 at hP hD hF1
  replace hF_h0 : mF 89 [(22, .int 1), (0, .int 0), (18, .int 0), (19, .int 0), (20, .int (-1)), (21, .int 0), (23, .int (-1)), (24, .int 0), (25, .int 0), (27, .int 0), (28, .int 0), (29, .int 0), (35, .int 0), (17, .int (-1)), (26, .ref qfed), (30, .ref qf), (31, .ref qfd), (33, .ref qs), (36, .ref qk)] fs_1 := hF1
  clear hF1 hF0
  replace hP : va_P (dC, dI) vwCl [(h0, .inr (15, fs_1))] H := hP
  replace hD : va_D A [(h0, .inr (15, fs_1))] := hD
  refine lv_aload_n hx hb dX15_wrong_12 rfl (lv_at hl 0 rfl) ?_
  refine lv_iload_n hx hb dX15_wrong_13 rfl (lv_at hl 2 rfl) ?_
  refine va_put (D := (dC, dI)) (ci := 15) (v := .int 0) (ty := .int) (C := RX15) (T := TX15) (N := 89) hx hb hts (in_m_wrong_X15) tyX15 tyX15_ok nmX15 hown hK hP hD hS 0 rfl rfl 23 (by decide) (hts (.fieldLink RX15 313 "MotionSignsModel" "faultAt" "I") (List.mem_of_getElem? (i := 2) rfl)) (fun _ h9 => h9) rfl (tyX15_ok 23 (by decide)) rfl rfl (mF.lt hF_h0 (by decide)) dX15_wrong_14 ?_
  clear hP hD hS; try clear H
  intro H locs hP hD hS
  have hF0 := mF.sub (L' := [(22, .int 1), (0, .int 0), (18, .int 0), (19, .int 0), (20, .int (-1)), (21, .int 0), (24, .int 0), (25, .int 0), (27, .int 0), (28, .int 0), (29, .int 0), (35, .int 0), (17, .int (-1)), (26, .ref qfed), (30, .ref qf), (31, .ref qfd), (33, .ref qs), (36, .ref qk)]) hF_h0 [0, 1, 2, 3, 4, 5, 7, 8, 9, 10, 11, 12, 13, 14, 15, 16, 17, 18] rfl
  have hF1 := mF.put hF0 23 (.int 0) (by decide) rfl
  replace hP : va_P (dC, dI) vwCl [(h0, .inr (15, (fs_1.set 23 (.int 0))))] H := hP
  replace hD : va_D A [(h0, .inr (15, (fs_1.set 23 (.int 0))))] := hD
  generalize fs_1.set 23 (.int 0) = fs_2 at hP hD hF1
  replace hF_h0 : mF 89 [(23, .int 0), (22, .int 1), (0, .int 0), (18, .int 0), (19, .int 0), (20, .int (-1)), (21, .int 0), (24, .int 0), (25, .int 0), (27, .int 0), (28, .int 0), (29, .int 0), (35, .int 0), (17, .int (-1)), (26, .ref qfed), (30, .ref qf), (31, .ref qfd), (33, .ref qs), (36, .ref qk)] fs_2 := hF1
  clear hF1 hF0
  replace hP : va_P (dC, dI) vwCl [(h0, .inr (15, fs_2))] H := hP
  replace hD : va_D A [(h0, .inr (15, fs_2))] := hD
  have hP9 := hP.sub (ws' := [(h0, .inr (15, fs_2))]) [0] rfl
  have hD9 := hD.sub (ws' := [(h0, .inr (15, fs_2))]) [0] (by decide) rfl
  have hK9 := hK.sub (tys' := []) [] rfl
  rw [← hAe] at hD9
  refine W.widen (k := 0) (n := 0) (Nat.le_of_ble_eq_true rfl) (Nat.le_of_ble_eq_true rfl) ?_
  subst hAe
  exact (W.vret hx hb hr (fun t ht hW => ⟨⟨(), rfl, trivial, fs_2, by rw [ht]; exact hP9, va_K.moved hW.alike hK9, hD9, (mF.sub hF_h0 [2, 3, 4, 5, 6, 1, 0, 7, 8, 9, 10, 11, 12, 13, 14, 15, 16, 17, 18] rfl)⟩, hS.F ht⟩) hS.2.2 dX15_wrong_17)
def wv_m_ends : List Cond := .code yX15_ends cX15_ends 1 none :: ([.methodLink RX15 316 yX15_blanks, .instanceMethod yX15_blanks, .selects RX15 yX15_blanks yX15_blanks, .initialized RX15, .fieldLink RX15 310 "MotionSignsModel" "fault" "I", .fieldLink RX15 313 "MotionSignsModel" "faultAt" "I", .fieldLink RX15 121 "MotionSignsModel" "place" "I"] ++ (wv_m_blanks ++ (wsX150 ++ ([]))))
theorem gw_m_ends : wv_m_ends.all goodWord = true := by decide +kernel
theorem in_m_ends_X15 : ∀ w ∈ wsX150, w ∈ wv_m_ends := fun _ h => List.mem_cons_of_mem _ (List.mem_append_right _ (List.mem_append_right _ (List.mem_append_left _ h)))
theorem g_m_ends_m_blanks_316 : GoodIn wv_m_ends (wsV RX15 316 RX15 yX15_blanks wv_m_blanks) := goodIn_app (goodIn_of _ (by decide +kernel)) (goodIn_sub (fun _ h => List.mem_cons_of_mem _ (List.mem_append_right _ (List.mem_append_left _ h))) gw_m_blanks)
set_option maxHeartbeats 4000000 in
set_option maxRecDepth 100000 in
/-- ends -/
theorem c_m_ends (l : Launch) (dC : Nat → ClassId) (dI : Nat → Nat → Nat) (h0 : Nat) (qfed : Nat) (qf : Nat) (qfd : Nat) (qs : Nat) (qk : Nat) (fs_h0 : List Value) (hF_h0 : mF 89 [(0, .int 0), (18, .int 0), (19, .int 0), (20, .int (-1)), (21, .int 0), (22, .int 1), (23, .int 0), (24, .int 0), (25, .int (-1)), (27, .int 0), (28, .int 0), (29, .int 0), (35, .int 0), (17, .int (-1)), (26, .ref qfed), (30, .ref qf), (31, .ref qfd), (33, .ref qs), (36, .ref qk)] fs_h0) (sz : Nat) : Met l yX15_ends wv_m_ends ({ frames := 2, cells := 0, slots := 0, locals := 41 }) (va_Pc [.ref h0] (fun U => U.heap.size = sz ∧ va_P (dC, dI) vwCl [(h0, .inr (15, fs_h0))] U.heap ∧ va_K (dC, dI) vwCl [] U ∧ va_D (fun _ => True) [(h0, .inr (15, fs_h0))] ∧ w_N U)) (va_Qv (fun (_ : Unit) => True) (fun _ t => ∃ (fs_h02 : List Value), va_P (dC, dI) vwCl [(h0, .inr (15, fs_h02))] t.heap ∧ va_K (dC, dI) vwCl [] t ∧ va_D (va_A [(h0, .inr (15, fs_h0))] sz) [(h0, .inr (15, fs_h02))] ∧ mF 89 [(0, .int 0), (18, .int 0), (19, .int 0), (20, .int 0), (21, .int 0), (22, .int 1), (23, .int 0), (24, .int 0), (25, .int (-1)), (27, .int 0), (28, .int 0), (29, .int 0), (35, .int 0), (17, .int (-1)), (26, .ref qfed), (30, .ref qf), (31, .ref qfd), (33, .ref qs), (36, .ref qk)] fs_h02) (va_A [(h0, .inr (15, fs_h0))] sz)) 0 0 (va_A [(h0, .inr (15, fs_h0))] sz) := by
  refine Met.ofW (cc := cX15_ends) (maxL := 1) (ret := none) (by decide) rfl ?_
  intro p e s m args below meth c s₁ B hml hv
  obtain ⟨rfl, hsz, hP, hK, hD0, hN⟩ := hv
  have hx := B.exec
  have hb := B.bytes
  have hr := B.returns
  have hts := atoms_spec (ws := wv_m_ends) B.pre
  have hown : s.vm.findClass RX15 = some m.cls := findClass_of_methodNamed B.named
  have hlocks := B.notSynchronized
  subst hsz
  have hD := hD0.self (sz := s.heap.size)
  generalize hAe : va_A [(h0, .inr (15, fs_h0))] s.heap.size = A at hD ⊢
  have hA : ∀ q : Nat, s.heap.size ≤ q → A q := fun q h => by rw [← hAe]; exact Or.inr h
  obtain ⟨H, hHe, hP, hS⟩ : ∃ H : Heap, H = s.heap ∧ va_P (dC, dI) vwCl [(h0, .inr (15, fs_h0))] H ∧ va_S A s.heap H [] := ⟨s.heap, rfl, hP, va_S.rf⟩
  have hl := lv_entry ([.ref h0]) (n := 1) (Nat.le_of_ble_eq_true rfl)
  rw [lg_entry_eq]
  generalize (lg_sl ([.ref h0]) ++ List.replicate (1 - (lg_sl ([.ref h0])).length) Slot.unset).toArray = ls at hl ⊢
  have hl : lv_has ls 1 [(0, .ref h0)] := hl
  rw [← hHe]; clear hHe
  refine lv_aload_n hx hb dX15_ends_0 rfl (lv_at hl 0 rfl) ?_
  have hPc := hP.sub (ws' := [(h0, .inr (15, fs_h0))]) [0] rfl
  have hDc := hD.sub (ws' := [(h0, .inr (15, fs_h0))]) [0] (by decide) rfl
  have hKc := hK.sub (tys' := []) [] rfl
  have hFc := va_free (wc := [(h0, .inr (15, fs_h0))]) hD hS hA [0] rfl
  refine va_callv (va_runV (As := []) (rest := []) ⟨hx, hb, hml, hown, hts⟩ (c_m_blanks l dC dI h0 fs_h0 (mF.sub hF_h0 [2, 4] rfl) H.size) (cwV 0 hts g_m_ends_m_blanks_316 rfl rfl rfl hv_X15_blanks ⟨Nat.le_of_ble_eq_true rfl, Nat.le_of_ble_eq_true rfl⟩) ⟨fun a U g mk q => by obtain ⟨q0, q1, qP, qK, qD, qE0⟩ := q; exact ⟨q0, q1, qP, va_K.moved (u := U) (U := U.calling g mk a) (Vm.Alike.refl U.vm) qK, qD, w_N.same rfl qE0⟩, va_recv hKc hPc (ci := 15) (q0 := 0) rfl rfl, fun U hU hW => ⟨rfl, by rw [hU], by rw [hU]; exact hPc, va_K.moved hW.alike hKc, hDc.weaken (fun _ _ _ _ => trivial), w_N.warm hW hN⟩⟩ rfl rfl hl.1 rfl (lv_room (Nat.le_of_ble_eq_true rfl)) dX15_ends_1 ⟨(Nat.le_of_ble_eq_true rfl), (Nat.le_of_ble_eq_true rfl)⟩) hS (fun q _ h => hFc q h) hFc (fun u t H1 locs1 ht hvm hw hB hz1 hk1 hS1 => ?_)
  obtain ⟨hP1, hK1, hD1⟩ := hB
  rw [ht] at hP1
  have hK1 := va_K.moved hvm.symm hK1
  have hJ := va_join (wr := []) (w1 := [(h0, .inr (15, fs_h0))]) hP hD [0] [] rfl rfl (by decide) (by decide) hk1 hFc hP1 hD1
  clear hP hD hPc hDc hKc hFc hz1; try clear hk1
  obtain ⟨hP, hD⟩ := hJ
  replace hK := (hK.sub (tys' := []) [] rfl).app (hK1.sub (tys' := []) [] rfl)
  clear hP1 hK1 hD1 hvm ht hS; try clear t
  try clear H
  revert hS1
  intro hS
  generalize H1 = H at hP hS ⊢; try clear H1
  replace hP : va_P (dC, dI) vwCl [(h0, .inr (15, fs_h0))] H := hP
  replace hD : va_D A [(h0, .inr (15, fs_h0))] := hD
  replace hK : va_K (dC, dI) vwCl [] s := hK
  have hw_1 : True := hw; clear hw
  refine lv_aload_n hx hb dX15_ends_4 rfl (lv_at hl 0 rfl) ?_
  refine va_get (D := (dC, dI)) (ci := 15) (v := .int 1) (C := RX15) (T := TX15) (N := 89) hx hb hts (in_m_ends_X15) hown hK hP 0 rfl rfl 22 (by decide) (hts (.fieldLink RX15 310 "MotionSignsModel" "fault" "I") (List.mem_of_getElem? (i := 5) rfl)) (fun _ h9 => h9) (mF.get hF_h0 5 rfl) dX15_ends_5 ?_
  refine lv_if_ne (tgt := 31) hx hb dX15_ends_8 (by decide) (fun _ => ?_) (fun hc => absurd hc (by decide))
  refine lv_aload_n hx hb dX15_ends_31 rfl (lv_at hl 0 rfl) ?_
  refine lv_aload_n hx hb dX15_ends_32 rfl (lv_at hl 0 rfl) ?_
  refine va_get (D := (dC, dI)) (ci := 15) (v := .int 0) (C := RX15) (T := TX15) (N := 89) hx hb hts (in_m_ends_X15) hown hK hP 0 rfl rfl 23 (by decide) (hts (.fieldLink RX15 313 "MotionSignsModel" "faultAt" "I") (List.mem_of_getElem? (i := 6) rfl)) (fun _ h9 => h9) (mF.get hF_h0 6 rfl) dX15_ends_33 ?_
  refine va_put (D := (dC, dI)) (ci := 15) (v := .int 0) (ty := .int) (C := RX15) (T := TX15) (N := 89) hx hb hts (in_m_ends_X15) tyX15 tyX15_ok nmX15 hown hK hP hD hS 0 rfl rfl 20 (by decide) (hts (.fieldLink RX15 121 "MotionSignsModel" "place" "I") (List.mem_of_getElem? (i := 7) rfl)) (fun _ h9 => h9) rfl (tyX15_ok 20 (by decide)) rfl rfl (mF.lt hF_h0 (by decide)) dX15_ends_36 ?_
  clear hP hD hS; try clear H
  intro H locs hP hD hS
  have hF0 := mF.sub (L' := [(0, .int 0), (18, .int 0), (19, .int 0), (21, .int 0), (22, .int 1), (23, .int 0), (24, .int 0), (25, .int (-1)), (27, .int 0), (28, .int 0), (29, .int 0), (35, .int 0), (17, .int (-1)), (26, .ref qfed), (30, .ref qf), (31, .ref qfd), (33, .ref qs), (36, .ref qk)]) hF_h0 [0, 1, 2, 4, 5, 6, 7, 8, 9, 10, 11, 12, 13, 14, 15, 16, 17, 18] rfl
  have hF1 := mF.put hF0 20 (.int 0) (by decide) rfl
  replace hP : va_P (dC, dI) vwCl [(h0, .inr (15, (fs_h0.set 20 (.int 0))))] H := hP
  replace hD : va_D A [(h0, .inr (15, (fs_h0.set 20 (.int 0))))] := hD
  generalize fs_h0.set 20 (.int 0) = fs_2 at hP hD hF1
  replace hF_h0 : mF 89 [(20, .int 0), (0, .int 0), (18, .int 0), (19, .int 0), (21, .int 0), (22, .int 1), (23, .int 0), (24, .int 0), (25, .int (-1)), (27, .int 0), (28, .int 0), (29, .int 0), (35, .int 0), (17, .int (-1)), (26, .ref qfed), (30, .ref qf), (31, .ref qfd), (33, .ref qs), (36, .ref qk)] fs_2 := hF1
  clear hF1 hF0
  replace hP : va_P (dC, dI) vwCl [(h0, .inr (15, fs_2))] H := hP
  replace hD : va_D A [(h0, .inr (15, fs_2))] := hD
  have hP9 := hP.sub (ws' := [(h0, .inr (15, fs_2))]) [0] rfl
  have hD9 := hD.sub (ws' := [(h0, .inr (15, fs_2))]) [0] (by decide) rfl
  have hK9 := hK.sub (tys' := []) [] rfl
  rw [← hAe] at hD9
  refine W.widen (k := 0) (n := 0) (Nat.le_of_ble_eq_true rfl) (Nat.le_of_ble_eq_true rfl) ?_
  subst hAe
  exact (W.vret hx hb hr (fun t ht hW => ⟨⟨(), rfl, trivial, fs_2, by rw [ht]; exact hP9, va_K.moved hW.alike hK9, hD9, (mF.sub hF_h0 [1, 2, 3, 0, 4, 5, 6, 7, 8, 9, 10, 11, 12, 13, 14, 15, 16, 17, 18] rfl)⟩, hS.F ht⟩) hS.2.2 dX15_ends_39)
def wv_m_equation : List Cond := .code yX15_equation cX15_equation 4 (some .int) :: ([.fieldLink RX15 296 "MotionSignsModel" "thrown" "I", .fieldLink RX15 299 "MotionSignsModel" "tape" "I", .methodLink RX15 420 yX15_in, .static yX15_in, .initialized RX15, .methodLink RX15 424 yX15_bad, .instanceMethod yX15_bad, .selects RX15 yX15_bad yX15_bad, .methodLink RX15 428 yX15_starts, .instanceMethod yX15_starts, .selects RX15 yX15_starts yX15_starts, .methodLink RX15 337 yX15_wordHere, .instanceMethod yX15_wordHere, .selects RX15 yX15_wordHere yX15_wordHere, .constant RX15 431 (127274), .constant RX15 432 (2021387), .fieldLink RX15 433 "MotionSignsModel" "readKind" "I", .fieldLink RX15 303 "MotionSignsModel" "at" "I", .methodLink RX15 323 yX15_wrong, .instanceMethod yX15_wrong, .selects RX15 yX15_wrong yX15_wrong, .fieldLink RX15 341 "MotionSignsModel" "mode" "I", .fieldLink RX15 310 "MotionSignsModel" "fault" "I", .methodLink RX15 440 yX15_ends, .instanceMethod yX15_ends, .selects RX15 yX15_ends yX15_ends] ++ (wsX150 ++ (wv_m_in ++ (wv_m_bad0 ++ (wv_m_starts ++ (wv_m_wordHere ++ (wv_m_wrong ++ (wv_m_ends ++ (wv_m_bad1 ++ ([]))))))))))
theorem gw_m_equation : wv_m_equation.all goodWord = true := by decide +kernel
theorem in_m_equation_X15 : ∀ w ∈ wsX150, w ∈ wv_m_equation := fun _ h => List.mem_cons_of_mem _ (List.mem_append_right _ (List.mem_append_left _ h))
theorem g_m_equation_m_in_420 : GoodIn wv_m_equation (va_wsS RX15 420 yX15_in wv_m_in) := goodIn_app (goodIn_of _ (by decide +kernel)) (goodIn_sub (fun _ h => List.mem_cons_of_mem _ (List.mem_append_right _ (List.mem_append_right _ (List.mem_append_left _ h)))) gw_m_in)
theorem g_m_equation_m_bad0_424 : GoodIn wv_m_equation (wsV RX15 424 RX15 yX15_bad wv_m_bad0) := goodIn_app (goodIn_of _ (by decide +kernel)) (goodIn_sub (fun _ h => List.mem_cons_of_mem _ (List.mem_append_right _ (List.mem_append_right _ (List.mem_append_right _ (List.mem_append_left _ h))))) gw_m_bad0)
theorem g_m_equation_m_starts_428 : GoodIn wv_m_equation (wsV RX15 428 RX15 yX15_starts wv_m_starts) := goodIn_app (goodIn_of _ (by decide +kernel)) (goodIn_sub (fun _ h => List.mem_cons_of_mem _ (List.mem_append_right _ (List.mem_append_right _ (List.mem_append_right _ (List.mem_append_right _ (List.mem_append_left _ h)))))) gw_m_starts)
theorem g_m_equation_m_wordHere_337 : GoodIn wv_m_equation (wsV RX15 337 RX15 yX15_wordHere wv_m_wordHere) := goodIn_app (goodIn_of _ (by decide +kernel)) (goodIn_sub (fun _ h => List.mem_cons_of_mem _ (List.mem_append_right _ (List.mem_append_right _ (List.mem_append_right _ (List.mem_append_right _ (List.mem_append_right _ (List.mem_append_left _ h))))))) gw_m_wordHere)
theorem g_m_equation_m_wrong_323 : GoodIn wv_m_equation (wsV RX15 323 RX15 yX15_wrong wv_m_wrong) := goodIn_app (goodIn_of _ (by decide +kernel)) (goodIn_sub (fun _ h => List.mem_cons_of_mem _ (List.mem_append_right _ (List.mem_append_right _ (List.mem_append_right _ (List.mem_append_right _ (List.mem_append_right _ (List.mem_append_right _ (List.mem_append_left _ h)))))))) gw_m_wrong)
theorem g_m_equation_m_ends_440 : GoodIn wv_m_equation (wsV RX15 440 RX15 yX15_ends wv_m_ends) := goodIn_app (goodIn_of _ (by decide +kernel)) (goodIn_sub (fun _ h => List.mem_cons_of_mem _ (List.mem_append_right _ (List.mem_append_right _ (List.mem_append_right _ (List.mem_append_right _ (List.mem_append_right _ (List.mem_append_right _ (List.mem_append_right _ (List.mem_append_left _ h))))))))) gw_m_ends)
theorem g_m_equation_m_bad1_424 : GoodIn wv_m_equation (wsV RX15 424 RX15 yX15_bad wv_m_bad1) := goodIn_app (goodIn_of _ (by decide +kernel)) (goodIn_sub (fun _ h => List.mem_cons_of_mem _ (List.mem_append_right _ (List.mem_append_right _ (List.mem_append_right _ (List.mem_append_right _ (List.mem_append_right _ (List.mem_append_right _ (List.mem_append_right _ (List.mem_append_right _ (List.mem_append_left _ h)))))))))) gw_m_bad1)
set_option maxHeartbeats 4000000 in
set_option maxRecDepth 100000 in
/-- the reference: equation on a fresh object -/
theorem c_m_equation (l : Launch) (dC : Nat → ClassId) (dI : Nat → Nat → Nat) (h0 : Nat) (qfed : Nat) (qf : Nat) (qfd : Nat) (qs : Nat) (qk : Nat) (x0 : Int32) (fs_h0 : List Value) (hF_h0 : mF 89 [(0, .int 0), (18, .int 0), (19, .int 0), (20, .int (-1)), (21, .int 0), (22, .int 0), (23, .int 0), (24, .int 0), (25, .int 0), (27, .int 0), (28, .int 0), (29, .int 0), (35, .int 0), (17, .int (-1)), (26, .ref qfed), (30, .ref qf), (31, .ref qfd), (33, .ref qs), (36, .ref qk)] fs_h0) (sz : Nat) : Met l yX15_equation wv_m_equation ({ frames := 3, cells := 0, slots := 0, locals := 63 }) (va_Pc [.ref h0, .int x0] (fun U => U.heap.size = sz ∧ va_P (dC, dI) vwCl [(h0, .inr (15, fs_h0))] U.heap ∧ va_K (dC, dI) vwCl [] U ∧ va_D (fun _ => True) [(h0, .inr (15, fs_h0))] ∧ w_N U)) (va_Qi (fun (r : Int32) (th : Int32) => (th = 0 ∧ r = (-9) ∧ kIn x0 0 0) ∨ (th = 1 ∧ ¬ kIn x0 0 0)) (fun th t => ∃ (fs_e : List Value), va_P (dC, dI) vwCl [(h0, .inr (15, fs_e))] t.heap ∧ va_K (dC, dI) vwCl [] t ∧ va_D (va_A [(h0, .inr (15, fs_h0))] sz) [(h0, .inr (15, fs_e))] ∧ mF 89 [(0, .int th)] fs_e) (va_A [(h0, .inr (15, fs_h0))] sz)) 0 0 (va_A [(h0, .inr (15, fs_h0))] sz) := by
  refine Met.ofW (cc := cX15_equation) (maxL := 4) (ret := (some .int)) (by decide) rfl ?_
  intro p e s m args below meth c s₁ B hml hv
  obtain ⟨rfl, hsz, hP, hK, hD0, hN⟩ := hv
  have hx := B.exec
  have hb := B.bytes
  have hr := B.returns
  have hts := atoms_spec (ws := wv_m_equation) B.pre
  have hown : s.vm.findClass RX15 = some m.cls := findClass_of_methodNamed B.named
  have hlocks := B.notSynchronized
  subst hsz
  have hD := hD0.self (sz := s.heap.size)
  generalize hAe : va_A [(h0, .inr (15, fs_h0))] s.heap.size = A at hD ⊢
  have hA : ∀ q : Nat, s.heap.size ≤ q → A q := fun q h => by rw [← hAe]; exact Or.inr h
  obtain ⟨H, hHe, hP, hS⟩ : ∃ H : Heap, H = s.heap ∧ va_P (dC, dI) vwCl [(h0, .inr (15, fs_h0))] H ∧ va_S A s.heap H [] := ⟨s.heap, rfl, hP, va_S.rf⟩
  have hl := lv_entry ([.ref h0, .int x0]) (n := 4) (Nat.le_of_ble_eq_true rfl)
  rw [lg_entry_eq]
  generalize (lg_sl ([.ref h0, .int x0]) ++ List.replicate (4 - (lg_sl ([.ref h0, .int x0])).length) Slot.unset).toArray = ls at hl ⊢
  have hl : lv_has ls 4 [(0, .ref h0), (1, .int x0)] := hl
  rw [← hHe]; clear hHe
  refine lv_aload_n hx hb dX15_equation_0 rfl (lv_at hl 0 rfl) ?_
  refine lv_iconst (v := 0) hx hb dX15_equation_1 (by decide) ?_
  refine va_put (D := (dC, dI)) (ci := 15) (v := .int 0) (ty := .int) (C := RX15) (T := TX15) (N := 89) hx hb hts (in_m_equation_X15) tyX15 tyX15_ok nmX15 hown hK hP hD hS 0 rfl rfl 0 (by decide) (hts (.fieldLink RX15 296 "MotionSignsModel" "thrown" "I") (List.mem_of_getElem? (i := 1) rfl)) (fun _ h9 => h9) rfl (tyX15_ok 0 (by decide)) rfl rfl (mF.lt hF_h0 (by decide)) dX15_equation_2 ?_
  clear hP hD hS; try clear H
  intro H locs hP hD hS
  have hF0 := mF.sub (L' := [(18, .int 0), (19, .int 0), (20, .int (-1)), (21, .int 0), (22, .int 0), (23, .int 0), (24, .int 0), (25, .int 0), (27, .int 0), (28, .int 0), (29, .int 0), (35, .int 0), (17, .int (-1)), (26, .ref qfed), (30, .ref qf), (31, .ref qfd), (33, .ref qs), (36, .ref qk)]) hF_h0 [1, 2, 3, 4, 5, 6, 7, 8, 9, 10, 11, 12, 13, 14, 15, 16, 17, 18] rfl
  have hF1 := mF.put hF0 0 (.int 0) (by decide) rfl
  replace hP : va_P (dC, dI) vwCl [(h0, .inr (15, (fs_h0.set 0 (.int 0))))] H := hP
  replace hD : va_D A [(h0, .inr (15, (fs_h0.set 0 (.int 0))))] := hD
  generalize fs_h0.set 0 (.int 0) = fs_1 at hP hD hF1
  replace hF_h0 : mF 89 [(0, .int 0), (18, .int 0), (19, .int 0), (20, .int (-1)), (21, .int 0), (22, .int 0), (23, .int 0), (24, .int 0), (25, .int 0), (27, .int 0), (28, .int 0), (29, .int 0), (35, .int 0), (17, .int (-1)), (26, .ref qfed), (30, .ref qf), (31, .ref qfd), (33, .ref qs), (36, .ref qk)] fs_1 := hF1
  clear hF1 hF0
  replace hP : va_P (dC, dI) vwCl [(h0, .inr (15, fs_1))] H := hP
  replace hD : va_D A [(h0, .inr (15, fs_1))] := hD
  refine lv_aload_n hx hb dX15_equation_5 rfl (lv_at hl 0 rfl) ?_
  refine lv_iload_n hx hb dX15_equation_6 rfl (lv_at hl 1 rfl) ?_
  refine lv_iconst (v := 0) hx hb dX15_equation_7 (by decide) ?_
  refine lv_aload_n hx hb dX15_equation_8 rfl (lv_at hl 0 rfl) ?_
  refine va_get (D := (dC, dI)) (ci := 15) (v := .int 0) (C := RX15) (T := TX15) (N := 89) hx hb hts (in_m_equation_X15) hown hK hP 0 rfl rfl 18 (by decide) (hts (.fieldLink RX15 299 "MotionSignsModel" "tape" "I") (List.mem_of_getElem? (i := 2) rfl)) (fun _ h9 => h9) (mF.get hF_h0 1 rfl) dX15_equation_9 ?_
  have hPc := hP.sub (ws' := []) [] rfl
  have hDc := hD.sub (ws' := []) [] (by decide) rfl
  have hKc := hK.sub (tys' := []) [] rfl
  have hFc := va_free (wc := []) hD hS hA [] rfl
  refine va_calli (va_runS (As := [.int x0, .int 0, .int 0]) (rest := [.ref h0]) ⟨hx, hb, hml, hown, hts⟩ (c_m_in l dC dI x0 0 0 H.size) (va_cwS 3 hts g_m_equation_m_in_420 rfl rfl rfl hd_X15_in ⟨Nat.le_of_ble_eq_true rfl, Nat.le_of_ble_eq_true rfl⟩) ⟨fun a U g mk q => by obtain ⟨q0, q1, qP, qK, qD, qE0⟩ := q; exact ⟨q0, q1, qP, va_K.moved (u := U) (U := U.calling g mk a) (Vm.Alike.refl U.vm) qK, qD, w_N.same rfl qE0⟩, fun U hU hW => ⟨rfl, by rw [hU], by rw [hU]; exact hPc, va_K.moved hW.alike hKc, hDc.weaken (fun _ _ _ _ => trivial), w_N.warm hW hN⟩⟩ rfl rfl hl.1 rfl (lv_room (Nat.le_of_ble_eq_true rfl)) dX15_equation_12 ⟨(Nat.le_of_ble_eq_true rfl), (Nat.le_of_ble_eq_true rfl)⟩) hS (fun q _ h => hFc q h) hFc (fun r_2 u t H1 locs1 ht hvm hw hB hz1 hk1 hS1 => ?_)
  obtain ⟨hP1, hK1, hD1⟩ := hB
  rw [ht] at hP1
  have hK1 := va_K.moved hvm.symm hK1
  have hJ := va_join (wr := [(h0, .inr (15, fs_1))]) (w1 := []) hP hD [] [0] rfl rfl (by decide) (by decide) hk1 hFc hP1 hD1
  clear hP hD hPc hDc hKc hFc hz1; try clear hk1
  obtain ⟨hP, hD⟩ := hJ
  replace hK := (hK.sub (tys' := []) [] rfl).app (hK1.sub (tys' := []) [] rfl)
  clear hP1 hK1 hD1 hvm ht hS; try clear t
  try clear H
  revert hS1
  intro hS
  generalize H1 = H at hP hS ⊢; try clear H1
  replace hP : va_P (dC, dI) vwCl [(h0, .inr (15, fs_1))] H := hP
  replace hD : va_D A [(h0, .inr (15, fs_1))] := hD
  replace hK : va_K (dC, dI) vwCl [] s := hK
  have hw_3 : (r_2 = 1 ∧ kIn x0 0 0) ∨ (r_2 = 0 ∧ ¬ kIn x0 0 0) := hw; clear hw
  rcases hw_3 with ⟨ehw_3, hw_3⟩ | ⟨ehw_3, hw_3⟩
  · skip
    subst ehw_3
    obtain rfl : x0 = 0 := kIn_0 hw_3
    have hl : lv_has ls 4 [(0, .ref h0), (1, .int 0)] := hl
    refine lv_if_ne (tgt := 22) hx hb dX15_equation_15 (by decide) (fun _ => ?_) (fun hc => absurd hc (by decide))
    refine lv_iconst (v := 0) hx hb dX15_equation_22 (by decide) ?_
    refine lv_iconst (v := 1) hx hb dX15_equation_23 (by decide) ?_
    have hPc := hP.sub (ws' := [(h0, .inr (15, fs_1))]) [0] rfl
    have hDc := hD.sub (ws' := [(h0, .inr (15, fs_1))]) [0] (by decide) rfl
    have hKc := hK.sub (tys' := []) [] rfl
    have hFc := va_free (wc := [(h0, .inr (15, fs_1))]) hD hS hA [0] rfl
    refine va_calli (va_runV (As := [.int 0, .int 1]) (rest := []) ⟨hx, hb, hml, hown, hts⟩ (c_m_bad0 l dC dI h0 1 fs_1 (mF.sub hF_h0 [0] rfl) H.size) (cwV 2 hts g_m_equation_m_bad0_424 rfl rfl rfl hv_X15_bad ⟨Nat.le_of_ble_eq_true rfl, Nat.le_of_ble_eq_true rfl⟩) ⟨fun a U g mk q => by obtain ⟨q0, q1, qP, qK, qD, qE0⟩ := q; exact ⟨q0, q1, qP, va_K.moved (u := U) (U := U.calling g mk a) (Vm.Alike.refl U.vm) qK, qD, w_N.same rfl qE0⟩, va_recv hKc hPc (ci := 15) (q0 := 0) rfl rfl, fun U hU hW => ⟨rfl, by rw [hU], by rw [hU]; exact hPc, va_K.moved hW.alike hKc, hDc.weaken (fun _ _ _ _ => trivial), w_N.warm hW hN⟩⟩ rfl rfl hl.1 rfl (lv_room (Nat.le_of_ble_eq_true rfl)) dX15_equation_24 ⟨(Nat.le_of_ble_eq_true rfl), (Nat.le_of_ble_eq_true rfl)⟩) hS (fun q _ h => hFc q h) hFc (fun r_4 u t H1 locs1 ht hvm hw hB hz1 hk1 hS1 => ?_)
    obtain ⟨hP1, hK1, hD1⟩ := hB
    rw [ht] at hP1
    have hK1 := va_K.moved hvm.symm hK1
    have hJ := va_join (wr := []) (w1 := [(h0, .inr (15, fs_1))]) hP hD [0] [] rfl rfl (by decide) (by decide) hk1 hFc hP1 hD1
    clear hP hD hPc hDc hKc hFc hz1; try clear hk1
    obtain ⟨hP, hD⟩ := hJ
    replace hK := (hK.sub (tys' := []) [] rfl).app (hK1.sub (tys' := []) [] rfl)
    clear hP1 hK1 hD1 hvm ht hS; try clear t
    try clear H
    revert hS1
    intro hS
    generalize H1 = H at hP hS ⊢; try clear H1
    replace hP : va_P (dC, dI) vwCl [(h0, .inr (15, fs_1))] H := hP
    replace hD : va_D A [(h0, .inr (15, fs_1))] := hD
    replace hK : va_K (dC, dI) vwCl [] s := hK
    have hw_5 : r_4 = 0 := hw; clear hw
    subst hw_5
    refine lv_if_eq (tgt := 32) hx hb dX15_equation_27 (by decide) (fun _ => ?_) (fun hc => absurd (by decide) hc)
    refine lv_aload_n hx hb dX15_equation_32 rfl (lv_at hl 0 rfl) ?_
    refine lv_iload_n hx hb dX15_equation_33 rfl (lv_at hl 1 rfl) ?_
    have hPc := hP.sub (ws' := [(h0, .inr (15, fs_1))]) [0] rfl
    have hDc := hD.sub (ws' := [(h0, .inr (15, fs_1))]) [0] (by decide) rfl
    have hKc := hK.sub (tys' := []) [] rfl
    have hFc := va_free (wc := [(h0, .inr (15, fs_1))]) hD hS hA [0] rfl
    refine va_callv (va_runV (As := [.int 0]) (rest := []) ⟨hx, hb, hml, hown, hts⟩ (c_m_starts l dC dI h0 qfed qf qfd qs qk fs_1 (mF.sub hF_h0 [0, 1, 2, 3, 4, 5, 6, 7, 8, 9, 10, 11, 12, 13, 14, 15, 16, 17, 18] rfl) H.size) (cwV 1 hts g_m_equation_m_starts_428 rfl rfl rfl hv_X15_starts ⟨Nat.le_of_ble_eq_true rfl, Nat.le_of_ble_eq_true rfl⟩) ⟨fun a U g mk q => by obtain ⟨q0, q1, qP, qK, qD, qE0⟩ := q; exact ⟨q0, q1, qP, va_K.moved (u := U) (U := U.calling g mk a) (Vm.Alike.refl U.vm) qK, qD, w_N.same rfl qE0⟩, va_recv hKc hPc (ci := 15) (q0 := 0) rfl rfl, fun U hU hW => ⟨rfl, by rw [hU], by rw [hU]; exact hPc, va_K.moved hW.alike hKc, hDc.weaken (fun _ _ _ _ => trivial), w_N.warm hW hN⟩⟩ rfl rfl hl.1 rfl (lv_room (Nat.le_of_ble_eq_true rfl)) dX15_equation_34 ⟨(Nat.le_of_ble_eq_true rfl), (Nat.le_of_ble_eq_true rfl)⟩) hS (fun q _ h => hFc q h) hFc (fun u t H1 locs1 ht hvm hw hB hz1 hk1 hS1 => ?_)
    obtain ⟨fs_6, hP1, hK1, hD1, hp_7⟩ := hB
    rw [ht] at hP1
    have hK1 := va_K.moved hvm.symm hK1
    have hJ := va_join (wr := []) (w1 := [(h0, .inr (15, fs_6))]) hP hD [0] [] rfl rfl (by decide) (by decide) hk1 hFc hP1 hD1
    clear hP hD hPc hDc hKc hFc hz1; try clear hk1
    obtain ⟨hP, hD⟩ := hJ
    replace hK := (hK.sub (tys' := []) [] rfl).app (hK1.sub (tys' := []) [] rfl)
    clear hP1 hK1 hD1 hvm ht hS; try clear t
    try clear H
    revert hS1
    intro hS
    generalize H1 = H at hP hS ⊢; try clear H1
    replace hP : va_P (dC, dI) vwCl [(h0, .inr (15, fs_6))] H := hP
    replace hD : va_D A [(h0, .inr (15, fs_6))] := hD
    replace hK : va_K (dC, dI) vwCl [] s := hK
    have hw_8 : True := hw; clear hw
    refine lv_aload_n hx hb dX15_equation_37 rfl (lv_at hl 0 rfl) ?_
    have hPc := hP.sub (ws' := [(h0, .inr (15, fs_6))]) [0] rfl
    have hDc := hD.sub (ws' := [(h0, .inr (15, fs_6))]) [0] (by decide) rfl
    have hKc := hK.sub (tys' := []) [] rfl
    have hFc := va_free (wc := [(h0, .inr (15, fs_6))]) hD hS hA [0] rfl
    refine va_calli (va_runV (As := []) (rest := []) ⟨hx, hb, hml, hown, hts⟩ (c_m_wordHere l dC dI h0 fs_6 (mF.sub hp_7 [2, 4] rfl) H.size) (cwV 0 hts g_m_equation_m_wordHere_337 rfl rfl rfl hv_X15_wordHere ⟨Nat.le_of_ble_eq_true rfl, Nat.le_of_ble_eq_true rfl⟩) ⟨fun a U g mk q => by obtain ⟨q0, q1, qP, qK, qD, qE0⟩ := q; exact ⟨q0, q1, qP, va_K.moved (u := U) (U := U.calling g mk a) (Vm.Alike.refl U.vm) qK, qD, w_N.same rfl qE0⟩, va_recv hKc hPc (ci := 15) (q0 := 0) rfl rfl, fun U hU hW => ⟨rfl, by rw [hU], by rw [hU]; exact hPc, va_K.moved hW.alike hKc, hDc.weaken (fun _ _ _ _ => trivial), w_N.warm hW hN⟩⟩ rfl rfl hl.1 rfl (lv_room (Nat.le_of_ble_eq_true rfl)) dX15_equation_38 ⟨(Nat.le_of_ble_eq_true rfl), (Nat.le_of_ble_eq_true rfl)⟩) hS (fun q _ h => hFc q h) hFc (fun r_9 u t H1 locs1 ht hvm hw hB hz1 hk1 hS1 => ?_)
    obtain ⟨hP1, hK1, hD1⟩ := hB
    rw [ht] at hP1
    have hK1 := va_K.moved hvm.symm hK1
    have hJ := va_join (wr := []) (w1 := [(h0, .inr (15, fs_6))]) hP hD [0] [] rfl rfl (by decide) (by decide) hk1 hFc hP1 hD1
    clear hP hD hPc hDc hKc hFc hz1; try clear hk1
    obtain ⟨hP, hD⟩ := hJ
    replace hK := (hK.sub (tys' := []) [] rfl).app (hK1.sub (tys' := []) [] rfl)
    clear hP1 hK1 hD1 hvm ht hS; try clear t
    try clear H
    revert hS1
    intro hS
    generalize H1 = H at hP hS ⊢; try clear H1
    replace hP : va_P (dC, dI) vwCl [(h0, .inr (15, fs_6))] H := hP
    replace hD : va_D A [(h0, .inr (15, fs_6))] := hD
    replace hK : va_K (dC, dI) vwCl [] s := hK
    have hw_10 : r_9 = 0 := hw; clear hw
    subst hw_10
    refine lv_istore_n (lv' := [(2, .int 0), (0, .ref h0), (1, .int 0)]) hx hb dX15_equation_41 rfl hl (by decide) rfl (fun ls hl => ?_)
    refine lv_aload_n hx hb dX15_equation_42 rfl (lv_at hl 1 rfl) ?_
    refine lv_iload_n hx hb dX15_equation_43 rfl (lv_at hl 0 rfl) ?_
    refine lv_ldcw (v := 127274) hx hb hown (hts (.constant RX15 431 (127274)) (List.mem_of_getElem? (i := 15) rfl)) dX15_equation_44 ?_
    refine lv_icmp_ne (tgt := 54) hx hb dX15_equation_47 (by decide) (fun _ => ?_) (fun hc => absurd hc (by decide))
    refine lv_iload_n hx hb dX15_equation_54 rfl (lv_at hl 0 rfl) ?_
    refine lv_ldcw (v := 2021387) hx hb hown (hts (.constant RX15 432 (2021387)) (List.mem_of_getElem? (i := 16) rfl)) dX15_equation_55 ?_
    refine lv_icmp_ne (tgt := 65) hx hb dX15_equation_58 (by decide) (fun _ => ?_) (fun hc => absurd hc (by decide))
    refine lv_iconst (v := 0) hx hb dX15_equation_65 (by decide) ?_
    refine va_put (D := (dC, dI)) (ci := 15) (v := .int 0) (ty := .int) (C := RX15) (T := TX15) (N := 89) hx hb hts (in_m_equation_X15) tyX15 tyX15_ok nmX15 hown hK hP hD hS 0 rfl rfl 29 (by decide) (hts (.fieldLink RX15 433 "MotionSignsModel" "readKind" "I") (List.mem_of_getElem? (i := 17) rfl)) (fun _ h9 => h9) rfl (tyX15_ok 29 (by decide)) rfl rfl (mF.lt hp_7 (by decide)) dX15_equation_66 ?_
    clear hP hD hS; try clear H
    intro H locs hP hD hS
    have hF0 := mF.sub (L' := [(0, .int 0), (18, .int 0), (19, .int 0), (20, .int (-1)), (21, .int 0), (22, .int 0), (23, .int (-1)), (24, .int 0), (25, .int 0), (27, .int 0), (28, .int 0), (35, .int 0), (17, .int (-1)), (26, .ref qfed), (30, .ref qf), (31, .ref qfd), (33, .ref qs), (36, .ref qk)]) hp_7 [0, 1, 2, 3, 4, 5, 6, 7, 8, 9, 10, 12, 13, 14, 15, 16, 17, 18] rfl
    have hF1 := mF.put hF0 29 (.int 0) (by decide) rfl
    replace hP : va_P (dC, dI) vwCl [(h0, .inr (15, (fs_6.set 29 (.int 0))))] H := hP
    replace hD : va_D A [(h0, .inr (15, (fs_6.set 29 (.int 0))))] := hD
    generalize fs_6.set 29 (.int 0) = fs_11 at hP hD hF1
    replace hp_7 : mF 89 [(29, .int 0), (0, .int 0), (18, .int 0), (19, .int 0), (20, .int (-1)), (21, .int 0), (22, .int 0), (23, .int (-1)), (24, .int 0), (25, .int 0), (27, .int 0), (28, .int 0), (35, .int 0), (17, .int (-1)), (26, .ref qfed), (30, .ref qf), (31, .ref qfd), (33, .ref qs), (36, .ref qk)] fs_11 := hF1
    clear hF1 hF0
    replace hP : va_P (dC, dI) vwCl [(h0, .inr (15, fs_11))] H := hP
    replace hD : va_D A [(h0, .inr (15, fs_11))] := hD
    refine lv_aload_n hx hb dX15_equation_69 rfl (lv_at hl 1 rfl) ?_
    refine va_get (D := (dC, dI)) (ci := 15) (v := .int 0) (C := RX15) (T := TX15) (N := 89) hx hb hts (in_m_equation_X15) hown hK hP 0 rfl rfl 29 (by decide) (hts (.fieldLink RX15 433 "MotionSignsModel" "readKind" "I") (List.mem_of_getElem? (i := 17) rfl)) (fun _ h9 => h9) (mF.get hp_7 0 rfl) dX15_equation_70 ?_
    refine lv_if_ne (tgt := 85) hx hb dX15_equation_73 (by decide) (fun hc => absurd (by decide) hc) (fun _ => ?_)
    refine lv_aload_n hx hb dX15_equation_76 rfl (lv_at hl 1 rfl) ?_
    refine lv_iconst (v := 1) hx hb dX15_equation_77 (by decide) ?_
    refine lv_aload_n hx hb dX15_equation_78 rfl (lv_at hl 1 rfl) ?_
    refine va_get (D := (dC, dI)) (ci := 15) (v := .int 0) (C := RX15) (T := TX15) (N := 89) hx hb hts (in_m_equation_X15) hown hK hP 0 rfl rfl 21 (by decide) (hts (.fieldLink RX15 303 "MotionSignsModel" "at" "I") (List.mem_of_getElem? (i := 18) rfl)) (fun _ h9 => h9) (mF.get hp_7 5 rfl) dX15_equation_79 ?_
    have hPc := hP.sub (ws' := [(h0, .inr (15, fs_11))]) [0] rfl
    have hDc := hD.sub (ws' := [(h0, .inr (15, fs_11))]) [0] (by decide) rfl
    have hKc := hK.sub (tys' := []) [] rfl
    have hFc := va_free (wc := [(h0, .inr (15, fs_11))]) hD hS hA [0] rfl
    refine va_callv (va_runV (As := [.int 1, .int 0]) (rest := []) ⟨hx, hb, hml, hown, hts⟩ (c_m_wrong l dC dI h0 qfed qf qfd qs qk fs_11 (mF.sub hp_7 [1, 2, 3, 4, 5, 6, 7, 8, 9, 10, 11, 0, 12, 13, 14, 15, 16, 17, 18] rfl) H.size) (cwV 2 hts g_m_equation_m_wrong_323 rfl rfl rfl hv_X15_wrong ⟨Nat.le_of_ble_eq_true rfl, Nat.le_of_ble_eq_true rfl⟩) ⟨fun a U g mk q => by obtain ⟨q0, q1, qP, qK, qD, qE0⟩ := q; exact ⟨q0, q1, qP, va_K.moved (u := U) (U := U.calling g mk a) (Vm.Alike.refl U.vm) qK, qD, w_N.same rfl qE0⟩, va_recv hKc hPc (ci := 15) (q0 := 0) rfl rfl, fun U hU hW => ⟨rfl, by rw [hU], by rw [hU]; exact hPc, va_K.moved hW.alike hKc, hDc.weaken (fun _ _ _ _ => trivial), w_N.warm hW hN⟩⟩ rfl rfl hl.1 rfl (lv_room (Nat.le_of_ble_eq_true rfl)) dX15_equation_82 ⟨(Nat.le_of_ble_eq_true rfl), (Nat.le_of_ble_eq_true rfl)⟩) hS (fun q _ h => hFc q h) hFc (fun u t H1 locs1 ht hvm hw hB hz1 hk1 hS1 => ?_)
    obtain ⟨fs_12, hP1, hK1, hD1, hp_13⟩ := hB
    rw [ht] at hP1
    have hK1 := va_K.moved hvm.symm hK1
    have hJ := va_join (wr := []) (w1 := [(h0, .inr (15, fs_12))]) hP hD [0] [] rfl rfl (by decide) (by decide) hk1 hFc hP1 hD1
    clear hP hD hPc hDc hKc hFc hz1; try clear hk1
    obtain ⟨hP, hD⟩ := hJ
    replace hK := (hK.sub (tys' := []) [] rfl).app (hK1.sub (tys' := []) [] rfl)
    clear hP1 hK1 hD1 hvm ht hS; try clear t
    try clear H
    revert hS1
    intro hS
    generalize H1 = H at hP hS ⊢; try clear H1
    replace hP : va_P (dC, dI) vwCl [(h0, .inr (15, fs_12))] H := hP
    replace hD : va_D A [(h0, .inr (15, fs_12))] := hD
    replace hK : va_K (dC, dI) vwCl [] s := hK
    have hw_14 : True := hw; clear hw
    refine lv_aload_n hx hb dX15_equation_85 rfl (lv_at hl 1 rfl) ?_
    refine lv_aload_n hx hb dX15_equation_86 rfl (lv_at hl 1 rfl) ?_
    refine va_get (D := (dC, dI)) (ci := 15) (v := .int 0) (C := RX15) (T := TX15) (N := 89) hx hb hts (in_m_equation_X15) hown hK hP 0 rfl rfl 29 (by decide) (hts (.fieldLink RX15 433 "MotionSignsModel" "readKind" "I") (List.mem_of_getElem? (i := 17) rfl)) (fun _ h9 => h9) (mF.get hp_13 11 rfl) dX15_equation_87 ?_
    refine lv_iconst (v := 1) hx hb dX15_equation_90 (by decide) ?_
    refine lv_isub hx hb dX15_equation_91 ?_
    refine lv_topi (fun v_15 ev_15 => ?_)
    have ev_15 : v_15 = (-1) := ev_15.trans (by decide)
    subst ev_15
    refine va_put (D := (dC, dI)) (ci := 15) (v := .int (-1)) (ty := .int) (C := RX15) (T := TX15) (N := 89) hx hb hts (in_m_equation_X15) tyX15 tyX15_ok nmX15 hown hK hP hD hS 0 rfl rfl 25 (by decide) (hts (.fieldLink RX15 341 "MotionSignsModel" "mode" "I") (List.mem_of_getElem? (i := 22) rfl)) (fun _ h9 => h9) rfl (tyX15_ok 25 (by decide)) rfl rfl (mF.lt hp_13 (by decide)) dX15_equation_92 ?_
    clear hP hD hS; try clear H
    intro H locs hP hD hS
    have hF0 := mF.sub (L' := [(0, .int 0), (18, .int 0), (19, .int 0), (20, .int (-1)), (21, .int 0), (22, .int 1), (23, .int 0), (24, .int 0), (27, .int 0), (28, .int 0), (29, .int 0), (35, .int 0), (17, .int (-1)), (26, .ref qfed), (30, .ref qf), (31, .ref qfd), (33, .ref qs), (36, .ref qk)]) hp_13 [0, 1, 2, 3, 4, 5, 6, 7, 9, 10, 11, 12, 13, 14, 15, 16, 17, 18] rfl
    have hF1 := mF.put hF0 25 (.int (-1)) (by decide) rfl
    replace hP : va_P (dC, dI) vwCl [(h0, .inr (15, (fs_12.set 25 (.int (-1)))))] H := hP
    replace hD : va_D A [(h0, .inr (15, (fs_12.set 25 (.int (-1)))))] := hD
    generalize fs_12.set 25 (.int (-1)) = fs_16 at hP hD hF1
    replace hp_13 : mF 89 [(25, .int (-1)), (0, .int 0), (18, .int 0), (19, .int 0), (20, .int (-1)), (21, .int 0), (22, .int 1), (23, .int 0), (24, .int 0), (27, .int 0), (28, .int 0), (29, .int 0), (35, .int 0), (17, .int (-1)), (26, .ref qfed), (30, .ref qf), (31, .ref qfd), (33, .ref qs), (36, .ref qk)] fs_16 := hF1
    clear hF1 hF0
    replace hP : va_P (dC, dI) vwCl [(h0, .inr (15, fs_16))] H := hP
    replace hD : va_D A [(h0, .inr (15, fs_16))] := hD
    refine lv_aload_n hx hb dX15_equation_95 rfl (lv_at hl 1 rfl) ?_
    refine va_get (D := (dC, dI)) (ci := 15) (v := .int 1) (C := RX15) (T := TX15) (N := 89) hx hb hts (in_m_equation_X15) hown hK hP 0 rfl rfl 22 (by decide) (hts (.fieldLink RX15 310 "MotionSignsModel" "fault" "I") (List.mem_of_getElem? (i := 23) rfl)) (fun _ h9 => h9) (mF.get hp_13 6 rfl) dX15_equation_96 ?_
    refine lv_if_ne (tgt := 106) hx hb dX15_equation_99 (by decide) (fun _ => ?_) (fun hc => absurd hc (by decide))
    refine lv_aload_n hx hb dX15_equation_106 rfl (lv_at hl 1 rfl) ?_
    refine va_get (D := (dC, dI)) (ci := 15) (v := .int 1) (C := RX15) (T := TX15) (N := 89) hx hb hts (in_m_equation_X15) hown hK hP 0 rfl rfl 22 (by decide) (hts (.fieldLink RX15 310 "MotionSignsModel" "fault" "I") (List.mem_of_getElem? (i := 23) rfl)) (fun _ h9 => h9) (mF.get hp_13 6 rfl) dX15_equation_107 ?_
    refine lv_if_ne (tgt := 121) hx hb dX15_equation_110 (by decide) (fun _ => ?_) (fun hc => absurd hc (by decide))
    refine lv_aload_n hx hb dX15_equation_121 rfl (lv_at hl 1 rfl) ?_
    have hPc := hP.sub (ws' := [(h0, .inr (15, fs_16))]) [0] rfl
    have hDc := hD.sub (ws' := [(h0, .inr (15, fs_16))]) [0] (by decide) rfl
    have hKc := hK.sub (tys' := []) [] rfl
    have hFc := va_free (wc := [(h0, .inr (15, fs_16))]) hD hS hA [0] rfl
    refine va_callv (va_runV (As := []) (rest := []) ⟨hx, hb, hml, hown, hts⟩ (c_m_ends l dC dI h0 qfed qf qfd qs qk fs_16 (mF.sub hp_13 [1, 2, 3, 4, 5, 6, 7, 8, 0, 9, 10, 11, 12, 13, 14, 15, 16, 17, 18] rfl) H.size) (cwV 0 hts g_m_equation_m_ends_440 rfl rfl rfl hv_X15_ends ⟨Nat.le_of_ble_eq_true rfl, Nat.le_of_ble_eq_true rfl⟩) ⟨fun a U g mk q => by obtain ⟨q0, q1, qP, qK, qD, qE0⟩ := q; exact ⟨q0, q1, qP, va_K.moved (u := U) (U := U.calling g mk a) (Vm.Alike.refl U.vm) qK, qD, w_N.same rfl qE0⟩, va_recv hKc hPc (ci := 15) (q0 := 0) rfl rfl, fun U hU hW => ⟨rfl, by rw [hU], by rw [hU]; exact hPc, va_K.moved hW.alike hKc, hDc.weaken (fun _ _ _ _ => trivial), w_N.warm hW hN⟩⟩ rfl rfl hl.1 rfl (lv_room (Nat.le_of_ble_eq_true rfl)) dX15_equation_122 ⟨(Nat.le_of_ble_eq_true rfl), (Nat.le_of_ble_eq_true rfl)⟩) hS (fun q _ h => hFc q h) hFc (fun u t H1 locs1 ht hvm hw hB hz1 hk1 hS1 => ?_)
    obtain ⟨fs_17, hP1, hK1, hD1, hp_18⟩ := hB
    rw [ht] at hP1
    have hK1 := va_K.moved hvm.symm hK1
    have hJ := va_join (wr := []) (w1 := [(h0, .inr (15, fs_17))]) hP hD [0] [] rfl rfl (by decide) (by decide) hk1 hFc hP1 hD1
    clear hP hD hPc hDc hKc hFc hz1; try clear hk1
    obtain ⟨hP, hD⟩ := hJ
    replace hK := (hK.sub (tys' := []) [] rfl).app (hK1.sub (tys' := []) [] rfl)
    clear hP1 hK1 hD1 hvm ht hS; try clear t
    try clear H
    revert hS1
    intro hS
    generalize H1 = H at hP hS ⊢; try clear H1
    replace hP : va_P (dC, dI) vwCl [(h0, .inr (15, fs_17))] H := hP
    replace hD : va_D A [(h0, .inr (15, fs_17))] := hD
    replace hK : va_K (dC, dI) vwCl [] s := hK
    have hw_19 : True := hw; clear hw
    refine lv_aload_n hx hb dX15_equation_125 rfl (lv_at hl 1 rfl) ?_
    refine va_get (D := (dC, dI)) (ci := 15) (v := .int 1) (C := RX15) (T := TX15) (N := 89) hx hb hts (in_m_equation_X15) hown hK hP 0 rfl rfl 22 (by decide) (hts (.fieldLink RX15 310 "MotionSignsModel" "fault" "I") (List.mem_of_getElem? (i := 23) rfl)) (fun _ h9 => h9) (mF.get hp_18 5 rfl) dX15_equation_126 ?_
    refine lv_if_eq (tgt := 140) hx hb dX15_equation_129 (by decide) (fun hc => absurd hc (by decide)) (fun _ => ?_)
    refine lv_aload_n hx hb dX15_equation_132 rfl (lv_at hl 1 rfl) ?_
    refine va_get (D := (dC, dI)) (ci := 15) (v := .int 1) (C := RX15) (T := TX15) (N := 89) hx hb hts (in_m_equation_X15) hown hK hP 0 rfl rfl 22 (by decide) (hts (.fieldLink RX15 310 "MotionSignsModel" "fault" "I") (List.mem_of_getElem? (i := 23) rfl)) (fun _ h9 => h9) (mF.get hp_18 5 rfl) dX15_equation_133 ?_
    refine lv_bipush (v := 10) hx hb dX15_equation_136 (by decide) ?_
    refine lv_isub hx hb dX15_equation_138 ?_
    refine lv_topi (fun v_20 ev_20 => ?_)
    have ev_20 : v_20 = (-9) := ev_20.trans (by decide)
    subst ev_20
    have hP9 := hP.sub (ws' := [(h0, .inr (15, fs_17))]) [0] rfl
    have hD9 := hD.sub (ws' := [(h0, .inr (15, fs_17))]) [0] (by decide) rfl
    have hK9 := hK.sub (tys' := []) [] rfl
    rw [← hAe] at hD9
    refine W.widen (k := 0) (n := 0) (Nat.le_of_ble_eq_true rfl) (Nat.le_of_ble_eq_true rfl) ?_
    subst hAe
    exact (W.iret (v := (-9)) hx hb hr (fun t ht hW => ⟨⟨(-9), 0, rfl, Or.inl ⟨rfl, rfl, hw_3⟩, fs_17, by rw [ht]; exact hP9, va_K.moved hW.alike hK9, hD9, (mF.sub hp_18 [0] rfl)⟩, hS.F ht⟩) hS.2.2 dX15_equation_139)
  · skip
    subst ehw_3
    refine lv_if_ne (tgt := 22) hx hb dX15_equation_15 (by decide) (fun hc => absurd (by decide) hc) (fun _ => ?_)
    refine lv_iconst (v := 1) hx hb dX15_equation_18 (by decide) ?_
    refine lv_goto (tgt := 23) hx hb dX15_equation_19 (by decide) ?_
    refine lv_iconst (v := 1) hx hb dX15_equation_23 (by decide) ?_
    have hPc := hP.sub (ws' := [(h0, .inr (15, fs_1))]) [0] rfl
    have hDc := hD.sub (ws' := [(h0, .inr (15, fs_1))]) [0] (by decide) rfl
    have hKc := hK.sub (tys' := []) [] rfl
    have hFc := va_free (wc := [(h0, .inr (15, fs_1))]) hD hS hA [0] rfl
    refine va_calli (va_runV (As := [.int 1, .int 1]) (rest := []) ⟨hx, hb, hml, hown, hts⟩ (c_m_bad1 l dC dI h0 qfed qf qfd qs qk fs_1 (mF.sub hF_h0 [0, 1, 2, 3, 4, 5, 6, 7, 8, 9, 10, 11, 12, 13, 14, 15, 16, 17, 18] rfl) H.size) (cwV 2 hts g_m_equation_m_bad1_424 rfl rfl rfl hv_X15_bad ⟨Nat.le_of_ble_eq_true rfl, Nat.le_of_ble_eq_true rfl⟩) ⟨fun a U g mk q => by obtain ⟨q0, q1, qP, qK, qD, qE0⟩ := q; exact ⟨q0, q1, qP, va_K.moved (u := U) (U := U.calling g mk a) (Vm.Alike.refl U.vm) qK, qD, w_N.same rfl qE0⟩, va_recv hKc hPc (ci := 15) (q0 := 0) rfl rfl, fun U hU hW => ⟨rfl, by rw [hU], by rw [hU]; exact hPc, va_K.moved hW.alike hKc, hDc.weaken (fun _ _ _ _ => trivial), w_N.warm hW hN⟩⟩ rfl rfl hl.1 rfl (lv_room (Nat.le_of_ble_eq_true rfl)) dX15_equation_24 ⟨(Nat.le_of_ble_eq_true rfl), (Nat.le_of_ble_eq_true rfl)⟩) hS (fun q _ h => hFc q h) hFc (fun r_21 u t H1 locs1 ht hvm hw hB hz1 hk1 hS1 => ?_)
    obtain ⟨fs_22, hP1, hK1, hD1, hp_23⟩ := hB
    rw [ht] at hP1
    have hK1 := va_K.moved hvm.symm hK1
    have hJ := va_join (wr := []) (w1 := [(h0, .inr (15, fs_22))]) hP hD [0] [] rfl rfl (by decide) (by decide) hk1 hFc hP1 hD1
    clear hP hD hPc hDc hKc hFc hz1; try clear hk1
    obtain ⟨hP, hD⟩ := hJ
    replace hK := (hK.sub (tys' := []) [] rfl).app (hK1.sub (tys' := []) [] rfl)
    clear hP1 hK1 hD1 hvm ht hS; try clear t
    try clear H
    revert hS1
    intro hS
    generalize H1 = H at hP hS ⊢; try clear H1
    replace hP : va_P (dC, dI) vwCl [(h0, .inr (15, fs_22))] H := hP
    replace hD : va_D A [(h0, .inr (15, fs_22))] := hD
    replace hK : va_K (dC, dI) vwCl [] s := hK
    have hw_24 : r_21 = 1 := hw; clear hw
    subst hw_24
    refine lv_if_eq (tgt := 32) hx hb dX15_equation_27 (by decide) (fun hc => absurd hc (by decide)) (fun _ => ?_)
    refine lv_iconst (v := 0) hx hb dX15_equation_30 (by decide) ?_
    have hP9 := hP.sub (ws' := [(h0, .inr (15, fs_22))]) [0] rfl
    have hD9 := hD.sub (ws' := [(h0, .inr (15, fs_22))]) [0] (by decide) rfl
    have hK9 := hK.sub (tys' := []) [] rfl
    rw [← hAe] at hD9
    refine W.widen (k := 0) (n := 0) (Nat.le_of_ble_eq_true rfl) (Nat.le_of_ble_eq_true rfl) ?_
    subst hAe
    exact (W.iret (v := 0) hx hb hr (fun t ht hW => ⟨⟨0, 1, rfl, Or.inr ⟨rfl, hw_3⟩, fs_22, by rw [ht]; exact hP9, va_K.moved hW.alike hK9, hD9, (mF.sub hp_23 [0] rfl)⟩, hS.F ht⟩) hS.2.2 dX15_equation_31)
