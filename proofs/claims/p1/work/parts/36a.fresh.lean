theorem hv_X13_adds : yX13_adds.cls = RX13 ∧ yX13_adds.cls ≠ "java/lang/invoke/MethodHandle" ∧ yX13_adds.cls ≠ "java/lang/invoke/VarHandle" ∧ (parseMethodDescriptor yX13_adds.desc).map (fun d => d.parameters.length) = some 2 := by decide +kernel
theorem hv_X13_clear : yX13_clear.cls = RX13 ∧ yX13_clear.cls ≠ "java/lang/invoke/MethodHandle" ∧ yX13_clear.cls ≠ "java/lang/invoke/VarHandle" ∧ (parseMethodDescriptor yX13_clear.desc).map (fun d => d.parameters.length) = some 0 := by decide +kernel
theorem hv_X13_found : yX13_found.cls = RX13 ∧ yX13_found.cls ≠ "java/lang/invoke/MethodHandle" ∧ yX13_found.cls ≠ "java/lang/invoke/VarHandle" ∧ (parseMethodDescriptor yX13_found.desc).map (fun d => d.parameters.length) = some 1 := by decide +kernel
theorem hv_X13_of : yX13_of.cls = RX13 ∧ yX13_of.cls ≠ "java/lang/invoke/MethodHandle" ∧ yX13_of.cls ≠ "java/lang/invoke/VarHandle" ∧ (parseMethodDescriptor yX13_of.desc).map (fun d => d.parameters.length) = some 1 := by decide +kernel
theorem hv_X13_placeOf : yX13_placeOf.cls = RX13 ∧ yX13_placeOf.cls ≠ "java/lang/invoke/MethodHandle" ∧ yX13_placeOf.cls ≠ "java/lang/invoke/VarHandle" ∧ (parseMethodDescriptor yX13_placeOf.desc).map (fun d => d.parameters.length) = some 1 := by decide +kernel
theorem hv_X13_terms : yX13_terms.cls = RX13 ∧ yX13_terms.cls ≠ "java/lang/invoke/MethodHandle" ∧ yX13_terms.cls ≠ "java/lang/invoke/VarHandle" ∧ (parseMethodDescriptor yX13_terms.desc).map (fun d => d.parameters.length) = some 0 := by decide +kernel
theorem hv_X15_bad : yX15_bad.cls = RX15 ∧ yX15_bad.cls ≠ "java/lang/invoke/MethodHandle" ∧ yX15_bad.cls ≠ "java/lang/invoke/VarHandle" ∧ (parseMethodDescriptor yX15_bad.desc).map (fun d => d.parameters.length) = some 2 := by decide +kernel
theorem hv_X15_blanks : yX15_blanks.cls = RX15 ∧ yX15_blanks.cls ≠ "java/lang/invoke/MethodHandle" ∧ yX15_blanks.cls ≠ "java/lang/invoke/VarHandle" ∧ (parseMethodDescriptor yX15_blanks.desc).map (fun d => d.parameters.length) = some 0 := by decide +kernel
theorem hv_X15_byteAt : yX15_byteAt.cls = RX15 ∧ yX15_byteAt.cls ≠ "java/lang/invoke/MethodHandle" ∧ yX15_byteAt.cls ≠ "java/lang/invoke/VarHandle" ∧ (parseMethodDescriptor yX15_byteAt.desc).map (fun d => d.parameters.length) = some 1 := by decide +kernel
theorem hv_X15_ends : yX15_ends.cls = RX15 ∧ yX15_ends.cls ≠ "java/lang/invoke/MethodHandle" ∧ yX15_ends.cls ≠ "java/lang/invoke/VarHandle" ∧ (parseMethodDescriptor yX15_ends.desc).map (fun d => d.parameters.length) = some 0 := by decide +kernel
theorem hv_X15_highest : yX15_highest.cls = RX15 ∧ yX15_highest.cls ≠ "java/lang/invoke/MethodHandle" ∧ yX15_highest.cls ≠ "java/lang/invoke/VarHandle" ∧ (parseMethodDescriptor yX15_highest.desc).map (fun d => d.parameters.length) = some 0 := by decide +kernel
theorem hv_X15_starts : yX15_starts.cls = RX15 ∧ yX15_starts.cls ≠ "java/lang/invoke/MethodHandle" ∧ yX15_starts.cls ≠ "java/lang/invoke/VarHandle" ∧ (parseMethodDescriptor yX15_starts.desc).map (fun d => d.parameters.length) = some 1 := by decide +kernel
theorem hv_X15_wordHere : yX15_wordHere.cls = RX15 ∧ yX15_wordHere.cls ≠ "java/lang/invoke/MethodHandle" ∧ yX15_wordHere.cls ≠ "java/lang/invoke/VarHandle" ∧ (parseMethodDescriptor yX15_wordHere.desc).map (fun d => d.parameters.length) = some 0 := by decide +kernel
theorem hv_X15_wrong : yX15_wrong.cls = RX15 ∧ yX15_wrong.cls ≠ "java/lang/invoke/MethodHandle" ∧ yX15_wrong.cls ≠ "java/lang/invoke/VarHandle" ∧ (parseMethodDescriptor yX15_wrong.desc).map (fun d => d.parameters.length) = some 2 := by decide +kernel
theorem dX15_bad_0 : decode cX15_bad 0 = .ok (.iload_n 1, 1) := by decide +kernel
theorem dX15_bad_1 : decode cX15_bad 1 = .ok (.ifCond .eq 15, 3) := by decide +kernel
theorem dX15_bad_4 : decode cX15_bad 4 = .ok (.aload_n 0, 1) := by decide +kernel
theorem dX15_bad_5 : decode cX15_bad 5 = .ok (.getfield 296, 3) := by decide +kernel
theorem dX15_bad_8 : decode cX15_bad 8 = .ok (.ifCond .ne 8, 3) := by decide +kernel
theorem dX15_bad_11 : decode cX15_bad 11 = .ok (.aload_n 0, 1) := by decide +kernel
theorem dX15_bad_12 : decode cX15_bad 12 = .ok (.iload_n 2, 1) := by decide +kernel
theorem dX15_bad_13 : decode cX15_bad 13 = .ok (.putfield 296, 3) := by decide +kernel
theorem dX15_bad_16 : decode cX15_bad 16 = .ok (.aload_n 0, 1) := by decide +kernel
theorem dX15_bad_17 : decode cX15_bad 17 = .ok (.getfield 296, 3) := by decide +kernel
theorem dX15_bad_20 : decode cX15_bad 20 = .ok (.ifCond .eq 7, 3) := by decide +kernel
theorem dX15_bad_23 : decode cX15_bad 23 = .ok (.iconst 1, 1) := by decide +kernel
theorem dX15_bad_24 : decode cX15_bad 24 = .ok (.goto 4, 3) := by decide +kernel
theorem dX15_bad_28 : decode cX15_bad 28 = .ok (.ireturn, 1) := by decide +kernel
theorem dX15_bad_27 : decode cX15_bad 27 = .ok (.iconst 0, 1) := by decide +kernel
theorem dX15_in_0 : decode cX15_in 0 = .ok (.iload_n 0, 1) := by decide +kernel
theorem dX15_in_1 : decode cX15_in 1 = .ok (.iload_n 1, 1) := by decide +kernel
theorem dX15_in_2 : decode cX15_in 2 = .ok (.if_icmp .lt 12, 3) := by decide +kernel
theorem dX15_in_14 : decode cX15_in 14 = .ok (.iconst 0, 1) := by decide +kernel
theorem dX15_in_15 : decode cX15_in 15 = .ok (.ireturn, 1) := by decide +kernel
theorem dX15_in_5 : decode cX15_in 5 = .ok (.iload_n 0, 1) := by decide +kernel
theorem dX15_in_6 : decode cX15_in 6 = .ok (.iload_n 2, 1) := by decide +kernel
theorem dX15_in_7 : decode cX15_in 7 = .ok (.if_icmp .gt 7, 3) := by decide +kernel
theorem dX15_in_10 : decode cX15_in 10 = .ok (.iconst 1, 1) := by decide +kernel
theorem dX15_in_11 : decode cX15_in 11 = .ok (.goto 4, 3) := by decide +kernel
theorem dX15_thrown_0 : decode cX15_thrown 0 = .ok (.aload_n 0, 1) := by decide +kernel
theorem dX15_thrown_1 : decode cX15_thrown 1 = .ok (.getfield 296, 3) := by decide +kernel
theorem dX15_thrown_4 : decode cX15_thrown 4 = .ok (.ireturn, 1) := by decide +kernel
theorem dX15_rest_0 : decode cX15_rest 0 = .ok (.aload_n 0, 1) := by decide +kernel
theorem dX15_rest_1 : decode cX15_rest 1 = .ok (.iconst 0, 1) := by decide +kernel
theorem dX15_rest_2 : decode cX15_rest 2 = .ok (.putfield 296, 3) := by decide +kernel
theorem dX15_rest_5 : decode cX15_rest 5 = .ok (.aload_n 0, 1) := by decide +kernel
theorem dX15_rest_6 : decode cX15_rest 6 = .ok (.aload_n 0, 1) := by decide +kernel
theorem dX15_rest_7 : decode cX15_rest 7 = .ok (.getfield 443, 3) := by decide +kernel
theorem dX15_rest_10 : decode cX15_rest 10 = .ok (.ifCond .ne 7, 3) := by decide +kernel
theorem dX15_rest_13 : decode cX15_rest 13 = .ok (.iconst 1, 1) := by decide +kernel
theorem dX15_rest_14 : decode cX15_rest 14 = .ok (.goto 4, 3) := by decide +kernel
theorem dX15_rest_18 : decode cX15_rest 18 = .ok (.iconst 2, 1) := by decide +kernel
theorem dX15_rest_19 : decode cX15_rest 19 = .ok (.invokevirtual 424, 3) := by decide +kernel
theorem dX15_rest_22 : decode cX15_rest 22 = .ok (.ifCond .ne 25, 3) := by decide +kernel
theorem dX15_rest_47 : decode cX15_rest 47 = .ok (.iconst 0, 1) := by decide +kernel
theorem dX15_rest_48 : decode cX15_rest 48 = .ok (.ireturn, 1) := by decide +kernel
theorem dX15_leaves_0 : decode cX15_leaves 0 = .ok (.aload_n 0, 1) := by decide +kernel
theorem dX15_leaves_1 : decode cX15_leaves 1 = .ok (.iconst 0, 1) := by decide +kernel
theorem dX15_leaves_2 : decode cX15_leaves 2 = .ok (.putfield 296, 3) := by decide +kernel
theorem dX15_leaves_5 : decode cX15_leaves 5 = .ok (.aload_n 0, 1) := by decide +kernel
theorem dX15_leaves_6 : decode cX15_leaves 6 = .ok (.aload_n 0, 1) := by decide +kernel
theorem dX15_leaves_7 : decode cX15_leaves 7 = .ok (.getfield 443, 3) := by decide +kernel
theorem dX15_leaves_10 : decode cX15_leaves 10 = .ok (.ifCond .ne 7, 3) := by decide +kernel
theorem dX15_leaves_13 : decode cX15_leaves 13 = .ok (.iconst 1, 1) := by decide +kernel
theorem dX15_leaves_14 : decode cX15_leaves 14 = .ok (.goto 4, 3) := by decide +kernel
theorem dX15_leaves_18 : decode cX15_leaves 18 = .ok (.iconst 1, 1) := by decide +kernel
theorem dX15_leaves_19 : decode cX15_leaves 19 = .ok (.invokevirtual 424, 3) := by decide +kernel
theorem dX15_leaves_22 : decode cX15_leaves 22 = .ok (.ifCond .eq 5, 3) := by decide +kernel
theorem dX15_leaves_25 : decode cX15_leaves 25 = .ok (.iconst 0, 1) := by decide +kernel
theorem dX15_leaves_26 : decode cX15_leaves 26 = .ok (.ireturn, 1) := by decide +kernel
theorem dX15_fields_0 : decode cX15_fields 0 = .ok (.aload_n 0, 1) := by decide +kernel
theorem dX15_fields_1 : decode cX15_fields 1 = .ok (.iconst 0, 1) := by decide +kernel
theorem dX15_fields_2 : decode cX15_fields 2 = .ok (.putfield 296, 3) := by decide +kernel
theorem dX15_fields_5 : decode cX15_fields 5 = .ok (.aload_n 0, 1) := by decide +kernel
theorem dX15_fields_6 : decode cX15_fields 6 = .ok (.aload_n 0, 1) := by decide +kernel
theorem dX15_fields_7 : decode cX15_fields 7 = .ok (.getfield 443, 3) := by decide +kernel
theorem dX15_fields_10 : decode cX15_fields 10 = .ok (.ifCond .ne 7, 3) := by decide +kernel
theorem dX15_fields_13 : decode cX15_fields 13 = .ok (.iconst 1, 1) := by decide +kernel
theorem dX15_fields_14 : decode cX15_fields 14 = .ok (.goto 4, 3) := by decide +kernel
theorem dX15_fields_18 : decode cX15_fields 18 = .ok (.iconst 2, 1) := by decide +kernel
theorem dX15_fields_19 : decode cX15_fields 19 = .ok (.invokevirtual 424, 3) := by decide +kernel
theorem dX15_fields_22 : decode cX15_fields 22 = .ok (.ifCond .ne 24, 3) := by decide +kernel
theorem dX15_fields_46 : decode cX15_fields 46 = .ok (.iconst 0, 1) := by decide +kernel
theorem dX15_fields_47 : decode cX15_fields 47 = .ok (.ireturn, 1) := by decide +kernel
theorem dX15_number_0 : decode cX15_number 0 = .ok (.aload_n 0, 1) := by decide +kernel
theorem dX15_number_1 : decode cX15_number 1 = .ok (.iconst 0, 1) := by decide +kernel
theorem dX15_number_2 : decode cX15_number 2 = .ok (.putfield 296, 3) := by decide +kernel
theorem dX15_number_5 : decode cX15_number 5 = .ok (.aload_n 0, 1) := by decide +kernel
theorem dX15_number_6 : decode cX15_number 6 = .ok (.aload_n 0, 1) := by decide +kernel
theorem dX15_number_7 : decode cX15_number 7 = .ok (.getfield 443, 3) := by decide +kernel
theorem dX15_number_10 : decode cX15_number 10 = .ok (.ifCond .ne 7, 3) := by decide +kernel
theorem dX15_number_13 : decode cX15_number 13 = .ok (.iconst 1, 1) := by decide +kernel
theorem dX15_number_14 : decode cX15_number 14 = .ok (.goto 4, 3) := by decide +kernel
theorem dX15_number_18 : decode cX15_number 18 = .ok (.iconst 3, 1) := by decide +kernel
theorem dX15_number_19 : decode cX15_number 19 = .ok (.invokevirtual 424, 3) := by decide +kernel
theorem dX15_number_22 : decode cX15_number 22 = .ok (.ifCond .ne 24, 3) := by decide +kernel
theorem dX15_number_46 : decode cX15_number 46 = .ok (.lconst 0, 1) := by decide +kernel
theorem dX15_number_47 : decode cX15_number 47 = .ok (.lreturn, 1) := by decide +kernel
theorem dX15_within_0 : decode cX15_within 0 = .ok (.aload_n 0, 1) := by decide +kernel
theorem dX15_within_1 : decode cX15_within 1 = .ok (.iconst 0, 1) := by decide +kernel
theorem dX15_within_2 : decode cX15_within 2 = .ok (.putfield 296, 3) := by decide +kernel
theorem dX15_within_5 : decode cX15_within 5 = .ok (.aload_n 0, 1) := by decide +kernel
theorem dX15_within_6 : decode cX15_within 6 = .ok (.aload_n 0, 1) := by decide +kernel
theorem dX15_within_7 : decode cX15_within 7 = .ok (.getfield 443, 3) := by decide +kernel
theorem dX15_within_10 : decode cX15_within 10 = .ok (.ifCond .ne 7, 3) := by decide +kernel
theorem dX15_within_13 : decode cX15_within 13 = .ok (.iconst 1, 1) := by decide +kernel
theorem dX15_within_14 : decode cX15_within 14 = .ok (.goto 4, 3) := by decide +kernel
theorem dX15_within_18 : decode cX15_within 18 = .ok (.iconst 2, 1) := by decide +kernel
theorem dX15_within_19 : decode cX15_within 19 = .ok (.invokevirtual 424, 3) := by decide +kernel
theorem dX15_within_22 : decode cX15_within 22 = .ok (.ifCond .ne 24, 3) := by decide +kernel
theorem dX15_within_46 : decode cX15_within 46 = .ok (.iconst 0, 1) := by decide +kernel
theorem dX15_within_47 : decode cX15_within 47 = .ok (.ireturn, 1) := by decide +kernel
theorem dX15_closed_0 : decode cX15_closed 0 = .ok (.aload_n 0, 1) := by decide +kernel
theorem dX15_closed_1 : decode cX15_closed 1 = .ok (.iconst 0, 1) := by decide +kernel
theorem dX15_closed_2 : decode cX15_closed 2 = .ok (.putfield 296, 3) := by decide +kernel
theorem dX15_closed_5 : decode cX15_closed 5 = .ok (.aload_n 0, 1) := by decide +kernel
theorem dX15_closed_6 : decode cX15_closed 6 = .ok (.aload_n 0, 1) := by decide +kernel
theorem dX15_closed_7 : decode cX15_closed 7 = .ok (.getfield 443, 3) := by decide +kernel
theorem dX15_closed_10 : decode cX15_closed 10 = .ok (.ifCond .ne 7, 3) := by decide +kernel
theorem dX15_closed_13 : decode cX15_closed 13 = .ok (.iconst 1, 1) := by decide +kernel
theorem dX15_closed_14 : decode cX15_closed 14 = .ok (.goto 4, 3) := by decide +kernel
theorem dX15_closed_18 : decode cX15_closed 18 = .ok (.iconst 2, 1) := by decide +kernel
theorem dX15_closed_19 : decode cX15_closed 19 = .ok (.invokevirtual 424, 3) := by decide +kernel
theorem dX15_closed_22 : decode cX15_closed 22 = .ok (.ifCond .ne 24, 3) := by decide +kernel
theorem dX15_closed_46 : decode cX15_closed 46 = .ok (.iconst 0, 1) := by decide +kernel
theorem dX15_closed_47 : decode cX15_closed 47 = .ok (.ireturn, 1) := by decide +kernel
theorem dX15_constant_0 : decode cX15_constant 0 = .ok (.aload_n 0, 1) := by decide +kernel
theorem dX15_constant_1 : decode cX15_constant 1 = .ok (.iconst 0, 1) := by decide +kernel
theorem dX15_constant_2 : decode cX15_constant 2 = .ok (.putfield 296, 3) := by decide +kernel
theorem dX15_constant_5 : decode cX15_constant 5 = .ok (.aload_n 0, 1) := by decide +kernel
theorem dX15_constant_6 : decode cX15_constant 6 = .ok (.aload_n 0, 1) := by decide +kernel
theorem dX15_constant_7 : decode cX15_constant 7 = .ok (.getfield 443, 3) := by decide +kernel
theorem dX15_constant_10 : decode cX15_constant 10 = .ok (.ifCond .ne 7, 3) := by decide +kernel
theorem dX15_constant_13 : decode cX15_constant 13 = .ok (.iconst 1, 1) := by decide +kernel
theorem dX15_constant_14 : decode cX15_constant 14 = .ok (.goto 4, 3) := by decide +kernel
theorem dX15_constant_18 : decode cX15_constant 18 = .ok (.iconst 3, 1) := by decide +kernel
theorem dX15_constant_19 : decode cX15_constant 19 = .ok (.invokevirtual 424, 3) := by decide +kernel
theorem dX15_constant_22 : decode cX15_constant 22 = .ok (.ifCond .ne 24, 3) := by decide +kernel
theorem dX15_constant_46 : decode cX15_constant 46 = .ok (.lconst 0, 1) := by decide +kernel
theorem dX15_constant_47 : decode cX15_constant 47 = .ok (.lreturn, 1) := by decide +kernel
theorem dX15_kind_0 : decode cX15_kind 0 = .ok (.aload_n 0, 1) := by decide +kernel
theorem dX15_kind_1 : decode cX15_kind 1 = .ok (.iconst 0, 1) := by decide +kernel
theorem dX15_kind_2 : decode cX15_kind 2 = .ok (.putfield 296, 3) := by decide +kernel
theorem dX15_kind_5 : decode cX15_kind 5 = .ok (.aload_n 0, 1) := by decide +kernel
theorem dX15_kind_6 : decode cX15_kind 6 = .ok (.aload_n 0, 1) := by decide +kernel
theorem dX15_kind_7 : decode cX15_kind 7 = .ok (.getfield 443, 3) := by decide +kernel
theorem dX15_kind_10 : decode cX15_kind 10 = .ok (.ifCond .ne 7, 3) := by decide +kernel
theorem dX15_kind_13 : decode cX15_kind 13 = .ok (.iconst 1, 1) := by decide +kernel
theorem dX15_kind_14 : decode cX15_kind 14 = .ok (.goto 4, 3) := by decide +kernel
theorem dX15_kind_18 : decode cX15_kind 18 = .ok (.iconst 2, 1) := by decide +kernel
theorem dX15_kind_19 : decode cX15_kind 19 = .ok (.invokevirtual 424, 3) := by decide +kernel
theorem dX15_kind_22 : decode cX15_kind 22 = .ok (.ifCond .ne 33, 3) := by decide +kernel
theorem dX15_kind_55 : decode cX15_kind 55 = .ok (.iconst 0, 1) := by decide +kernel
theorem dX15_kind_56 : decode cX15_kind 56 = .ok (.ireturn, 1) := by decide +kernel
theorem dX15_steps_0 : decode cX15_steps 0 = .ok (.aload_n 0, 1) := by decide +kernel
theorem dX15_steps_1 : decode cX15_steps 1 = .ok (.iconst 0, 1) := by decide +kernel
theorem dX15_steps_2 : decode cX15_steps 2 = .ok (.putfield 296, 3) := by decide +kernel
theorem dX15_steps_5 : decode cX15_steps 5 = .ok (.aload_n 0, 1) := by decide +kernel
theorem dX15_steps_6 : decode cX15_steps 6 = .ok (.aload_n 0, 1) := by decide +kernel
theorem dX15_steps_7 : decode cX15_steps 7 = .ok (.getfield 443, 3) := by decide +kernel
theorem dX15_steps_10 : decode cX15_steps 10 = .ok (.ifCond .ne 7, 3) := by decide +kernel
theorem dX15_steps_13 : decode cX15_steps 13 = .ok (.iconst 1, 1) := by decide +kernel
theorem dX15_steps_14 : decode cX15_steps 14 = .ok (.goto 4, 3) := by decide +kernel
theorem dX15_steps_18 : decode cX15_steps 18 = .ok (.iconst 3, 1) := by decide +kernel
theorem dX15_steps_19 : decode cX15_steps 19 = .ok (.invokevirtual 424, 3) := by decide +kernel
theorem dX15_steps_22 : decode cX15_steps 22 = .ok (.ifCond .ne 24, 3) := by decide +kernel
theorem dX15_steps_46 : decode cX15_steps 46 = .ok (.iconst 0, 1) := by decide +kernel
theorem dX15_steps_47 : decode cX15_steps 47 = .ok (.ireturn, 1) := by decide +kernel
theorem dX15_bracket_0 : decode cX15_bracket 0 = .ok (.aload_n 0, 1) := by decide +kernel
theorem dX15_bracket_1 : decode cX15_bracket 1 = .ok (.iconst 0, 1) := by decide +kernel
theorem dX15_bracket_2 : decode cX15_bracket 2 = .ok (.putfield 296, 3) := by decide +kernel
theorem dX15_bracket_5 : decode cX15_bracket 5 = .ok (.aload_n 0, 1) := by decide +kernel
theorem dX15_bracket_6 : decode cX15_bracket 6 = .ok (.aload_n 0, 1) := by decide +kernel
theorem dX15_bracket_7 : decode cX15_bracket 7 = .ok (.getfield 443, 3) := by decide +kernel
theorem dX15_bracket_10 : decode cX15_bracket 10 = .ok (.ifCond .ne 7, 3) := by decide +kernel
theorem dX15_bracket_13 : decode cX15_bracket 13 = .ok (.iconst 1, 1) := by decide +kernel
theorem dX15_bracket_14 : decode cX15_bracket 14 = .ok (.goto 4, 3) := by decide +kernel
theorem dX15_bracket_18 : decode cX15_bracket 18 = .ok (.iconst 3, 1) := by decide +kernel
theorem dX15_bracket_19 : decode cX15_bracket 19 = .ok (.invokevirtual 424, 3) := by decide +kernel
theorem dX15_bracket_22 : decode cX15_bracket 22 = .ok (.ifCond .ne 24, 3) := by decide +kernel
theorem dX15_bracket_46 : decode cX15_bracket 46 = .ok (.iconst 0, 1) := by decide +kernel
theorem dX15_bracket_47 : decode cX15_bracket 47 = .ok (.ireturn, 1) := by decide +kernel
theorem dX15_stretches_0 : decode cX15_stretches 0 = .ok (.aload_n 0, 1) := by decide +kernel
theorem dX15_stretches_1 : decode cX15_stretches 1 = .ok (.iconst 0, 1) := by decide +kernel
theorem dX15_stretches_2 : decode cX15_stretches 2 = .ok (.putfield 296, 3) := by decide +kernel
theorem dX15_stretches_5 : decode cX15_stretches 5 = .ok (.aload_n 0, 1) := by decide +kernel
theorem dX15_stretches_6 : decode cX15_stretches 6 = .ok (.aload_n 0, 1) := by decide +kernel
theorem dX15_stretches_7 : decode cX15_stretches 7 = .ok (.getfield 443, 3) := by decide +kernel
theorem dX15_stretches_10 : decode cX15_stretches 10 = .ok (.ifCond .ne 7, 3) := by decide +kernel
theorem dX15_stretches_13 : decode cX15_stretches 13 = .ok (.iconst 1, 1) := by decide +kernel
theorem dX15_stretches_14 : decode cX15_stretches 14 = .ok (.goto 4, 3) := by decide +kernel
theorem dX15_stretches_18 : decode cX15_stretches 18 = .ok (.iconst 1, 1) := by decide +kernel
theorem dX15_stretches_19 : decode cX15_stretches 19 = .ok (.invokevirtual 424, 3) := by decide +kernel
theorem dX15_stretches_22 : decode cX15_stretches 22 = .ok (.ifCond .eq 5, 3) := by decide +kernel
theorem dX15_stretches_25 : decode cX15_stretches 25 = .ok (.iconst 0, 1) := by decide +kernel
theorem dX15_stretches_26 : decode cX15_stretches 26 = .ok (.ireturn, 1) := by decide +kernel
theorem dX15_stretch_0 : decode cX15_stretch 0 = .ok (.aload_n 0, 1) := by decide +kernel
theorem dX15_stretch_1 : decode cX15_stretch 1 = .ok (.iconst 0, 1) := by decide +kernel
theorem dX15_stretch_2 : decode cX15_stretch 2 = .ok (.putfield 296, 3) := by decide +kernel
theorem dX15_stretch_5 : decode cX15_stretch 5 = .ok (.aload_n 0, 1) := by decide +kernel
theorem dX15_stretch_6 : decode cX15_stretch 6 = .ok (.aload_n 0, 1) := by decide +kernel
theorem dX15_stretch_7 : decode cX15_stretch 7 = .ok (.getfield 443, 3) := by decide +kernel
theorem dX15_stretch_10 : decode cX15_stretch 10 = .ok (.ifCond .ne 7, 3) := by decide +kernel
theorem dX15_stretch_13 : decode cX15_stretch 13 = .ok (.iconst 1, 1) := by decide +kernel
theorem dX15_stretch_14 : decode cX15_stretch 14 = .ok (.goto 4, 3) := by decide +kernel
theorem dX15_stretch_18 : decode cX15_stretch 18 = .ok (.iconst 3, 1) := by decide +kernel
theorem dX15_stretch_19 : decode cX15_stretch 19 = .ok (.invokevirtual 424, 3) := by decide +kernel
theorem dX15_stretch_22 : decode cX15_stretch 22 = .ok (.ifCond .eq 5, 3) := by decide +kernel
theorem dX15_stretch_25 : decode cX15_stretch 25 = .ok (.iconst 0, 1) := by decide +kernel
theorem dX15_stretch_26 : decode cX15_stretch 26 = .ok (.ireturn, 1) := by decide +kernel
theorem dX15_keeps_0 : decode cX15_keeps 0 = .ok (.aload_n 0, 1) := by decide +kernel
theorem dX15_keeps_1 : decode cX15_keeps 1 = .ok (.iconst 0, 1) := by decide +kernel
theorem dX15_keeps_2 : decode cX15_keeps 2 = .ok (.putfield 296, 3) := by decide +kernel
theorem dX15_keeps_5 : decode cX15_keeps 5 = .ok (.aload_n 0, 1) := by decide +kernel
theorem dX15_keeps_6 : decode cX15_keeps 6 = .ok (.aload_n 0, 1) := by decide +kernel
theorem dX15_keeps_7 : decode cX15_keeps 7 = .ok (.getfield 443, 3) := by decide +kernel
theorem dX15_keeps_10 : decode cX15_keeps 10 = .ok (.ifCond .ne 7, 3) := by decide +kernel
theorem dX15_keeps_13 : decode cX15_keeps 13 = .ok (.iconst 1, 1) := by decide +kernel
theorem dX15_keeps_14 : decode cX15_keeps 14 = .ok (.goto 4, 3) := by decide +kernel
theorem dX15_keeps_18 : decode cX15_keeps 18 = .ok (.iconst 3, 1) := by decide +kernel
theorem dX15_keeps_19 : decode cX15_keeps 19 = .ok (.invokevirtual 424, 3) := by decide +kernel
theorem dX15_keeps_22 : decode cX15_keeps 22 = .ok (.ifCond .eq 5, 3) := by decide +kernel
theorem dX15_keeps_25 : decode cX15_keeps 25 = .ok (.iconst 0, 1) := by decide +kernel
theorem dX15_keeps_26 : decode cX15_keeps 26 = .ok (.ireturn, 1) := by decide +kernel
theorem dX15_sums_0 : decode cX15_sums 0 = .ok (.aload_n 0, 1) := by decide +kernel
theorem dX15_sums_1 : decode cX15_sums 1 = .ok (.iconst 0, 1) := by decide +kernel
theorem dX15_sums_2 : decode cX15_sums 2 = .ok (.putfield 296, 3) := by decide +kernel
theorem dX15_sums_5 : decode cX15_sums 5 = .ok (.aload_n 0, 1) := by decide +kernel
theorem dX15_sums_6 : decode cX15_sums 6 = .ok (.aload_n 0, 1) := by decide +kernel
theorem dX15_sums_7 : decode cX15_sums 7 = .ok (.getfield 443, 3) := by decide +kernel
theorem dX15_sums_10 : decode cX15_sums 10 = .ok (.ifCond .ne 7, 3) := by decide +kernel
theorem dX15_sums_13 : decode cX15_sums 13 = .ok (.iconst 1, 1) := by decide +kernel
theorem dX15_sums_14 : decode cX15_sums 14 = .ok (.goto 4, 3) := by decide +kernel
theorem dX15_sums_18 : decode cX15_sums 18 = .ok (.iconst 2, 1) := by decide +kernel
theorem dX15_sums_19 : decode cX15_sums 19 = .ok (.invokevirtual 424, 3) := by decide +kernel
theorem dX15_sums_22 : decode cX15_sums 22 = .ok (.ifCond .ne 33, 3) := by decide +kernel
theorem dX15_sums_55 : decode cX15_sums 55 = .ok (.iconst 0, 1) := by decide +kernel
theorem dX15_sums_56 : decode cX15_sums 56 = .ok (.ireturn, 1) := by decide +kernel
theorem dX15_sum_0 : decode cX15_sum 0 = .ok (.aload_n 0, 1) := by decide +kernel
theorem dX15_sum_1 : decode cX15_sum 1 = .ok (.iconst 0, 1) := by decide +kernel
theorem dX15_sum_2 : decode cX15_sum 2 = .ok (.putfield 296, 3) := by decide +kernel
theorem dX15_sum_5 : decode cX15_sum 5 = .ok (.aload_n 0, 1) := by decide +kernel
theorem dX15_sum_6 : decode cX15_sum 6 = .ok (.aload_n 0, 1) := by decide +kernel
theorem dX15_sum_7 : decode cX15_sum 7 = .ok (.getfield 443, 3) := by decide +kernel
theorem dX15_sum_10 : decode cX15_sum 10 = .ok (.ifCond .ne 7, 3) := by decide +kernel
theorem dX15_sum_13 : decode cX15_sum 13 = .ok (.iconst 1, 1) := by decide +kernel
theorem dX15_sum_14 : decode cX15_sum 14 = .ok (.goto 4, 3) := by decide +kernel
theorem dX15_sum_18 : decode cX15_sum 18 = .ok (.iconst 3, 1) := by decide +kernel
theorem dX15_sum_19 : decode cX15_sum 19 = .ok (.invokevirtual 424, 3) := by decide +kernel
theorem dX15_sum_22 : decode cX15_sum 22 = .ok (.ifCond .ne 33, 3) := by decide +kernel
theorem dX15_sum_55 : decode cX15_sum 55 = .ok (.lconst 0, 1) := by decide +kernel
theorem dX15_sum_56 : decode cX15_sum 56 = .ok (.lreturn, 1) := by decide +kernel
theorem dX15_solves_0 : decode cX15_solves 0 = .ok (.aload_n 0, 1) := by decide +kernel
theorem dX15_solves_1 : decode cX15_solves 1 = .ok (.iconst 0, 1) := by decide +kernel
theorem dX15_solves_2 : decode cX15_solves 2 = .ok (.putfield 296, 3) := by decide +kernel
theorem dX15_solves_5 : decode cX15_solves 5 = .ok (.aload_n 0, 1) := by decide +kernel
theorem dX15_solves_6 : decode cX15_solves 6 = .ok (.aload_n 0, 1) := by decide +kernel
theorem dX15_solves_7 : decode cX15_solves 7 = .ok (.getfield 443, 3) := by decide +kernel
theorem dX15_solves_10 : decode cX15_solves 10 = .ok (.ifCond .ne 7, 3) := by decide +kernel
theorem dX15_solves_13 : decode cX15_solves 13 = .ok (.iconst 1, 1) := by decide +kernel
theorem dX15_solves_14 : decode cX15_solves 14 = .ok (.goto 4, 3) := by decide +kernel
theorem dX15_solves_18 : decode cX15_solves 18 = .ok (.iconst 1, 1) := by decide +kernel
theorem dX15_solves_19 : decode cX15_solves 19 = .ok (.invokevirtual 424, 3) := by decide +kernel
theorem dX15_solves_22 : decode cX15_solves 22 = .ok (.ifCond .eq 5, 3) := by decide +kernel
theorem dX15_solves_25 : decode cX15_solves 25 = .ok (.iconst 0, 1) := by decide +kernel
theorem dX15_solves_26 : decode cX15_solves 26 = .ok (.ireturn, 1) := by decide +kernel
theorem dX15_left_0 : decode cX15_left 0 = .ok (.aload_n 0, 1) := by decide +kernel
theorem dX15_left_1 : decode cX15_left 1 = .ok (.iconst 0, 1) := by decide +kernel
theorem dX15_left_2 : decode cX15_left 2 = .ok (.putfield 296, 3) := by decide +kernel
theorem dX15_left_5 : decode cX15_left 5 = .ok (.aload_n 0, 1) := by decide +kernel
theorem dX15_left_6 : decode cX15_left 6 = .ok (.aload_n 0, 1) := by decide +kernel
theorem dX15_left_7 : decode cX15_left 7 = .ok (.getfield 443, 3) := by decide +kernel
theorem dX15_left_10 : decode cX15_left 10 = .ok (.ifCond .ne 7, 3) := by decide +kernel
theorem dX15_left_13 : decode cX15_left 13 = .ok (.iconst 1, 1) := by decide +kernel
theorem dX15_left_14 : decode cX15_left 14 = .ok (.goto 4, 3) := by decide +kernel
theorem dX15_left_18 : decode cX15_left 18 = .ok (.iconst 2, 1) := by decide +kernel
theorem dX15_left_19 : decode cX15_left 19 = .ok (.invokevirtual 424, 3) := by decide +kernel
theorem dX15_left_22 : decode cX15_left 22 = .ok (.ifCond .ne 48, 3) := by decide +kernel
theorem dX15_left_70 : decode cX15_left 70 = .ok (.lconst 0, 1) := by decide +kernel
theorem dX15_left_71 : decode cX15_left 71 = .ok (.lreturn, 1) := by decide +kernel
theorem dX15_shifted_0 : decode cX15_shifted 0 = .ok (.aload_n 0, 1) := by decide +kernel
theorem dX15_shifted_1 : decode cX15_shifted 1 = .ok (.iconst 0, 1) := by decide +kernel
theorem dX15_shifted_2 : decode cX15_shifted 2 = .ok (.putfield 296, 3) := by decide +kernel
theorem dX15_shifted_5 : decode cX15_shifted 5 = .ok (.aload_n 0, 1) := by decide +kernel
theorem dX15_shifted_6 : decode cX15_shifted 6 = .ok (.aload_n 0, 1) := by decide +kernel
theorem dX15_shifted_7 : decode cX15_shifted 7 = .ok (.getfield 443, 3) := by decide +kernel
theorem dX15_shifted_10 : decode cX15_shifted 10 = .ok (.ifCond .ne 7, 3) := by decide +kernel
theorem dX15_shifted_13 : decode cX15_shifted 13 = .ok (.iconst 1, 1) := by decide +kernel
theorem dX15_shifted_14 : decode cX15_shifted 14 = .ok (.goto 4, 3) := by decide +kernel
theorem dX15_shifted_18 : decode cX15_shifted 18 = .ok (.iconst 2, 1) := by decide +kernel
theorem dX15_shifted_19 : decode cX15_shifted 19 = .ok (.invokevirtual 424, 3) := by decide +kernel
theorem dX15_shifted_22 : decode cX15_shifted 22 = .ok (.ifCond .ne 50, 3) := by decide +kernel
theorem dX15_shifted_72 : decode cX15_shifted 72 = .ok (.iconst 0, 1) := by decide +kernel
theorem dX15_shifted_73 : decode cX15_shifted 73 = .ok (.ireturn, 1) := by decide +kernel
theorem dX15_stretched_0 : decode cX15_stretched 0 = .ok (.aload_n 0, 1) := by decide +kernel
theorem dX15_stretched_1 : decode cX15_stretched 1 = .ok (.iconst 0, 1) := by decide +kernel
theorem dX15_stretched_2 : decode cX15_stretched 2 = .ok (.putfield 296, 3) := by decide +kernel
theorem dX15_stretched_5 : decode cX15_stretched 5 = .ok (.aload_n 0, 1) := by decide +kernel
theorem dX15_stretched_6 : decode cX15_stretched 6 = .ok (.aload_n 0, 1) := by decide +kernel
theorem dX15_stretched_7 : decode cX15_stretched 7 = .ok (.getfield 443, 3) := by decide +kernel
theorem dX15_stretched_10 : decode cX15_stretched 10 = .ok (.ifCond .ne 7, 3) := by decide +kernel
theorem dX15_stretched_13 : decode cX15_stretched 13 = .ok (.iconst 1, 1) := by decide +kernel
theorem dX15_stretched_14 : decode cX15_stretched 14 = .ok (.goto 4, 3) := by decide +kernel
theorem dX15_stretched_18 : decode cX15_stretched 18 = .ok (.iconst 3, 1) := by decide +kernel
theorem dX15_stretched_19 : decode cX15_stretched 19 = .ok (.invokevirtual 424, 3) := by decide +kernel
theorem dX15_stretched_22 : decode cX15_stretched 22 = .ok (.ifCond .eq 5, 3) := by decide +kernel
theorem dX15_stretched_25 : decode cX15_stretched 25 = .ok (.iconst 0, 1) := by decide +kernel
theorem dX15_stretched_26 : decode cX15_stretched 26 = .ok (.ireturn, 1) := by decide +kernel
theorem dX15_wave_0 : decode cX15_wave 0 = .ok (.aload_n 0, 1) := by decide +kernel
theorem dX15_wave_1 : decode cX15_wave 1 = .ok (.iconst 0, 1) := by decide +kernel
theorem dX15_wave_2 : decode cX15_wave 2 = .ok (.putfield 296, 3) := by decide +kernel
theorem dX15_wave_5 : decode cX15_wave 5 = .ok (.aload_n 0, 1) := by decide +kernel
theorem dX15_wave_6 : decode cX15_wave 6 = .ok (.aload_n 0, 1) := by decide +kernel
theorem dX15_wave_7 : decode cX15_wave 7 = .ok (.getfield 443, 3) := by decide +kernel
theorem dX15_wave_10 : decode cX15_wave 10 = .ok (.ifCond .ne 7, 3) := by decide +kernel
theorem dX15_wave_13 : decode cX15_wave 13 = .ok (.iconst 1, 1) := by decide +kernel
theorem dX15_wave_14 : decode cX15_wave 14 = .ok (.goto 4, 3) := by decide +kernel
theorem dX15_wave_18 : decode cX15_wave 18 = .ok (.iconst 2, 1) := by decide +kernel
theorem dX15_wave_19 : decode cX15_wave 19 = .ok (.invokevirtual 424, 3) := by decide +kernel
theorem dX15_wave_22 : decode cX15_wave 22 = .ok (.ifCond .eq 5, 3) := by decide +kernel
theorem dX15_wave_25 : decode cX15_wave 25 = .ok (.iconst 0, 1) := by decide +kernel
theorem dX15_wave_26 : decode cX15_wave 26 = .ok (.ireturn, 1) := by decide +kernel
theorem dX15_lines_0 : decode cX15_lines 0 = .ok (.aload_n 0, 1) := by decide +kernel
theorem dX15_lines_1 : decode cX15_lines 1 = .ok (.iconst 0, 1) := by decide +kernel
theorem dX15_lines_2 : decode cX15_lines 2 = .ok (.putfield 296, 3) := by decide +kernel
theorem dX15_lines_5 : decode cX15_lines 5 = .ok (.aload_n 0, 1) := by decide +kernel
theorem dX15_lines_6 : decode cX15_lines 6 = .ok (.aload_n 0, 1) := by decide +kernel
theorem dX15_lines_7 : decode cX15_lines 7 = .ok (.getfield 443, 3) := by decide +kernel
theorem dX15_lines_10 : decode cX15_lines 10 = .ok (.ifCond .ne 7, 3) := by decide +kernel
theorem dX15_lines_13 : decode cX15_lines 13 = .ok (.iconst 1, 1) := by decide +kernel
theorem dX15_lines_14 : decode cX15_lines 14 = .ok (.goto 4, 3) := by decide +kernel
theorem dX15_lines_18 : decode cX15_lines 18 = .ok (.iconst 2, 1) := by decide +kernel
theorem dX15_lines_19 : decode cX15_lines 19 = .ok (.invokevirtual 424, 3) := by decide +kernel
theorem dX15_lines_22 : decode cX15_lines 22 = .ok (.ifCond .ne 33, 3) := by decide +kernel
theorem dX15_lines_55 : decode cX15_lines 55 = .ok (.iconst 0, 1) := by decide +kernel
theorem dX15_lines_56 : decode cX15_lines 56 = .ok (.ireturn, 1) := by decide +kernel
theorem dX15_field_0 : decode cX15_field 0 = .ok (.aload_n 0, 1) := by decide +kernel
theorem dX15_field_1 : decode cX15_field 1 = .ok (.iconst 0, 1) := by decide +kernel
theorem dX15_field_2 : decode cX15_field 2 = .ok (.putfield 296, 3) := by decide +kernel
theorem dX15_field_5 : decode cX15_field 5 = .ok (.aload_n 0, 1) := by decide +kernel
theorem dX15_field_6 : decode cX15_field 6 = .ok (.aload_n 0, 1) := by decide +kernel
theorem dX15_field_7 : decode cX15_field 7 = .ok (.getfield 443, 3) := by decide +kernel
theorem dX15_field_10 : decode cX15_field 10 = .ok (.ifCond .ne 7, 3) := by decide +kernel
theorem dX15_field_13 : decode cX15_field 13 = .ok (.iconst 1, 1) := by decide +kernel
theorem dX15_field_14 : decode cX15_field 14 = .ok (.goto 4, 3) := by decide +kernel
theorem dX15_field_18 : decode cX15_field 18 = .ok (.iconst 2, 1) := by decide +kernel
theorem dX15_field_19 : decode cX15_field 19 = .ok (.invokevirtual 424, 3) := by decide +kernel
theorem dX15_field_22 : decode cX15_field 22 = .ok (.ifCond .ne 28, 3) := by decide +kernel
theorem dX15_field_50 : decode cX15_field 50 = .ok (.iconst 0, 1) := by decide +kernel
theorem dX15_field_51 : decode cX15_field 51 = .ok (.ireturn, 1) := by decide +kernel
theorem dX15_solution_0 : decode cX15_solution 0 = .ok (.aload_n 0, 1) := by decide +kernel
theorem dX15_solution_1 : decode cX15_solution 1 = .ok (.iconst 0, 1) := by decide +kernel
theorem dX15_solution_2 : decode cX15_solution 2 = .ok (.putfield 296, 3) := by decide +kernel
theorem dX15_solution_5 : decode cX15_solution 5 = .ok (.aload_n 0, 1) := by decide +kernel
theorem dX15_solution_6 : decode cX15_solution 6 = .ok (.aload_n 0, 1) := by decide +kernel
theorem dX15_solution_7 : decode cX15_solution 7 = .ok (.getfield 443, 3) := by decide +kernel
theorem dX15_solution_10 : decode cX15_solution 10 = .ok (.ifCond .ne 7, 3) := by decide +kernel
theorem dX15_solution_13 : decode cX15_solution 13 = .ok (.iconst 1, 1) := by decide +kernel
theorem dX15_solution_14 : decode cX15_solution 14 = .ok (.goto 4, 3) := by decide +kernel
theorem dX15_solution_18 : decode cX15_solution 18 = .ok (.iconst 2, 1) := by decide +kernel
theorem dX15_solution_19 : decode cX15_solution 19 = .ok (.invokevirtual 424, 3) := by decide +kernel
theorem dX15_solution_22 : decode cX15_solution 22 = .ok (.ifCond .ne 28, 3) := by decide +kernel
theorem dX15_solution_50 : decode cX15_solution 50 = .ok (.iconst 0, 1) := by decide +kernel
theorem dX15_solution_51 : decode cX15_solution 51 = .ok (.ireturn, 1) := by decide +kernel
theorem dX15_fault_0 : decode cX15_fault 0 = .ok (.aload_n 0, 1) := by decide +kernel
theorem dX15_fault_1 : decode cX15_fault 1 = .ok (.iconst 0, 1) := by decide +kernel
theorem dX15_fault_2 : decode cX15_fault 2 = .ok (.putfield 296, 3) := by decide +kernel
theorem dX15_fault_5 : decode cX15_fault 5 = .ok (.aload_n 0, 1) := by decide +kernel
theorem dX15_fault_6 : decode cX15_fault 6 = .ok (.getfield 121, 3) := by decide +kernel
theorem dX15_fault_9 : decode cX15_fault 9 = .ok (.ireturn, 1) := by decide +kernel
theorem dX15_restore_0 : decode cX15_restore 0 = .ok (.aload_n 0, 1) := by decide +kernel
theorem dX15_restore_1 : decode cX15_restore 1 = .ok (.iconst 0, 1) := by decide +kernel
theorem dX15_restore_2 : decode cX15_restore 2 = .ok (.putfield 296, 3) := by decide +kernel
theorem dX15_restore_5 : decode cX15_restore 5 = .ok (.aload_n 0, 1) := by decide +kernel
theorem dX15_restore_6 : decode cX15_restore 6 = .ok (.getfield 450, 3) := by decide +kernel
theorem dX15_restore_9 : decode cX15_restore 9 = .ok (.ifCond .ne 5, 3) := by decide +kernel
theorem dX15_restore_12 : decode cX15_restore 12 = .ok (.iconst (-1), 1) := by decide +kernel
theorem dX15_restore_13 : decode cX15_restore 13 = .ok (.ireturn, 1) := by decide +kernel
theorem dX15_count_0 : decode cX15_count 0 = .ok (.aload_n 0, 1) := by decide +kernel
theorem dX15_count_1 : decode cX15_count 1 = .ok (.iconst 0, 1) := by decide +kernel
theorem dX15_count_2 : decode cX15_count 2 = .ok (.putfield 296, 3) := by decide +kernel
theorem dX15_count_5 : decode cX15_count 5 = .ok (.iload_n 1, 1) := by decide +kernel
theorem dX15_count_6 : decode cX15_count 6 = .ok (.ifCond .ne 10, 3) := by decide +kernel
theorem dX15_count_16 : decode cX15_count 16 = .ok (.iload_n 1, 1) := by decide +kernel
theorem dX15_count_17 : decode cX15_count 17 = .ok (.iconst 1, 1) := by decide +kernel
theorem dX15_count_18 : decode cX15_count 18 = .ok (.if_icmp .ne 10, 3) := by decide +kernel
theorem dX15_count_28 : decode cX15_count 28 = .ok (.iconst (-1), 1) := by decide +kernel
theorem dX15_count_29 : decode cX15_count 29 = .ok (.ireturn, 1) := by decide +kernel
theorem dX15_count_21 : decode cX15_count 21 = .ok (.aload_n 0, 1) := by decide +kernel
theorem dX15_count_22 : decode cX15_count 22 = .ok (.getfield 299, 3) := by decide +kernel
theorem dX15_count_25 : decode cX15_count 25 = .ok (.goto 4, 3) := by decide +kernel
theorem dX15_count_9 : decode cX15_count 9 = .ok (.aload_n 0, 1) := by decide +kernel
theorem dX15_count_10 : decode cX15_count 10 = .ok (.getfield 450, 3) := by decide +kernel
theorem dX15_count_13 : decode cX15_count 13 = .ok (.goto 16, 3) := by decide +kernel
theorem dX13_terms_0 : decode cX13_terms 0 = .ok (.iconst 0, 1) := by decide +kernel
theorem dX13_terms_1 : decode cX13_terms 1 = .ok (.istore_n 1, 1) := by decide +kernel
theorem dX13_terms_2 : decode cX13_terms 2 = .ok (.iconst 0, 1) := by decide +kernel
theorem dX13_terms_3 : decode cX13_terms 3 = .ok (.istore_n 2, 1) := by decide +kernel
theorem dX13_terms_4 : decode cX13_terms 4 = .ok (.iload_n 2, 1) := by decide +kernel
theorem dX13_terms_5 : decode cX13_terms 5 = .ok (.aload_n 0, 1) := by decide +kernel
theorem dX13_terms_6 : decode cX13_terms 6 = .ok (.getfield 25, 3) := by decide +kernel
theorem dX13_terms_9 : decode cX13_terms 9 = .ok (.if_icmp .ge 28, 3) := by decide +kernel
theorem dX13_terms_37 : decode cX13_terms 37 = .ok (.iload_n 1, 1) := by decide +kernel
theorem dX13_terms_38 : decode cX13_terms 38 = .ok (.ireturn, 1) := by decide +kernel
theorem dX15_highest_0 : decode cX15_highest 0 = .ok (.iconst 0, 1) := by decide +kernel
theorem dX15_highest_1 : decode cX15_highest 1 = .ok (.istore_n 1, 1) := by decide +kernel
theorem dX15_highest_2 : decode cX15_highest 2 = .ok (.iconst 0, 1) := by decide +kernel
theorem dX15_highest_3 : decode cX15_highest 3 = .ok (.istore_n 2, 1) := by decide +kernel
theorem dX15_highest_4 : decode cX15_highest 4 = .ok (.iload_n 2, 1) := by decide +kernel
theorem dX15_highest_5 : decode cX15_highest 5 = .ok (.aload_n 0, 1) := by decide +kernel
theorem dX15_highest_6 : decode cX15_highest 6 = .ok (.getfield 130, 3) := by decide +kernel
theorem dX15_highest_9 : decode cX15_highest 9 = .ok (.getfield 347, 3) := by decide +kernel
theorem dX15_highest_12 : decode cX15_highest 12 = .ok (.if_icmp .ge 64, 3) := by decide +kernel
theorem dX15_highest_76 : decode cX15_highest 76 = .ok (.iload_n 1, 1) := by decide +kernel
theorem dX15_highest_77 : decode cX15_highest 77 = .ok (.ireturn, 1) := by decide +kernel
theorem dX15_told_0 : decode cX15_told 0 = .ok (.aload_n 0, 1) := by decide +kernel
theorem dX15_told_1 : decode cX15_told 1 = .ok (.iconst 0, 1) := by decide +kernel
theorem dX15_told_2 : decode cX15_told 2 = .ok (.putfield 296, 3) := by decide +kernel
theorem dX15_told_5 : decode cX15_told 5 = .ok (.aload_n 0, 1) := by decide +kernel
theorem dX15_told_6 : decode cX15_told 6 = .ok (.iload_n 1, 1) := by decide +kernel
theorem dX15_told_7 : decode cX15_told 7 = .ok (.iconst 0, 1) := by decide +kernel
theorem dX15_told_8 : decode cX15_told 8 = .ok (.iconst 2, 1) := by decide +kernel
theorem dX15_told_9 : decode cX15_told 9 = .ok (.invokestatic 420, 3) := by decide +kernel
theorem dX15_told_12 : decode cX15_told 12 = .ok (.ifCond .ne 7, 3) := by decide +kernel
theorem dX15_told_19 : decode cX15_told 19 = .ok (.iconst 0, 1) := by decide +kernel
theorem dX15_told_20 : decode cX15_told 20 = .ok (.iconst 1, 1) := by decide +kernel
theorem dX15_told_21 : decode cX15_told 21 = .ok (.invokevirtual 424, 3) := by decide +kernel
theorem dX15_told_24 : decode cX15_told 24 = .ok (.ifCond .eq 5, 3) := by decide +kernel
theorem dX15_told_29 : decode cX15_told 29 = .ok (.iload_n 1, 1) := by decide +kernel
theorem dX15_told_30 : decode cX15_told 30 = .ok (.ifCond .ne 10, 3) := by decide +kernel
theorem dX15_told_40 : decode cX15_told 40 = .ok (.iload_n 1, 1) := by decide +kernel
theorem dX15_told_41 : decode cX15_told 41 = .ok (.iconst 1, 1) := by decide +kernel
theorem dX15_told_42 : decode cX15_told 42 = .ok (.if_icmp .ne 13, 3) := by decide +kernel
theorem dX15_told_55 : decode cX15_told 55 = .ok (.aload_n 0, 1) := by decide +kernel
theorem dX15_told_56 : decode cX15_told 56 = .ok (.invokevirtual 456, 3) := by decide +kernel
theorem dX15_told_59 : decode cX15_told 59 = .ok (.ireturn, 1) := by decide +kernel
theorem dX15_told_45 : decode cX15_told 45 = .ok (.aload_n 0, 1) := by decide +kernel
theorem dX15_told_46 : decode cX15_told 46 = .ok (.getfield 130, 3) := by decide +kernel
theorem dX15_told_49 : decode cX15_told 49 = .ok (.invokevirtual 344, 3) := by decide +kernel
theorem dX15_told_52 : decode cX15_told 52 = .ok (.goto 7, 3) := by decide +kernel
theorem dX15_told_33 : decode cX15_told 33 = .ok (.aload_n 0, 1) := by decide +kernel
theorem dX15_told_34 : decode cX15_told 34 = .ok (.getfield 443, 3) := by decide +kernel
theorem dX15_told_37 : decode cX15_told 37 = .ok (.goto 22, 3) := by decide +kernel
theorem dX15_told_15 : decode cX15_told 15 = .ok (.iconst 1, 1) := by decide +kernel
theorem dX15_told_16 : decode cX15_told 16 = .ok (.goto 4, 3) := by decide +kernel
theorem dX15_told_27 : decode cX15_told 27 = .ok (.iconst 0, 1) := by decide +kernel
theorem dX15_told_28 : decode cX15_told 28 = .ok (.ireturn, 1) := by decide +kernel
theorem dX15_one_0 : decode cX15_one 0 = .ok (.lconst 1, 1) := by decide +kernel
theorem dX15_one_1 : decode cX15_one 1 = .ok (.bipush 6, 2) := by decide +kernel
theorem dX15_one_3 : decode cX15_one 3 = .ok (.iload_n 0, 1) := by decide +kernel
theorem dX15_one_4 : decode cX15_one 4 = .ok (.imul, 1) := by decide +kernel
theorem dX15_one_5 : decode cX15_one 5 = .ok (.lshl, 1) := by decide +kernel
theorem dX15_one_6 : decode cX15_one 6 = .ok (.lreturn, 1) := by decide +kernel
theorem dX15_keyOf_0 : decode cX15_keyOf 0 = .ok (.lconst 0, 1) := by decide +kernel
theorem dX15_keyOf_1 : decode cX15_keyOf 1 = .ok (.lstore_n 3, 1) := by decide +kernel
theorem dX15_keyOf_2 : decode cX15_keyOf 2 = .ok (.iload_n 0, 1) := by decide +kernel
theorem dX15_keyOf_3 : decode cX15_keyOf 3 = .ok (.istore 5, 2) := by decide +kernel
theorem dX15_keyOf_5 : decode cX15_keyOf 5 = .ok (.iload_n 1, 1) := by decide +kernel
theorem dX15_keyOf_6 : decode cX15_keyOf 6 = .ok (.iconst 1, 1) := by decide +kernel
theorem dX15_keyOf_7 : decode cX15_keyOf 7 = .ok (.isub, 1) := by decide +kernel
theorem dX15_keyOf_8 : decode cX15_keyOf 8 = .ok (.istore 6, 2) := by decide +kernel
theorem dX15_keyOf_10 : decode cX15_keyOf 10 = .ok (.iload 6, 2) := by decide +kernel
theorem dX15_keyOf_12 : decode cX15_keyOf 12 = .ok (.ifCond .lt 44, 3) := by decide +kernel
theorem dX15_keyOf_15 : decode cX15_keyOf 15 = .ok (.iload 5, 2) := by decide +kernel
theorem dX15_keyOf_17 : decode cX15_keyOf 17 = .ok (.bipush 10, 2) := by decide +kernel
theorem dX15_keyOf_19 : decode cX15_keyOf 19 = .ok (.irem, 1) := by decide +kernel
theorem dX15_keyOf_20 : decode cX15_keyOf 20 = .ok (.iload_n 2, 1) := by decide +kernel
theorem dX15_keyOf_21 : decode cX15_keyOf 21 = .ok (.if_icmp .le 7, 3) := by decide +kernel
theorem dX15_keyOf_28 : decode cX15_keyOf 28 = .ok (.lload_n 3, 1) := by decide +kernel
theorem dX15_keyOf_29 : decode cX15_keyOf 29 = .ok (.iload 5, 2) := by decide +kernel
theorem dX15_keyOf_31 : decode cX15_keyOf 31 = .ok (.bipush 10, 2) := by decide +kernel
theorem dX15_keyOf_33 : decode cX15_keyOf 33 = .ok (.irem, 1) := by decide +kernel
theorem dX15_keyOf_34 : decode cX15_keyOf 34 = .ok (.i2l, 1) := by decide +kernel
theorem dX15_keyOf_35 : decode cX15_keyOf 35 = .ok (.iload 6, 2) := by decide +kernel
theorem dX15_keyOf_37 : decode cX15_keyOf 37 = .ok (.invokestatic 416, 3) := by decide +kernel
theorem dX15_keyOf_40 : decode cX15_keyOf 40 = .ok (.lmul, 1) := by decide +kernel
theorem dX15_keyOf_41 : decode cX15_keyOf 41 = .ok (.ladd, 1) := by decide +kernel
theorem dX15_keyOf_42 : decode cX15_keyOf 42 = .ok (.lstore_n 3, 1) := by decide +kernel
theorem dX15_keyOf_43 : decode cX15_keyOf 43 = .ok (.iload 5, 2) := by decide +kernel
theorem dX15_keyOf_45 : decode cX15_keyOf 45 = .ok (.bipush 10, 2) := by decide +kernel
theorem dX15_keyOf_47 : decode cX15_keyOf 47 = .ok (.idiv, 1) := by decide +kernel
theorem dX15_keyOf_48 : decode cX15_keyOf 48 = .ok (.istore 5, 2) := by decide +kernel
theorem dX15_keyOf_50 : decode cX15_keyOf 50 = .ok (.iinc 6 (-1), 3) := by decide +kernel
theorem dX15_keyOf_53 : decode cX15_keyOf 53 = .ok (.goto (-43), 3) := by decide +kernel
theorem dX15_keyOf_56 : decode cX15_keyOf 56 = .ok (.iload_n 0, 1) := by decide +kernel
theorem dX15_keyOf_57 : decode cX15_keyOf 57 = .ok (.ifCond .lt 8, 3) := by decide +kernel
theorem dX15_keyOf_65 : decode cX15_keyOf 65 = .ok (.ldc2_w 389, 3) := by decide +kernel
theorem dX15_keyOf_68 : decode cX15_keyOf 68 = .ok (.goto 4, 3) := by decide +kernel
theorem dX15_keyOf_72 : decode cX15_keyOf 72 = .ok (.lreturn, 1) := by decide +kernel
theorem dX15_keyOf_60 : decode cX15_keyOf 60 = .ok (.iload 5, 2) := by decide +kernel
theorem dX15_keyOf_62 : decode cX15_keyOf 62 = .ok (.ifCond .le 9, 3) := by decide +kernel
theorem dX15_keyOf_71 : decode cX15_keyOf 71 = .ok (.lload_n 3, 1) := by decide +kernel
theorem dX15_keyOf_24 : decode cX15_keyOf 24 = .ok (.ldc2_w 389, 3) := by decide +kernel
theorem dX15_keyOf_27 : decode cX15_keyOf 27 = .ok (.lreturn, 1) := by decide +kernel
theorem dX13_placeOf_0 : decode cX13_placeOf 0 = .ok (.lload_n 1, 1) := by decide +kernel
theorem dX13_placeOf_1 : decode cX13_placeOf 1 = .ok (.ldc2_w 29, 3) := by decide +kernel
theorem dX13_placeOf_4 : decode cX13_placeOf 4 = .ok (.lmul, 1) := by decide +kernel
theorem dX13_placeOf_5 : decode cX13_placeOf 5 = .ok (.lstore_n 3, 1) := by decide +kernel
theorem dX13_placeOf_6 : decode cX13_placeOf 6 = .ok (.lload_n 3, 1) := by decide +kernel
theorem dX13_placeOf_7 : decode cX13_placeOf 7 = .ok (.bipush 40, 2) := by decide +kernel
theorem dX13_placeOf_9 : decode cX13_placeOf 9 = .ok (.lushr, 1) := by decide +kernel
theorem dX13_placeOf_10 : decode cX13_placeOf 10 = .ok (.l2i, 1) := by decide +kernel
theorem dX13_placeOf_11 : decode cX13_placeOf 11 = .ok (.aload_n 0, 1) := by decide +kernel
theorem dX13_placeOf_12 : decode cX13_placeOf 12 = .ok (.getfield 18, 3) := by decide +kernel
theorem dX13_placeOf_15 : decode cX13_placeOf 15 = .ok (.arraylength, 1) := by decide +kernel
theorem dX13_placeOf_16 : decode cX13_placeOf 16 = .ok (.iconst 1, 1) := by decide +kernel
theorem dX13_placeOf_17 : decode cX13_placeOf 17 = .ok (.isub, 1) := by decide +kernel
theorem dX13_placeOf_18 : decode cX13_placeOf 18 = .ok (.iand, 1) := by decide +kernel
theorem dX13_placeOf_19 : decode cX13_placeOf 19 = .ok (.ireturn, 1) := by decide +kernel
theorem dX13_found_0 : decode cX13_found 0 = .ok (.aload_n 0, 1) := by decide +kernel
theorem dX13_found_1 : decode cX13_found 1 = .ok (.lload_n 1, 1) := by decide +kernel
theorem dX13_found_2 : decode cX13_found 2 = .ok (.invokevirtual 31, 3) := by decide +kernel
theorem dX13_found_5 : decode cX13_found 5 = .ok (.istore_n 3, 1) := by decide +kernel
theorem dX13_found_6 : decode cX13_found 6 = .ok (.aload_n 0, 1) := by decide +kernel
theorem dX13_found_7 : decode cX13_found 7 = .ok (.getfield 18, 3) := by decide +kernel
theorem dX13_found_10 : decode cX13_found 10 = .ok (.iload_n 3, 1) := by decide +kernel
theorem dX13_found_11 : decode cX13_found 11 = .ok (.iaload, 1) := by decide +kernel
theorem dX13_found_12 : decode cX13_found 12 = .ok (.ifCond .eq 36, 3) := by decide +kernel
theorem dX13_found_48 : decode cX13_found 48 = .ok (.iload_n 3, 1) := by decide +kernel
theorem dX13_found_49 : decode cX13_found 49 = .ok (.ireturn, 1) := by decide +kernel
theorem dX13_of_0 : decode cX13_of 0 = .ok (.aload_n 0, 1) := by decide +kernel
theorem dX13_of_1 : decode cX13_of 1 = .ok (.lload_n 1, 1) := by decide +kernel
theorem dX13_of_2 : decode cX13_of 2 = .ok (.invokevirtual 35, 3) := by decide +kernel
theorem dX13_of_5 : decode cX13_of 5 = .ok (.istore_n 3, 1) := by decide +kernel
theorem dX13_of_6 : decode cX13_of 6 = .ok (.aload_n 0, 1) := by decide +kernel
theorem dX13_of_7 : decode cX13_of 7 = .ok (.getfield 18, 3) := by decide +kernel
theorem dX13_of_10 : decode cX13_of 10 = .ok (.iload_n 3, 1) := by decide +kernel
theorem dX13_of_11 : decode cX13_of 11 = .ok (.iaload, 1) := by decide +kernel
theorem dX13_of_12 : decode cX13_of 12 = .ok (.ifCond .ne 7, 3) := by decide +kernel
theorem dX13_of_15 : decode cX13_of 15 = .ok (.lconst 0, 1) := by decide +kernel
theorem dX13_of_16 : decode cX13_of 16 = .ok (.goto 16, 3) := by decide +kernel
theorem dX13_of_32 : decode cX13_of 32 = .ok (.lreturn, 1) := by decide +kernel
theorem dX15_term_0 : decode cX15_term 0 = .ok (.aload_n 0, 1) := by decide +kernel
theorem dX15_term_1 : decode cX15_term 1 = .ok (.iconst 0, 1) := by decide +kernel
theorem dX15_term_2 : decode cX15_term 2 = .ok (.putfield 296, 3) := by decide +kernel
theorem dX15_term_5 : decode cX15_term 5 = .ok (.iload_n 1, 1) := by decide +kernel
theorem dX15_term_6 : decode cX15_term 6 = .ok (.bipush 6, 2) := by decide +kernel
theorem dX15_term_8 : decode cX15_term 8 = .ok (.iconst 4, 1) := by decide +kernel
theorem dX15_term_9 : decode cX15_term 9 = .ok (.invokestatic 459, 3) := by decide +kernel
theorem dX15_term_12 : decode cX15_term 12 = .ok (.lstore_n 2, 1) := by decide +kernel
theorem dX15_term_13 : decode cX15_term 13 = .ok (.aload_n 0, 1) := by decide +kernel
theorem dX15_term_14 : decode cX15_term 14 = .ok (.lload_n 2, 1) := by decide +kernel
theorem dX15_term_15 : decode cX15_term 15 = .ok (.ldc2_w 389, 3) := by decide +kernel
theorem dX15_term_18 : decode cX15_term 18 = .ok (.lcmp, 1) := by decide +kernel
theorem dX15_term_19 : decode cX15_term 19 = .ok (.ifCond .ne 7, 3) := by decide +kernel
theorem dX15_term_22 : decode cX15_term 22 = .ok (.iconst 1, 1) := by decide +kernel
theorem dX15_term_23 : decode cX15_term 23 = .ok (.goto 4, 3) := by decide +kernel
theorem dX15_term_27 : decode cX15_term 27 = .ok (.iconst 1, 1) := by decide +kernel
theorem dX15_term_28 : decode cX15_term 28 = .ok (.invokevirtual 424, 3) := by decide +kernel
theorem dX15_term_31 : decode cX15_term 31 = .ok (.ifCond .eq 5, 3) := by decide +kernel
theorem dX15_term_34 : decode cX15_term 34 = .ok (.iconst 0, 1) := by decide +kernel
theorem dX15_term_35 : decode cX15_term 35 = .ok (.ireturn, 1) := by decide +kernel
theorem dX15_term_26 : decode cX15_term 26 = .ok (.iconst 0, 1) := by decide +kernel
theorem dX15_term_36 : decode cX15_term 36 = .ok (.aload_n 0, 1) := by decide +kernel
theorem dX15_term_37 : decode cX15_term 37 = .ok (.getfield 130, 3) := by decide +kernel
theorem dX15_term_40 : decode cX15_term 40 = .ok (.lload_n 2, 1) := by decide +kernel
theorem dX15_term_41 : decode cX15_term 41 = .ok (.invokevirtual 463, 3) := by decide +kernel
theorem dX15_term_44 : decode cX15_term 44 = .ok (.l2i, 1) := by decide +kernel
theorem dX15_term_45 : decode cX15_term 45 = .ok (.ireturn, 1) := by decide +kernel
theorem dX13_clear_0 : decode cX13_clear 0 = .ok (.iconst 0, 1) := by decide +kernel
theorem dX13_clear_1 : decode cX13_clear 1 = .ok (.istore_n 1, 1) := by decide +kernel
theorem dX13_clear_2 : decode cX13_clear 2 = .ok (.iload_n 1, 1) := by decide +kernel
theorem dX13_clear_3 : decode cX13_clear 3 = .ok (.aload_n 0, 1) := by decide +kernel
theorem dX13_clear_4 : decode cX13_clear 4 = .ok (.getfield 25, 3) := by decide +kernel
theorem dX13_clear_7 : decode cX13_clear 7 = .ok (.if_icmp .ge 21, 3) := by decide +kernel
theorem dX13_clear_28 : decode cX13_clear 28 = .ok (.aload_n 0, 1) := by decide +kernel
theorem dX13_clear_29 : decode cX13_clear 29 = .ok (.iconst 0, 1) := by decide +kernel
theorem dX13_clear_30 : decode cX13_clear 30 = .ok (.putfield 25, 3) := by decide +kernel
theorem dX13_clear_33 : decode cX13_clear 33 = .ok (.return_, 1) := by decide +kernel
theorem dX13_adds_0 : decode cX13_adds 0 = .ok (.iconst 0, 1) := by decide +kernel
theorem dX13_adds_1 : decode cX13_adds 1 = .ok (.istore 4, 2) := by decide +kernel
theorem dX13_adds_3 : decode cX13_adds 3 = .ok (.iload 4, 2) := by decide +kernel
theorem dX13_adds_5 : decode cX13_adds 5 = .ok (.aload_n 1, 1) := by decide +kernel
theorem dX13_adds_6 : decode cX13_adds 6 = .ok (.getfield 25, 3) := by decide +kernel
theorem dX13_adds_9 : decode cX13_adds 9 = .ok (.if_icmp .ge 29, 3) := by decide +kernel
theorem dX13_adds_38 : decode cX13_adds 38 = .ok (.return_, 1) := by decide +kernel
theorem dX15_copies_0 : decode cX15_copies 0 = .ok (.aload_n 1, 1) := by decide +kernel
theorem dX15_copies_1 : decode cX15_copies 1 = .ok (.invokevirtual 368, 3) := by decide +kernel
theorem dX15_copies_4 : decode cX15_copies 4 = .ok (.aload_n 1, 1) := by decide +kernel
theorem dX15_copies_5 : decode cX15_copies 5 = .ok (.aload_n 0, 1) := by decide +kernel
theorem dX15_copies_6 : decode cX15_copies 6 = .ok (.lconst 1, 1) := by decide +kernel
theorem dX15_copies_7 : decode cX15_copies 7 = .ok (.invokevirtual 374, 3) := by decide +kernel
theorem dX15_copies_10 : decode cX15_copies 10 = .ok (.return_, 1) := by decide +kernel
theorem dX15_image_0 : decode cX15_image 0 = .ok (.aload_n 0, 1) := by decide +kernel
theorem dX15_image_1 : decode cX15_image 1 = .ok (.iconst 0, 1) := by decide +kernel
theorem dX15_image_2 : decode cX15_image 2 = .ok (.putfield 296, 3) := by decide +kernel
theorem dX15_image_5 : decode cX15_image 5 = .ok (.aload_n 0, 1) := by decide +kernel
theorem dX15_image_6 : decode cX15_image 6 = .ok (.getfield 450, 3) := by decide +kernel
theorem dX15_image_9 : decode cX15_image 9 = .ok (.iconst 3, 1) := by decide +kernel
theorem dX15_image_10 : decode cX15_image 10 = .ok (.if_icmp .ne 5, 3) := by decide +kernel
theorem dX15_image_15 : decode cX15_image 15 = .ok (.iconst 0, 1) := by decide +kernel
theorem dX15_image_16 : decode cX15_image 16 = .ok (.istore_n 1, 1) := by decide +kernel
theorem dX15_image_17 : decode cX15_image 17 = .ok (.iload_n 1, 1) := by decide +kernel
theorem dX15_image_18 : decode cX15_image 18 = .ok (.iconst 4, 1) := by decide +kernel
theorem dX15_image_19 : decode cX15_image 19 = .ok (.if_icmp .ge 41, 3) := by decide +kernel
theorem dX15_image_22 : decode cX15_image 22 = .ok (.iload_n 1, 1) := by decide +kernel
theorem dX15_image_23 : decode cX15_image 23 = .ok (.iconst 3, 1) := by decide +kernel
theorem dX15_image_24 : decode cX15_image 24 = .ok (.if_icmp .ge 12, 3) := by decide +kernel
theorem dX15_image_27 : decode cX15_image 27 = .ok (.aload_n 0, 1) := by decide +kernel
theorem dX15_image_28 : decode cX15_image 28 = .ok (.getfield 134, 3) := by decide +kernel
theorem dX15_image_31 : decode cX15_image 31 = .ok (.iload_n 1, 1) := by decide +kernel
theorem dX15_image_32 : decode cX15_image 32 = .ok (.aaload, 1) := by decide +kernel
theorem dX15_image_33 : decode cX15_image 33 = .ok (.goto 7, 3) := by decide +kernel
theorem dX15_image_40 : decode cX15_image 40 = .ok (.aload_n 0, 1) := by decide +kernel
theorem dX15_image_41 : decode cX15_image 41 = .ok (.getfield 149, 3) := by decide +kernel
theorem dX15_image_44 : decode cX15_image 44 = .ok (.aload_n 0, 1) := by decide +kernel
theorem dX15_image_45 : decode cX15_image 45 = .ok (.getfield 450, 3) := by decide +kernel
theorem dX15_image_48 : decode cX15_image 48 = .ok (.aaload, 1) := by decide +kernel
theorem dX15_image_49 : decode cX15_image 49 = .ok (.iload_n 1, 1) := by decide +kernel
theorem dX15_image_50 : decode cX15_image 50 = .ok (.aaload, 1) := by decide +kernel
theorem dX15_image_51 : decode cX15_image 51 = .ok (.invokestatic 446, 3) := by decide +kernel
theorem dX15_image_54 : decode cX15_image 54 = .ok (.iinc 1 1, 3) := by decide +kernel
theorem dX15_image_57 : decode cX15_image 57 = .ok (.goto (-40), 3) := by decide +kernel
theorem dX15_image_36 : decode cX15_image 36 = .ok (.aload_n 0, 1) := by decide +kernel
theorem dX15_image_37 : decode cX15_image 37 = .ok (.getfield 141, 3) := by decide +kernel
theorem dX15_image_60 : decode cX15_image 60 = .ok (.aload_n 0, 1) := by decide +kernel
theorem dX15_image_61 : decode cX15_image 61 = .ok (.dup, 1) := by decide +kernel
theorem dX15_image_62 : decode cX15_image 62 = .ok (.getfield 450, 3) := by decide +kernel
theorem dX15_image_65 : decode cX15_image 65 = .ok (.iconst 1, 1) := by decide +kernel
theorem dX15_image_66 : decode cX15_image 66 = .ok (.iadd, 1) := by decide +kernel
theorem dX15_image_67 : decode cX15_image 67 = .ok (.putfield 450, 3) := by decide +kernel
theorem dX15_image_70 : decode cX15_image 70 = .ok (.aload_n 0, 1) := by decide +kernel
theorem dX15_image_71 : decode cX15_image 71 = .ok (.getfield 450, 3) := by decide +kernel
theorem dX15_image_74 : decode cX15_image 74 = .ok (.ireturn, 1) := by decide +kernel
theorem dX15_feed_0 : decode cX15_feed 0 = .ok (.aload_n 0, 1) := by decide +kernel
theorem dX15_feed_1 : decode cX15_feed 1 = .ok (.iconst 0, 1) := by decide +kernel
theorem dX15_feed_2 : decode cX15_feed 2 = .ok (.putfield 296, 3) := by decide +kernel
theorem dX15_feed_5 : decode cX15_feed 5 = .ok (.aload_n 0, 1) := by decide +kernel
theorem dX15_feed_6 : decode cX15_feed 6 = .ok (.getfield 299, 3) := by decide +kernel
theorem dX15_feed_9 : decode cX15_feed 9 = .ok (.bipush 20, 2) := by decide +kernel
theorem dX15_feed_11 : decode cX15_feed 11 = .ok (.iadd, 1) := by decide +kernel
theorem dX15_feed_12 : decode cX15_feed 12 = .ok (.sipush 200, 3) := by decide +kernel
theorem dX15_feed_15 : decode cX15_feed 15 = .ok (.if_icmp .le 5, 3) := by decide +kernel
theorem dX15_feed_20 : decode cX15_feed 20 = .ok (.iconst 0, 1) := by decide +kernel
theorem dX15_feed_21 : decode cX15_feed 21 = .ok (.istore 6, 2) := by decide +kernel
theorem dX15_feed_23 : decode cX15_feed 23 = .ok (.iload 6, 2) := by decide +kernel
theorem dX15_feed_25 : decode cX15_feed 25 = .ok (.bipush 20, 2) := by decide +kernel
theorem dX15_feed_27 : decode cX15_feed 27 = .ok (.if_icmp .ge 93, 3) := by decide +kernel
theorem dX15_feed_30 : decode cX15_feed 30 = .ok (.iload 6, 2) := by decide +kernel
theorem dX15_feed_32 : decode cX15_feed 32 = .ok (.iconst 4, 1) := by decide +kernel
theorem dX15_feed_33 : decode cX15_feed 33 = .ok (.if_icmp .ge 7, 3) := by decide +kernel
theorem dX15_feed_36 : decode cX15_feed 36 = .ok (.iload_n 1, 1) := by decide +kernel
theorem dX15_feed_37 : decode cX15_feed 37 = .ok (.goto 39, 3) := by decide +kernel
theorem dX15_feed_76 : decode cX15_feed 76 = .ok (.istore 7, 2) := by decide +kernel
theorem dX15_feed_78 : decode cX15_feed 78 = .ok (.aload_n 0, 1) := by decide +kernel
theorem dX15_feed_79 : decode cX15_feed 79 = .ok (.getfield 124, 3) := by decide +kernel
theorem dX15_feed_82 : decode cX15_feed 82 = .ok (.aload_n 0, 1) := by decide +kernel
theorem dX15_feed_83 : decode cX15_feed 83 = .ok (.getfield 299, 3) := by decide +kernel
theorem dX15_feed_86 : decode cX15_feed 86 = .ok (.iload 7, 2) := by decide +kernel
theorem dX15_feed_88 : decode cX15_feed 88 = .ok (.bipush 24, 2) := by decide +kernel
theorem dX15_feed_90 : decode cX15_feed 90 = .ok (.bipush 8, 2) := by decide +kernel
theorem dX15_feed_92 : decode cX15_feed 92 = .ok (.iload 6, 2) := by decide +kernel
theorem dX15_feed_94 : decode cX15_feed 94 = .ok (.iconst 4, 1) := by decide +kernel
theorem dX15_feed_95 : decode cX15_feed 95 = .ok (.irem, 1) := by decide +kernel
theorem dX15_feed_96 : decode cX15_feed 96 = .ok (.imul, 1) := by decide +kernel
theorem dX15_feed_97 : decode cX15_feed 97 = .ok (.isub, 1) := by decide +kernel
theorem dX15_feed_98 : decode cX15_feed 98 = .ok (.ishr, 1) := by decide +kernel
theorem dX15_feed_99 : decode cX15_feed 99 = .ok (.sipush 255, 3) := by decide +kernel
theorem dX15_feed_102 : decode cX15_feed 102 = .ok (.iand, 1) := by decide +kernel
theorem dX15_feed_103 : decode cX15_feed 103 = .ok (.iastore, 1) := by decide +kernel
theorem dX15_feed_104 : decode cX15_feed 104 = .ok (.aload_n 0, 1) := by decide +kernel
theorem dX15_feed_105 : decode cX15_feed 105 = .ok (.dup, 1) := by decide +kernel
theorem dX15_feed_106 : decode cX15_feed 106 = .ok (.getfield 299, 3) := by decide +kernel
theorem dX15_feed_109 : decode cX15_feed 109 = .ok (.iconst 1, 1) := by decide +kernel
theorem dX15_feed_110 : decode cX15_feed 110 = .ok (.iadd, 1) := by decide +kernel
theorem dX15_feed_111 : decode cX15_feed 111 = .ok (.putfield 299, 3) := by decide +kernel
theorem dX15_feed_114 : decode cX15_feed 114 = .ok (.iinc 6 1, 3) := by decide +kernel
theorem dX15_feed_117 : decode cX15_feed 117 = .ok (.goto (-94), 3) := by decide +kernel
theorem dX15_feed_40 : decode cX15_feed 40 = .ok (.iload 6, 2) := by decide +kernel
theorem dX15_feed_42 : decode cX15_feed 42 = .ok (.bipush 8, 2) := by decide +kernel
theorem dX15_feed_44 : decode cX15_feed 44 = .ok (.if_icmp .ge 7, 3) := by decide +kernel
theorem dX15_feed_47 : decode cX15_feed 47 = .ok (.iload_n 2, 1) := by decide +kernel
theorem dX15_feed_48 : decode cX15_feed 48 = .ok (.goto 28, 3) := by decide +kernel
theorem dX15_feed_51 : decode cX15_feed 51 = .ok (.iload 6, 2) := by decide +kernel
theorem dX15_feed_53 : decode cX15_feed 53 = .ok (.bipush 12, 2) := by decide +kernel
theorem dX15_feed_55 : decode cX15_feed 55 = .ok (.if_icmp .ge 7, 3) := by decide +kernel
theorem dX15_feed_58 : decode cX15_feed 58 = .ok (.iload_n 3, 1) := by decide +kernel
theorem dX15_feed_59 : decode cX15_feed 59 = .ok (.goto 17, 3) := by decide +kernel
theorem dX15_feed_62 : decode cX15_feed 62 = .ok (.iload 6, 2) := by decide +kernel
theorem dX15_feed_64 : decode cX15_feed 64 = .ok (.bipush 16, 2) := by decide +kernel
theorem dX15_feed_66 : decode cX15_feed 66 = .ok (.if_icmp .ge 8, 3) := by decide +kernel
theorem dX15_feed_69 : decode cX15_feed 69 = .ok (.iload 4, 2) := by decide +kernel
theorem dX15_feed_71 : decode cX15_feed 71 = .ok (.goto 5, 3) := by decide +kernel
theorem dX15_feed_74 : decode cX15_feed 74 = .ok (.iload 5, 2) := by decide +kernel
theorem dX15_feed_120 : decode cX15_feed 120 = .ok (.aload_n 0, 1) := by decide +kernel
theorem dX15_feed_121 : decode cX15_feed 121 = .ok (.getfield 299, 3) := by decide +kernel
theorem dX15_feed_124 : decode cX15_feed 124 = .ok (.ireturn, 1) := by decide +kernel
theorem dX15_byteAt_0 : decode cX15_byteAt 0 = .ok (.iload_n 1, 1) := by decide +kernel
theorem dX15_byteAt_1 : decode cX15_byteAt 1 = .ok (.aload_n 0, 1) := by decide +kernel
theorem dX15_byteAt_2 : decode cX15_byteAt 2 = .ok (.getfield 302, 3) := by decide +kernel
theorem dX15_byteAt_5 : decode cX15_byteAt 5 = .ok (.if_icmp .lt 7, 3) := by decide +kernel
theorem dX15_byteAt_8 : decode cX15_byteAt 8 = .ok (.iconst (-1), 1) := by decide +kernel
theorem dX15_byteAt_9 : decode cX15_byteAt 9 = .ok (.goto 9, 3) := by decide +kernel
theorem dX15_byteAt_18 : decode cX15_byteAt 18 = .ok (.ireturn, 1) := by decide +kernel
theorem dX15_blanks_0 : decode cX15_blanks 0 = .ok (.aload_n 0, 1) := by decide +kernel
theorem dX15_blanks_1 : decode cX15_blanks 1 = .ok (.aload_n 0, 1) := by decide +kernel
theorem dX15_blanks_2 : decode cX15_blanks 2 = .ok (.getfield 303, 3) := by decide +kernel
theorem dX15_blanks_5 : decode cX15_blanks 5 = .ok (.invokevirtual 306, 3) := by decide +kernel
theorem dX15_blanks_8 : decode cX15_blanks 8 = .ok (.bipush 32, 2) := by decide +kernel
theorem dX15_blanks_10 : decode cX15_blanks 10 = .ok (.if_icmp .ne 16, 3) := by decide +kernel
theorem dX15_blanks_26 : decode cX15_blanks 26 = .ok (.return_, 1) := by decide +kernel
theorem dX15_isLetter_0 : decode cX15_isLetter 0 = .ok (.iload_n 0, 1) := by decide +kernel
theorem dX15_isLetter_1 : decode cX15_isLetter 1 = .ok (.bipush 97, 2) := by decide +kernel
theorem dX15_isLetter_3 : decode cX15_isLetter 3 = .ok (.if_icmp .lt 13, 3) := by decide +kernel
theorem dX15_isLetter_16 : decode cX15_isLetter 16 = .ok (.iconst 0, 1) := by decide +kernel
theorem dX15_isLetter_17 : decode cX15_isLetter 17 = .ok (.ireturn, 1) := by decide +kernel
theorem dX15_wordHere_0 : decode cX15_wordHere 0 = .ok (.aload_n 0, 1) := by decide +kernel
theorem dX15_wordHere_1 : decode cX15_wordHere 1 = .ok (.invokevirtual 316, 3) := by decide +kernel
theorem dX15_wordHere_4 : decode cX15_wordHere 4 = .ok (.iconst 0, 1) := by decide +kernel
theorem dX15_wordHere_5 : decode cX15_wordHere 5 = .ok (.istore_n 1, 1) := by decide +kernel
theorem dX15_wordHere_6 : decode cX15_wordHere 6 = .ok (.iconst 0, 1) := by decide +kernel
theorem dX15_wordHere_7 : decode cX15_wordHere 7 = .ok (.istore_n 2, 1) := by decide +kernel
theorem dX15_wordHere_8 : decode cX15_wordHere 8 = .ok (.aload_n 0, 1) := by decide +kernel
theorem dX15_wordHere_9 : decode cX15_wordHere 9 = .ok (.aload_n 0, 1) := by decide +kernel
theorem dX15_wordHere_10 : decode cX15_wordHere 10 = .ok (.getfield 303, 3) := by decide +kernel
theorem dX15_wordHere_13 : decode cX15_wordHere 13 = .ok (.iload_n 2, 1) := by decide +kernel
theorem dX15_wordHere_14 : decode cX15_wordHere 14 = .ok (.iadd, 1) := by decide +kernel
theorem dX15_wordHere_15 : decode cX15_wordHere 15 = .ok (.invokevirtual 306, 3) := by decide +kernel
theorem dX15_wordHere_18 : decode cX15_wordHere 18 = .ok (.invokestatic 328, 3) := by decide +kernel
theorem dX15_wordHere_21 : decode cX15_wordHere 21 = .ok (.ifCond .eq 40, 3) := by decide +kernel
theorem dX15_wordHere_61 : decode cX15_wordHere 61 = .ok (.iload_n 2, 1) := by decide +kernel
theorem dX15_wordHere_62 : decode cX15_wordHere 62 = .ok (.bipush 6, 2) := by decide +kernel
theorem dX15_wordHere_64 : decode cX15_wordHere 64 = .ok (.if_icmp .le 7, 3) := by decide +kernel
theorem dX15_wordHere_71 : decode cX15_wordHere 71 = .ok (.iload_n 1, 1) := by decide +kernel
theorem dX15_wordHere_72 : decode cX15_wordHere 72 = .ok (.ireturn, 1) := by decide +kernel
theorem dX15_starts_0 : decode cX15_starts 0 = .ok (.aload_n 0, 1) := by decide +kernel
theorem dX15_starts_1 : decode cX15_starts 1 = .ok (.iconst 0, 1) := by decide +kernel
theorem dX15_starts_2 : decode cX15_starts 2 = .ok (.putfield 299, 3) := by decide +kernel
theorem dX15_starts_5 : decode cX15_starts 5 = .ok (.aload_n 0, 1) := by decide +kernel
theorem dX15_starts_6 : decode cX15_starts 6 = .ok (.iload_n 1, 1) := by decide +kernel
theorem dX15_starts_7 : decode cX15_starts 7 = .ok (.putfield 302, 3) := by decide +kernel
theorem dX15_starts_10 : decode cX15_starts 10 = .ok (.aload_n 0, 1) := by decide +kernel
theorem dX15_starts_11 : decode cX15_starts 11 = .ok (.iconst 0, 1) := by decide +kernel
theorem dX15_starts_12 : decode cX15_starts 12 = .ok (.putfield 303, 3) := by decide +kernel
theorem dX15_starts_15 : decode cX15_starts 15 = .ok (.aload_n 0, 1) := by decide +kernel
theorem dX15_starts_16 : decode cX15_starts 16 = .ok (.iconst 0, 1) := by decide +kernel
theorem dX15_starts_17 : decode cX15_starts 17 = .ok (.putfield 310, 3) := by decide +kernel
theorem dX15_starts_20 : decode cX15_starts 20 = .ok (.aload_n 0, 1) := by decide +kernel
theorem dX15_starts_21 : decode cX15_starts 21 = .ok (.iconst (-1), 1) := by decide +kernel
theorem dX15_starts_22 : decode cX15_starts 22 = .ok (.putfield 313, 3) := by decide +kernel
theorem dX15_starts_25 : decode cX15_starts 25 = .ok (.aload_n 0, 1) := by decide +kernel
theorem dX15_starts_26 : decode cX15_starts 26 = .ok (.iconst 0, 1) := by decide +kernel
theorem dX15_starts_27 : decode cX15_starts 27 = .ok (.putfield 331, 3) := by decide +kernel
theorem dX15_starts_30 : decode cX15_starts 30 = .ok (.aload_n 0, 1) := by decide +kernel
theorem dX15_starts_31 : decode cX15_starts 31 = .ok (.iconst 0, 1) := by decide +kernel
theorem dX15_starts_32 : decode cX15_starts 32 = .ok (.putfield 334, 3) := by decide +kernel
theorem dX15_starts_35 : decode cX15_starts 35 = .ok (.return_, 1) := by decide +kernel
theorem dX15_wrong_0 : decode cX15_wrong 0 = .ok (.aload_n 0, 1) := by decide +kernel
theorem dX15_wrong_1 : decode cX15_wrong 1 = .ok (.getfield 310, 3) := by decide +kernel
theorem dX15_wrong_4 : decode cX15_wrong 4 = .ok (.ifCond .ne 13, 3) := by decide +kernel
theorem dX15_wrong_7 : decode cX15_wrong 7 = .ok (.aload_n 0, 1) := by decide +kernel
theorem dX15_wrong_8 : decode cX15_wrong 8 = .ok (.iload_n 1, 1) := by decide +kernel
theorem dX15_wrong_9 : decode cX15_wrong 9 = .ok (.putfield 310, 3) := by decide +kernel
theorem dX15_wrong_12 : decode cX15_wrong 12 = .ok (.aload_n 0, 1) := by decide +kernel
theorem dX15_wrong_13 : decode cX15_wrong 13 = .ok (.iload_n 2, 1) := by decide +kernel
theorem dX15_wrong_14 : decode cX15_wrong 14 = .ok (.putfield 313, 3) := by decide +kernel
theorem dX15_wrong_17 : decode cX15_wrong 17 = .ok (.return_, 1) := by decide +kernel
theorem dX15_ends_0 : decode cX15_ends 0 = .ok (.aload_n 0, 1) := by decide +kernel
theorem dX15_ends_1 : decode cX15_ends 1 = .ok (.invokevirtual 316, 3) := by decide +kernel
theorem dX15_ends_4 : decode cX15_ends 4 = .ok (.aload_n 0, 1) := by decide +kernel
theorem dX15_ends_5 : decode cX15_ends 5 = .ok (.getfield 310, 3) := by decide +kernel
theorem dX15_ends_8 : decode cX15_ends 8 = .ok (.ifCond .ne 23, 3) := by decide +kernel
theorem dX15_ends_31 : decode cX15_ends 31 = .ok (.aload_n 0, 1) := by decide +kernel
theorem dX15_ends_32 : decode cX15_ends 32 = .ok (.aload_n 0, 1) := by decide +kernel
theorem dX15_ends_33 : decode cX15_ends 33 = .ok (.getfield 313, 3) := by decide +kernel
theorem dX15_ends_36 : decode cX15_ends 36 = .ok (.putfield 121, 3) := by decide +kernel
theorem dX15_ends_39 : decode cX15_ends 39 = .ok (.return_, 1) := by decide +kernel
theorem dX15_equation_0 : decode cX15_equation 0 = .ok (.aload_n 0, 1) := by decide +kernel
theorem dX15_equation_1 : decode cX15_equation 1 = .ok (.iconst 0, 1) := by decide +kernel
theorem dX15_equation_2 : decode cX15_equation 2 = .ok (.putfield 296, 3) := by decide +kernel
theorem dX15_equation_5 : decode cX15_equation 5 = .ok (.aload_n 0, 1) := by decide +kernel
theorem dX15_equation_6 : decode cX15_equation 6 = .ok (.iload_n 1, 1) := by decide +kernel
theorem dX15_equation_7 : decode cX15_equation 7 = .ok (.iconst 0, 1) := by decide +kernel
theorem dX15_equation_8 : decode cX15_equation 8 = .ok (.aload_n 0, 1) := by decide +kernel
theorem dX15_equation_9 : decode cX15_equation 9 = .ok (.getfield 299, 3) := by decide +kernel
theorem dX15_equation_12 : decode cX15_equation 12 = .ok (.invokestatic 420, 3) := by decide +kernel
theorem dX15_equation_15 : decode cX15_equation 15 = .ok (.ifCond .ne 7, 3) := by decide +kernel
theorem dX15_equation_22 : decode cX15_equation 22 = .ok (.iconst 0, 1) := by decide +kernel
theorem dX15_equation_23 : decode cX15_equation 23 = .ok (.iconst 1, 1) := by decide +kernel
theorem dX15_equation_24 : decode cX15_equation 24 = .ok (.invokevirtual 424, 3) := by decide +kernel
theorem dX15_equation_27 : decode cX15_equation 27 = .ok (.ifCond .eq 5, 3) := by decide +kernel
theorem dX15_equation_32 : decode cX15_equation 32 = .ok (.aload_n 0, 1) := by decide +kernel
theorem dX15_equation_33 : decode cX15_equation 33 = .ok (.iload_n 1, 1) := by decide +kernel
theorem dX15_equation_34 : decode cX15_equation 34 = .ok (.invokevirtual 428, 3) := by decide +kernel
theorem dX15_equation_37 : decode cX15_equation 37 = .ok (.aload_n 0, 1) := by decide +kernel
theorem dX15_equation_38 : decode cX15_equation 38 = .ok (.invokevirtual 337, 3) := by decide +kernel
theorem dX15_equation_41 : decode cX15_equation 41 = .ok (.istore_n 2, 1) := by decide +kernel
theorem dX15_equation_42 : decode cX15_equation 42 = .ok (.aload_n 0, 1) := by decide +kernel
theorem dX15_equation_43 : decode cX15_equation 43 = .ok (.iload_n 2, 1) := by decide +kernel
theorem dX15_equation_44 : decode cX15_equation 44 = .ok (.ldc_w 431, 3) := by decide +kernel
theorem dX15_equation_47 : decode cX15_equation 47 = .ok (.if_icmp .ne 7, 3) := by decide +kernel
theorem dX15_equation_54 : decode cX15_equation 54 = .ok (.iload_n 2, 1) := by decide +kernel
theorem dX15_equation_55 : decode cX15_equation 55 = .ok (.ldc_w 432, 3) := by decide +kernel
theorem dX15_equation_58 : decode cX15_equation 58 = .ok (.if_icmp .ne 7, 3) := by decide +kernel
theorem dX15_equation_65 : decode cX15_equation 65 = .ok (.iconst 0, 1) := by decide +kernel
theorem dX15_equation_66 : decode cX15_equation 66 = .ok (.putfield 433, 3) := by decide +kernel
theorem dX15_equation_69 : decode cX15_equation 69 = .ok (.aload_n 0, 1) := by decide +kernel
theorem dX15_equation_70 : decode cX15_equation 70 = .ok (.getfield 433, 3) := by decide +kernel
theorem dX15_equation_73 : decode cX15_equation 73 = .ok (.ifCond .ne 12, 3) := by decide +kernel
theorem dX15_equation_76 : decode cX15_equation 76 = .ok (.aload_n 0, 1) := by decide +kernel
theorem dX15_equation_77 : decode cX15_equation 77 = .ok (.iconst 1, 1) := by decide +kernel
theorem dX15_equation_78 : decode cX15_equation 78 = .ok (.aload_n 0, 1) := by decide +kernel
theorem dX15_equation_79 : decode cX15_equation 79 = .ok (.getfield 303, 3) := by decide +kernel
theorem dX15_equation_82 : decode cX15_equation 82 = .ok (.invokevirtual 323, 3) := by decide +kernel
theorem dX15_equation_85 : decode cX15_equation 85 = .ok (.aload_n 0, 1) := by decide +kernel
theorem dX15_equation_86 : decode cX15_equation 86 = .ok (.aload_n 0, 1) := by decide +kernel
theorem dX15_equation_87 : decode cX15_equation 87 = .ok (.getfield 433, 3) := by decide +kernel
theorem dX15_equation_90 : decode cX15_equation 90 = .ok (.iconst 1, 1) := by decide +kernel
theorem dX15_equation_91 : decode cX15_equation 91 = .ok (.isub, 1) := by decide +kernel
theorem dX15_equation_92 : decode cX15_equation 92 = .ok (.putfield 341, 3) := by decide +kernel
theorem dX15_equation_95 : decode cX15_equation 95 = .ok (.aload_n 0, 1) := by decide +kernel
theorem dX15_equation_96 : decode cX15_equation 96 = .ok (.getfield 310, 3) := by decide +kernel
theorem dX15_equation_99 : decode cX15_equation 99 = .ok (.ifCond .ne 7, 3) := by decide +kernel
theorem dX15_equation_106 : decode cX15_equation 106 = .ok (.aload_n 0, 1) := by decide +kernel
theorem dX15_equation_107 : decode cX15_equation 107 = .ok (.getfield 310, 3) := by decide +kernel
theorem dX15_equation_110 : decode cX15_equation 110 = .ok (.ifCond .ne 11, 3) := by decide +kernel
theorem dX15_equation_121 : decode cX15_equation 121 = .ok (.aload_n 0, 1) := by decide +kernel
theorem dX15_equation_122 : decode cX15_equation 122 = .ok (.invokevirtual 440, 3) := by decide +kernel
theorem dX15_equation_125 : decode cX15_equation 125 = .ok (.aload_n 0, 1) := by decide +kernel
theorem dX15_equation_126 : decode cX15_equation 126 = .ok (.getfield 310, 3) := by decide +kernel
theorem dX15_equation_129 : decode cX15_equation 129 = .ok (.ifCond .eq 11, 3) := by decide +kernel
theorem dX15_equation_132 : decode cX15_equation 132 = .ok (.aload_n 0, 1) := by decide +kernel
theorem dX15_equation_133 : decode cX15_equation 133 = .ok (.getfield 310, 3) := by decide +kernel
theorem dX15_equation_136 : decode cX15_equation 136 = .ok (.bipush 10, 2) := by decide +kernel
theorem dX15_equation_138 : decode cX15_equation 138 = .ok (.isub, 1) := by decide +kernel
theorem dX15_equation_139 : decode cX15_equation 139 = .ok (.ireturn, 1) := by decide +kernel
theorem dX15_equation_18 : decode cX15_equation 18 = .ok (.iconst 1, 1) := by decide +kernel
theorem dX15_equation_19 : decode cX15_equation 19 = .ok (.goto 4, 3) := by decide +kernel
theorem dX15_equation_30 : decode cX15_equation 30 = .ok (.iconst 0, 1) := by decide +kernel
theorem dX15_equation_31 : decode cX15_equation 31 = .ok (.ireturn, 1) := by decide +kernel
def wv_m_bad1 : List Cond := .code yX15_bad cX15_bad 3 (some .boolean) :: ([.fieldLink RX15 296 "MotionSignsModel" "thrown" "I"] ++ (wsX150 ++ ([])))
theorem gw_m_bad1 : wv_m_bad1.all goodWord = true := by decide +kernel
theorem in_m_bad1_X15 : ∀ w ∈ wsX150, w ∈ wv_m_bad1 := fun _ h => List.mem_cons_of_mem _ (List.mem_append_right _ (List.mem_append_left _ h))
set_option maxHeartbeats 4000000 in
set_option maxRecDepth 100000 in
/-- bad -/
theorem c_m_bad1 (l : Launch) (dC : Nat → ClassId) (dI : Nat → Nat → Nat) (h0 : Nat) (qfed : Nat) (qf : Nat) (qfd : Nat) (qs : Nat) (qk : Nat) (fs_h0 : List Value) (hF_h0 : mF 89 [(0, .int 0), (18, .int 0), (19, .int 0), (20, .int (-1)), (21, .int 0), (22, .int 0), (23, .int 0), (24, .int 0), (25, .int 0), (27, .int 0), (28, .int 0), (29, .int 0), (35, .int 0), (17, .int (-1)), (26, .ref qfed), (30, .ref qf), (31, .ref qfd), (33, .ref qs), (36, .ref qk)] fs_h0) (sz : Nat) : Met l yX15_bad wv_m_bad1 ({ frames := 0, cells := 0, slots := 0, locals := 0 }) (va_Pc [.ref h0, .int 1, .int 1] (fun U => U.heap.size = sz ∧ va_P (dC, dI) vwCl [(h0, .inr (15, fs_h0))] U.heap ∧ va_K (dC, dI) vwCl [] U ∧ va_D (fun _ => True) [(h0, .inr (15, fs_h0))] ∧ w_N U)) (va_Qi (fun (r : Int32) (_ : Unit) => r = 1) (fun _ t => ∃ (fs_h02 : List Value), va_P (dC, dI) vwCl [(h0, .inr (15, fs_h02))] t.heap ∧ va_K (dC, dI) vwCl [] t ∧ va_D (va_A [(h0, .inr (15, fs_h0))] sz) [(h0, .inr (15, fs_h02))] ∧ mF 89 [(0, .int 1), (18, .int 0), (19, .int 0), (20, .int (-1)), (21, .int 0), (22, .int 0), (23, .int 0), (24, .int 0), (25, .int 0), (27, .int 0), (28, .int 0), (29, .int 0), (35, .int 0), (17, .int (-1)), (26, .ref qfed), (30, .ref qf), (31, .ref qfd), (33, .ref qs), (36, .ref qk)] fs_h02) (va_A [(h0, .inr (15, fs_h0))] sz)) 0 0 (va_A [(h0, .inr (15, fs_h0))] sz) := by
  refine Met.ofW (cc := cX15_bad) (maxL := 3) (ret := (some .boolean)) (by decide) rfl ?_
  intro p e s m args below meth c s₁ B hml hv
  obtain ⟨rfl, hsz, hP, hK, hD0, hN⟩ := hv
  have hx := B.exec
  have hb := B.bytes
  have hr := B.returns
  have hts := atoms_spec (ws := wv_m_bad1) B.pre
  have hown : s.vm.findClass RX15 = some m.cls := findClass_of_methodNamed B.named
  have hlocks := B.notSynchronized
  subst hsz
  have hD := hD0.self (sz := s.heap.size)
  generalize hAe : va_A [(h0, .inr (15, fs_h0))] s.heap.size = A at hD ⊢
  have hA : ∀ q : Nat, s.heap.size ≤ q → A q := fun q h => by rw [← hAe]; exact Or.inr h
  obtain ⟨H, hHe, hP, hS⟩ : ∃ H : Heap, H = s.heap ∧ va_P (dC, dI) vwCl [(h0, .inr (15, fs_h0))] H ∧ va_S A s.heap H [] := ⟨s.heap, rfl, hP, va_S.rf⟩
  have hl := lv_entry ([.ref h0, .int 1, .int 1]) (n := 3) (Nat.le_of_ble_eq_true rfl)
  rw [lg_entry_eq]
  generalize (lg_sl ([.ref h0, .int 1, .int 1]) ++ List.replicate (3 - (lg_sl ([.ref h0, .int 1, .int 1])).length) Slot.unset).toArray = ls at hl ⊢
  have hl : lv_has ls 3 [(0, .ref h0), (1, .int 1), (2, .int 1)] := hl
  rw [← hHe]; clear hHe
  refine lv_iload_n hx hb dX15_bad_0 rfl (lv_at hl 1 rfl) ?_
  refine lv_if_eq (tgt := 16) hx hb dX15_bad_1 (by decide) (fun hc => absurd hc (by decide)) (fun _ => ?_)
  refine lv_aload_n hx hb dX15_bad_4 rfl (lv_at hl 0 rfl) ?_
  refine va_get (D := (dC, dI)) (ci := 15) (v := .int 0) (C := RX15) (T := TX15) (N := 89) hx hb hts (in_m_bad1_X15) hown hK hP 0 rfl rfl 0 (by decide) (hts (.fieldLink RX15 296 "MotionSignsModel" "thrown" "I") (List.mem_of_getElem? (i := 1) rfl)) (fun _ h9 => h9) (mF.get hF_h0 0 rfl) dX15_bad_5 ?_
  refine lv_if_ne (tgt := 16) hx hb dX15_bad_8 (by decide) (fun hc => absurd (by decide) hc) (fun _ => ?_)
  refine lv_aload_n hx hb dX15_bad_11 rfl (lv_at hl 0 rfl) ?_
  refine lv_iload_n hx hb dX15_bad_12 rfl (lv_at hl 2 rfl) ?_
  refine va_put (D := (dC, dI)) (ci := 15) (v := .int 1) (ty := .int) (C := RX15) (T := TX15) (N := 89) hx hb hts (in_m_bad1_X15) tyX15 tyX15_ok nmX15 hown hK hP hD hS 0 rfl rfl 0 (by decide) (hts (.fieldLink RX15 296 "MotionSignsModel" "thrown" "I") (List.mem_of_getElem? (i := 1) rfl)) (fun _ h9 => h9) rfl (tyX15_ok 0 (by decide)) rfl rfl (mF.lt hF_h0 (by decide)) dX15_bad_13 ?_
  clear hP hD hS; try clear H
  intro H locs hP hD hS
  have hF0 := mF.sub (L' := [(18, .int 0), (19, .int 0), (20, .int (-1)), (21, .int 0), (22, .int 0), (23, .int 0), (24, .int 0), (25, .int 0), (27, .int 0), (28, .int 0), (29, .int 0), (35, .int 0), (17, .int (-1)), (26, .ref qfed), (30, .ref qf), (31, .ref qfd), (33, .ref qs), (36, .ref qk)]) hF_h0 [1, 2, 3, 4, 5, 6, 7, 8, 9, 10, 11, 12, 13, 14, 15, 16, 17, 18] rfl
  have hF1 := mF.put hF0 0 (.int 1) (by decide) rfl
  replace hP : va_P (dC, dI) vwCl [(h0, .inr (15, (fs_h0.set 0 (.int 1))))] H := hP
  replace hD : va_D A [(h0, .inr (15, (fs_h0.set 0 (.int 1))))] := hD
  generalize fs_h0.set 0 (.int 1) = fs_1 at hP hD hF1
  replace hF_h0 : mF 89 [(0, .int 1), (18, .int 0), (19, .int 0), (20, .int (-1)), (21, .int 0), (22, .int 0), (23, .int 0), (24, .int 0), (25, .int 0), (27, .int 0), (28, .int 0), (29, .int 0), (35, .int 0), (17, .int (-1)), (26, .ref qfed), (30, .ref qf), (31, .ref qfd), (33, .ref qs), (36, .ref qk)] fs_1 := hF1
  clear hF1 hF0
  replace hP : va_P (dC, dI) vwCl [(h0, .inr (15, fs_1))] H := hP
  replace hD : va_D A [(h0, .inr (15, fs_1))] := hD
  refine lv_aload_n hx hb dX15_bad_16 rfl (lv_at hl 0 rfl) ?_
  refine va_get (D := (dC, dI)) (ci := 15) (v := .int 1) (C := RX15) (T := TX15) (N := 89) hx hb hts (in_m_bad1_X15) hown hK hP 0 rfl rfl 0 (by decide) (hts (.fieldLink RX15 296 "MotionSignsModel" "thrown" "I") (List.mem_of_getElem? (i := 1) rfl)) (fun _ h9 => h9) (mF.get hF_h0 0 rfl) dX15_bad_17 ?_
  refine lv_if_eq (tgt := 27) hx hb dX15_bad_20 (by decide) (fun hc => absurd hc (by decide)) (fun _ => ?_)
  refine lv_iconst (v := 1) hx hb dX15_bad_23 (by decide) ?_
  refine lv_goto (tgt := 28) hx hb dX15_bad_24 (by decide) ?_
  have hP9 := hP.sub (ws' := [(h0, .inr (15, fs_1))]) [0] rfl
  have hD9 := hD.sub (ws' := [(h0, .inr (15, fs_1))]) [0] (by decide) rfl
  have hK9 := hK.sub (tys' := []) [] rfl
  rw [← hAe] at hD9
  refine W.widen (k := 0) (n := 0) (Nat.le_of_ble_eq_true rfl) (Nat.le_of_ble_eq_true rfl) ?_
  subst hAe
  exact (W.zret (v := 1) hx hb hr (by decide) (fun t ht hW => ⟨⟨1, (), rfl, rfl, fs_1, by rw [ht]; exact hP9, va_K.moved hW.alike hK9, hD9, (mF.sub hF_h0 [0, 1, 2, 3, 4, 5, 6, 7, 8, 9, 10, 11, 12, 13, 14, 15, 16, 17, 18] rfl)⟩, hS.F ht⟩) hS.2.2 dX15_bad_28)
def wv_m_bad2 : List Cond := .code yX15_bad cX15_bad 3 (some .boolean) :: ([.fieldLink RX15 296 "MotionSignsModel" "thrown" "I"] ++ (wsX150 ++ ([])))
theorem gw_m_bad2 : wv_m_bad2.all goodWord = true := by decide +kernel
theorem in_m_bad2_X15 : ∀ w ∈ wsX150, w ∈ wv_m_bad2 := fun _ h => List.mem_cons_of_mem _ (List.mem_append_right _ (List.mem_append_left _ h))
set_option maxHeartbeats 4000000 in
set_option maxRecDepth 100000 in
/-- bad -/
theorem c_m_bad2 (l : Launch) (dC : Nat → ClassId) (dI : Nat → Nat → Nat) (h0 : Nat) (qfed : Nat) (qf : Nat) (qfd : Nat) (qs : Nat) (qk : Nat) (fs_h0 : List Value) (hF_h0 : mF 89 [(0, .int 0), (18, .int 0), (19, .int 0), (20, .int (-1)), (21, .int 0), (22, .int 0), (23, .int 0), (24, .int 0), (25, .int 0), (27, .int 0), (28, .int 0), (29, .int 0), (35, .int 0), (17, .int (-1)), (26, .ref qfed), (30, .ref qf), (31, .ref qfd), (33, .ref qs), (36, .ref qk)] fs_h0) (sz : Nat) : Met l yX15_bad wv_m_bad2 ({ frames := 0, cells := 0, slots := 0, locals := 0 }) (va_Pc [.ref h0, .int 1, .int 2] (fun U => U.heap.size = sz ∧ va_P (dC, dI) vwCl [(h0, .inr (15, fs_h0))] U.heap ∧ va_K (dC, dI) vwCl [] U ∧ va_D (fun _ => True) [(h0, .inr (15, fs_h0))] ∧ w_N U)) (va_Qi (fun (r : Int32) (_ : Unit) => r = 1) (fun _ t => ∃ (fs_h02 : List Value), va_P (dC, dI) vwCl [(h0, .inr (15, fs_h02))] t.heap ∧ va_K (dC, dI) vwCl [] t ∧ va_D (va_A [(h0, .inr (15, fs_h0))] sz) [(h0, .inr (15, fs_h02))] ∧ mF 89 [(0, .int 2), (18, .int 0), (19, .int 0), (20, .int (-1)), (21, .int 0), (22, .int 0), (23, .int 0), (24, .int 0), (25, .int 0), (27, .int 0), (28, .int 0), (29, .int 0), (35, .int 0), (17, .int (-1)), (26, .ref qfed), (30, .ref qf), (31, .ref qfd), (33, .ref qs), (36, .ref qk)] fs_h02) (va_A [(h0, .inr (15, fs_h0))] sz)) 0 0 (va_A [(h0, .inr (15, fs_h0))] sz) := by
  refine Met.ofW (cc := cX15_bad) (maxL := 3) (ret := (some .boolean)) (by decide) rfl ?_
  intro p e s m args below meth c s₁ B hml hv
  obtain ⟨rfl, hsz, hP, hK, hD0, hN⟩ := hv
  have hx := B.exec
  have hb := B.bytes
  have hr := B.returns
  have hts := atoms_spec (ws := wv_m_bad2) B.pre
  have hown : s.vm.findClass RX15 = some m.cls := findClass_of_methodNamed B.named
  have hlocks := B.notSynchronized
  subst hsz
  have hD := hD0.self (sz := s.heap.size)
  generalize hAe : va_A [(h0, .inr (15, fs_h0))] s.heap.size = A at hD ⊢
  have hA : ∀ q : Nat, s.heap.size ≤ q → A q := fun q h => by rw [← hAe]; exact Or.inr h
  obtain ⟨H, hHe, hP, hS⟩ : ∃ H : Heap, H = s.heap ∧ va_P (dC, dI) vwCl [(h0, .inr (15, fs_h0))] H ∧ va_S A s.heap H [] := ⟨s.heap, rfl, hP, va_S.rf⟩
  have hl := lv_entry ([.ref h0, .int 1, .int 2]) (n := 3) (Nat.le_of_ble_eq_true rfl)
  rw [lg_entry_eq]
  generalize (lg_sl ([.ref h0, .int 1, .int 2]) ++ List.replicate (3 - (lg_sl ([.ref h0, .int 1, .int 2])).length) Slot.unset).toArray = ls at hl ⊢
  have hl : lv_has ls 3 [(0, .ref h0), (1, .int 1), (2, .int 2)] := hl
  rw [← hHe]; clear hHe
  refine lv_iload_n hx hb dX15_bad_0 rfl (lv_at hl 1 rfl) ?_
  refine lv_if_eq (tgt := 16) hx hb dX15_bad_1 (by decide) (fun hc => absurd hc (by decide)) (fun _ => ?_)
  refine lv_aload_n hx hb dX15_bad_4 rfl (lv_at hl 0 rfl) ?_
  refine va_get (D := (dC, dI)) (ci := 15) (v := .int 0) (C := RX15) (T := TX15) (N := 89) hx hb hts (in_m_bad2_X15) hown hK hP 0 rfl rfl 0 (by decide) (hts (.fieldLink RX15 296 "MotionSignsModel" "thrown" "I") (List.mem_of_getElem? (i := 1) rfl)) (fun _ h9 => h9) (mF.get hF_h0 0 rfl) dX15_bad_5 ?_
  refine lv_if_ne (tgt := 16) hx hb dX15_bad_8 (by decide) (fun hc => absurd (by decide) hc) (fun _ => ?_)
  refine lv_aload_n hx hb dX15_bad_11 rfl (lv_at hl 0 rfl) ?_
  refine lv_iload_n hx hb dX15_bad_12 rfl (lv_at hl 2 rfl) ?_
  refine va_put (D := (dC, dI)) (ci := 15) (v := .int 2) (ty := .int) (C := RX15) (T := TX15) (N := 89) hx hb hts (in_m_bad2_X15) tyX15 tyX15_ok nmX15 hown hK hP hD hS 0 rfl rfl 0 (by decide) (hts (.fieldLink RX15 296 "MotionSignsModel" "thrown" "I") (List.mem_of_getElem? (i := 1) rfl)) (fun _ h9 => h9) rfl (tyX15_ok 0 (by decide)) rfl rfl (mF.lt hF_h0 (by decide)) dX15_bad_13 ?_
  clear hP hD hS; try clear H
  intro H locs hP hD hS
  have hF0 := mF.sub (L' := [(18, .int 0), (19, .int 0), (20, .int (-1)), (21, .int 0), (22, .int 0), (23, .int 0), (24, .int 0), (25, .int 0), (27, .int 0), (28, .int 0), (29, .int 0), (35, .int 0), (17, .int (-1)), (26, .ref qfed), (30, .ref qf), (31, .ref qfd), (33, .ref qs), (36, .ref qk)]) hF_h0 [1, 2, 3, 4, 5, 6, 7, 8, 9, 10, 11, 12, 13, 14, 15, 16, 17, 18] rfl
  have hF1 := mF.put hF0 0 (.int 2) (by decide) rfl
  replace hP : va_P (dC, dI) vwCl [(h0, .inr (15, (fs_h0.set 0 (.int 2))))] H := hP
  replace hD : va_D A [(h0, .inr (15, (fs_h0.set 0 (.int 2))))] := hD
  generalize fs_h0.set 0 (.int 2) = fs_1 at hP hD hF1
  replace hF_h0 : mF 89 [(0, .int 2), (18, .int 0), (19, .int 0), (20, .int (-1)), (21, .int 0), (22, .int 0), (23, .int 0), (24, .int 0), (25, .int 0), (27, .int 0), (28, .int 0), (29, .int 0), (35, .int 0), (17, .int (-1)), (26, .ref qfed), (30, .ref qf), (31, .ref qfd), (33, .ref qs), (36, .ref qk)] fs_1 := hF1
  clear hF1 hF0
  replace hP : va_P (dC, dI) vwCl [(h0, .inr (15, fs_1))] H := hP
  replace hD : va_D A [(h0, .inr (15, fs_1))] := hD
  refine lv_aload_n hx hb dX15_bad_16 rfl (lv_at hl 0 rfl) ?_
  refine va_get (D := (dC, dI)) (ci := 15) (v := .int 2) (C := RX15) (T := TX15) (N := 89) hx hb hts (in_m_bad2_X15) hown hK hP 0 rfl rfl 0 (by decide) (hts (.fieldLink RX15 296 "MotionSignsModel" "thrown" "I") (List.mem_of_getElem? (i := 1) rfl)) (fun _ h9 => h9) (mF.get hF_h0 0 rfl) dX15_bad_17 ?_
  refine lv_if_eq (tgt := 27) hx hb dX15_bad_20 (by decide) (fun hc => absurd hc (by decide)) (fun _ => ?_)
  refine lv_iconst (v := 1) hx hb dX15_bad_23 (by decide) ?_
  refine lv_goto (tgt := 28) hx hb dX15_bad_24 (by decide) ?_
  have hP9 := hP.sub (ws' := [(h0, .inr (15, fs_1))]) [0] rfl
  have hD9 := hD.sub (ws' := [(h0, .inr (15, fs_1))]) [0] (by decide) rfl
  have hK9 := hK.sub (tys' := []) [] rfl
  rw [← hAe] at hD9
  refine W.widen (k := 0) (n := 0) (Nat.le_of_ble_eq_true rfl) (Nat.le_of_ble_eq_true rfl) ?_
  subst hAe
  exact (W.zret (v := 1) hx hb hr (by decide) (fun t ht hW => ⟨⟨1, (), rfl, rfl, fs_1, by rw [ht]; exact hP9, va_K.moved hW.alike hK9, hD9, (mF.sub hF_h0 [0, 1, 2, 3, 4, 5, 6, 7, 8, 9, 10, 11, 12, 13, 14, 15, 16, 17, 18] rfl)⟩, hS.F ht⟩) hS.2.2 dX15_bad_28)
def wv_m_bad3 : List Cond := .code yX15_bad cX15_bad 3 (some .boolean) :: ([.fieldLink RX15 296 "MotionSignsModel" "thrown" "I"] ++ (wsX150 ++ ([])))
theorem gw_m_bad3 : wv_m_bad3.all goodWord = true := by decide +kernel
theorem in_m_bad3_X15 : ∀ w ∈ wsX150, w ∈ wv_m_bad3 := fun _ h => List.mem_cons_of_mem _ (List.mem_append_right _ (List.mem_append_left _ h))
set_option maxHeartbeats 4000000 in
set_option maxRecDepth 100000 in
/-- bad -/
theorem c_m_bad3 (l : Launch) (dC : Nat → ClassId) (dI : Nat → Nat → Nat) (h0 : Nat) (qfed : Nat) (qf : Nat) (qfd : Nat) (qs : Nat) (qk : Nat) (fs_h0 : List Value) (hF_h0 : mF 89 [(0, .int 0), (18, .int 0), (19, .int 0), (20, .int (-1)), (21, .int 0), (22, .int 0), (23, .int 0), (24, .int 0), (25, .int 0), (27, .int 0), (28, .int 0), (29, .int 0), (35, .int 0), (17, .int (-1)), (26, .ref qfed), (30, .ref qf), (31, .ref qfd), (33, .ref qs), (36, .ref qk)] fs_h0) (sz : Nat) : Met l yX15_bad wv_m_bad3 ({ frames := 0, cells := 0, slots := 0, locals := 0 }) (va_Pc [.ref h0, .int 1, .int 3] (fun U => U.heap.size = sz ∧ va_P (dC, dI) vwCl [(h0, .inr (15, fs_h0))] U.heap ∧ va_K (dC, dI) vwCl [] U ∧ va_D (fun _ => True) [(h0, .inr (15, fs_h0))] ∧ w_N U)) (va_Qi (fun (r : Int32) (_ : Unit) => r = 1) (fun _ t => ∃ (fs_h02 : List Value), va_P (dC, dI) vwCl [(h0, .inr (15, fs_h02))] t.heap ∧ va_K (dC, dI) vwCl [] t ∧ va_D (va_A [(h0, .inr (15, fs_h0))] sz) [(h0, .inr (15, fs_h02))] ∧ mF 89 [(0, .int 3), (18, .int 0), (19, .int 0), (20, .int (-1)), (21, .int 0), (22, .int 0), (23, .int 0), (24, .int 0), (25, .int 0), (27, .int 0), (28, .int 0), (29, .int 0), (35, .int 0), (17, .int (-1)), (26, .ref qfed), (30, .ref qf), (31, .ref qfd), (33, .ref qs), (36, .ref qk)] fs_h02) (va_A [(h0, .inr (15, fs_h0))] sz)) 0 0 (va_A [(h0, .inr (15, fs_h0))] sz) := by
  refine Met.ofW (cc := cX15_bad) (maxL := 3) (ret := (some .boolean)) (by decide) rfl ?_
  intro p e s m args below meth c s₁ B hml hv
  obtain ⟨rfl, hsz, hP, hK, hD0, hN⟩ := hv
  have hx := B.exec
  have hb := B.bytes
  have hr := B.returns
  have hts := atoms_spec (ws := wv_m_bad3) B.pre
  have hown : s.vm.findClass RX15 = some m.cls := findClass_of_methodNamed B.named
  have hlocks := B.notSynchronized
  subst hsz
  have hD := hD0.self (sz := s.heap.size)
  generalize hAe : va_A [(h0, .inr (15, fs_h0))] s.heap.size = A at hD ⊢
  have hA : ∀ q : Nat, s.heap.size ≤ q → A q := fun q h => by rw [← hAe]; exact Or.inr h
  obtain ⟨H, hHe, hP, hS⟩ : ∃ H : Heap, H = s.heap ∧ va_P (dC, dI) vwCl [(h0, .inr (15, fs_h0))] H ∧ va_S A s.heap H [] := ⟨s.heap, rfl, hP, va_S.rf⟩
  have hl := lv_entry ([.ref h0, .int 1, .int 3]) (n := 3) (Nat.le_of_ble_eq_true rfl)
  rw [lg_entry_eq]
  generalize (lg_sl ([.ref h0, .int 1, .int 3]) ++ List.replicate (3 - (lg_sl ([.ref h0, .int 1, .int 3])).length) Slot.unset).toArray = ls at hl ⊢
  have hl : lv_has ls 3 [(0, .ref h0), (1, .int 1), (2, .int 3)] := hl
  rw [← hHe]; clear hHe
  refine lv_iload_n hx hb dX15_bad_0 rfl (lv_at hl 1 rfl) ?_
  refine lv_if_eq (tgt := 16) hx hb dX15_bad_1 (by decide) (fun hc => absurd hc (by decide)) (fun _ => ?_)
  refine lv_aload_n hx hb dX15_bad_4 rfl (lv_at hl 0 rfl) ?_
  refine va_get (D := (dC, dI)) (ci := 15) (v := .int 0) (C := RX15) (T := TX15) (N := 89) hx hb hts (in_m_bad3_X15) hown hK hP 0 rfl rfl 0 (by decide) (hts (.fieldLink RX15 296 "MotionSignsModel" "thrown" "I") (List.mem_of_getElem? (i := 1) rfl)) (fun _ h9 => h9) (mF.get hF_h0 0 rfl) dX15_bad_5 ?_
  refine lv_if_ne (tgt := 16) hx hb dX15_bad_8 (by decide) (fun hc => absurd (by decide) hc) (fun _ => ?_)
  refine lv_aload_n hx hb dX15_bad_11 rfl (lv_at hl 0 rfl) ?_
  refine lv_iload_n hx hb dX15_bad_12 rfl (lv_at hl 2 rfl) ?_
  refine va_put (D := (dC, dI)) (ci := 15) (v := .int 3) (ty := .int) (C := RX15) (T := TX15) (N := 89) hx hb hts (in_m_bad3_X15) tyX15 tyX15_ok nmX15 hown hK hP hD hS 0 rfl rfl 0 (by decide) (hts (.fieldLink RX15 296 "MotionSignsModel" "thrown" "I") (List.mem_of_getElem? (i := 1) rfl)) (fun _ h9 => h9) rfl (tyX15_ok 0 (by decide)) rfl rfl (mF.lt hF_h0 (by decide)) dX15_bad_13 ?_
  clear hP hD hS; try clear H
  intro H locs hP hD hS
  have hF0 := mF.sub (L' := [(18, .int 0), (19, .int 0), (20, .int (-1)), (21, .int 0), (22, .int 0), (23, .int 0), (24, .int 0), (25, .int 0), (27, .int 0), (28, .int 0), (29, .int 0), (35, .int 0), (17, .int (-1)), (26, .ref qfed), (30, .ref qf), (31, .ref qfd), (33, .ref qs), (36, .ref qk)]) hF_h0 [1, 2, 3, 4, 5, 6, 7, 8, 9, 10, 11, 12, 13, 14, 15, 16, 17, 18] rfl
  have hF1 := mF.put hF0 0 (.int 3) (by decide) rfl
  replace hP : va_P (dC, dI) vwCl [(h0, .inr (15, (fs_h0.set 0 (.int 3))))] H := hP
  replace hD : va_D A [(h0, .inr (15, (fs_h0.set 0 (.int 3))))] := hD
  generalize fs_h0.set 0 (.int 3) = fs_1 at hP hD hF1
  replace hF_h0 : mF 89 [(0, .int 3), (18, .int 0), (19, .int 0), (20, .int (-1)), (21, .int 0), (22, .int 0), (23, .int 0), (24, .int 0), (25, .int 0), (27, .int 0), (28, .int 0), (29, .int 0), (35, .int 0), (17, .int (-1)), (26, .ref qfed), (30, .ref qf), (31, .ref qfd), (33, .ref qs), (36, .ref qk)] fs_1 := hF1
  clear hF1 hF0
  replace hP : va_P (dC, dI) vwCl [(h0, .inr (15, fs_1))] H := hP
  replace hD : va_D A [(h0, .inr (15, fs_1))] := hD
  refine lv_aload_n hx hb dX15_bad_16 rfl (lv_at hl 0 rfl) ?_
  refine va_get (D := (dC, dI)) (ci := 15) (v := .int 3) (C := RX15) (T := TX15) (N := 89) hx hb hts (in_m_bad3_X15) hown hK hP 0 rfl rfl 0 (by decide) (hts (.fieldLink RX15 296 "MotionSignsModel" "thrown" "I") (List.mem_of_getElem? (i := 1) rfl)) (fun _ h9 => h9) (mF.get hF_h0 0 rfl) dX15_bad_17 ?_
  refine lv_if_eq (tgt := 27) hx hb dX15_bad_20 (by decide) (fun hc => absurd hc (by decide)) (fun _ => ?_)
  refine lv_iconst (v := 1) hx hb dX15_bad_23 (by decide) ?_
  refine lv_goto (tgt := 28) hx hb dX15_bad_24 (by decide) ?_
  have hP9 := hP.sub (ws' := [(h0, .inr (15, fs_1))]) [0] rfl
  have hD9 := hD.sub (ws' := [(h0, .inr (15, fs_1))]) [0] (by decide) rfl
  have hK9 := hK.sub (tys' := []) [] rfl
  rw [← hAe] at hD9
  refine W.widen (k := 0) (n := 0) (Nat.le_of_ble_eq_true rfl) (Nat.le_of_ble_eq_true rfl) ?_
  subst hAe
  exact (W.zret (v := 1) hx hb hr (by decide) (fun t ht hW => ⟨⟨1, (), rfl, rfl, fs_1, by rw [ht]; exact hP9, va_K.moved hW.alike hK9, hD9, (mF.sub hF_h0 [0, 1, 2, 3, 4, 5, 6, 7, 8, 9, 10, 11, 12, 13, 14, 15, 16, 17, 18] rfl)⟩, hS.F ht⟩) hS.2.2 dX15_bad_28)
def wv_m_bad0 : List Cond := .code yX15_bad cX15_bad 3 (some .boolean) :: ([.fieldLink RX15 296 "MotionSignsModel" "thrown" "I"] ++ (wsX150 ++ ([])))
theorem gw_m_bad0 : wv_m_bad0.all goodWord = true := by decide +kernel
theorem in_m_bad0_X15 : ∀ w ∈ wsX150, w ∈ wv_m_bad0 := fun _ h => List.mem_cons_of_mem _ (List.mem_append_right _ (List.mem_append_left _ h))
set_option maxHeartbeats 4000000 in
set_option maxRecDepth 100000 in
/-- bad -/
theorem c_m_bad0 (l : Launch) (dC : Nat → ClassId) (dI : Nat → Nat → Nat) (h0 : Nat) (w : Int32) (fs_h0 : List Value) (hF_h0 : mF 89 [(0, .int 0)] fs_h0) (sz : Nat) : Met l yX15_bad wv_m_bad0 ({ frames := 0, cells := 0, slots := 0, locals := 0 }) (va_Pc [.ref h0, .int 0, .int w] (fun U => U.heap.size = sz ∧ va_P (dC, dI) vwCl [(h0, .inr (15, fs_h0))] U.heap ∧ va_K (dC, dI) vwCl [] U ∧ va_D (fun _ => True) [(h0, .inr (15, fs_h0))] ∧ w_N U)) (va_Qi (fun (r : Int32) (_ : Unit) => r = 0) (fun _ t => va_P (dC, dI) vwCl [(h0, .inr (15, fs_h0))] t.heap ∧ va_K (dC, dI) vwCl [] t ∧ va_D (va_A [(h0, .inr (15, fs_h0))] sz) [(h0, .inr (15, fs_h0))]) (va_A [(h0, .inr (15, fs_h0))] sz)) 0 0 (va_A [(h0, .inr (15, fs_h0))] sz) := by
  refine Met.ofW (cc := cX15_bad) (maxL := 3) (ret := (some .boolean)) (by decide) rfl ?_
  intro p e s m args below meth c s₁ B hml hv
  obtain ⟨rfl, hsz, hP, hK, hD0, hN⟩ := hv
  have hx := B.exec
  have hb := B.bytes
  have hr := B.returns
  have hts := atoms_spec (ws := wv_m_bad0) B.pre
  have hown : s.vm.findClass RX15 = some m.cls := findClass_of_methodNamed B.named
  have hlocks := B.notSynchronized
  subst hsz
  have hD := hD0.self (sz := s.heap.size)
  generalize hAe : va_A [(h0, .inr (15, fs_h0))] s.heap.size = A at hD ⊢
  have hA : ∀ q : Nat, s.heap.size ≤ q → A q := fun q h => by rw [← hAe]; exact Or.inr h
  obtain ⟨H, hHe, hP, hS⟩ : ∃ H : Heap, H = s.heap ∧ va_P (dC, dI) vwCl [(h0, .inr (15, fs_h0))] H ∧ va_S A s.heap H [] := ⟨s.heap, rfl, hP, va_S.rf⟩
  have hl := lv_entry ([.ref h0, .int 0, .int w]) (n := 3) (Nat.le_of_ble_eq_true rfl)
  rw [lg_entry_eq]
  generalize (lg_sl ([.ref h0, .int 0, .int w]) ++ List.replicate (3 - (lg_sl ([.ref h0, .int 0, .int w])).length) Slot.unset).toArray = ls at hl ⊢
  have hl : lv_has ls 3 [(0, .ref h0), (1, .int 0), (2, .int w)] := hl
  rw [← hHe]; clear hHe
  refine lv_iload_n hx hb dX15_bad_0 rfl (lv_at hl 1 rfl) ?_
  refine lv_if_eq (tgt := 16) hx hb dX15_bad_1 (by decide) (fun _ => ?_) (fun hc => absurd (by decide) hc)
  refine lv_aload_n hx hb dX15_bad_16 rfl (lv_at hl 0 rfl) ?_
  refine va_get (D := (dC, dI)) (ci := 15) (v := .int 0) (C := RX15) (T := TX15) (N := 89) hx hb hts (in_m_bad0_X15) hown hK hP 0 rfl rfl 0 (by decide) (hts (.fieldLink RX15 296 "MotionSignsModel" "thrown" "I") (List.mem_of_getElem? (i := 1) rfl)) (fun _ h9 => h9) (mF.get hF_h0 0 rfl) dX15_bad_17 ?_
  refine lv_if_eq (tgt := 27) hx hb dX15_bad_20 (by decide) (fun _ => ?_) (fun hc => absurd (by decide) hc)
  refine lv_iconst (v := 0) hx hb dX15_bad_27 (by decide) ?_
  have hP9 := hP.sub (ws' := [(h0, .inr (15, fs_h0))]) [0] rfl
  have hD9 := hD.sub (ws' := [(h0, .inr (15, fs_h0))]) [0] (by decide) rfl
  have hK9 := hK.sub (tys' := []) [] rfl
  rw [← hAe] at hD9
  refine W.widen (k := 0) (n := 0) (Nat.le_of_ble_eq_true rfl) (Nat.le_of_ble_eq_true rfl) ?_
  subst hAe
  exact (W.zret (v := 0) hx hb hr (by decide) (fun t ht hW => ⟨⟨0, (), rfl, rfl, by rw [ht]; exact hP9, va_K.moved hW.alike hK9, hD9⟩, hS.F ht⟩) hS.2.2 dX15_bad_28)
def wv_m_in : List Cond := .code yX15_in cX15_in 3 (some .boolean) :: ([] ++ ([]))
theorem gw_m_in : wv_m_in.all goodWord = true := by decide +kernel
set_option maxHeartbeats 4000000 in
set_option maxRecDepth 100000 in
/-- in -/
theorem c_m_in (l : Launch) (dC : Nat → ClassId) (dI : Nat → Nat → Nat) (v : Int32) (lo : Int32) (hi : Int32) (sz : Nat) : Met l yX15_in wv_m_in ({ frames := 0, cells := 0, slots := 0, locals := 0 }) (va_Pc [.int v, .int lo, .int hi] (fun U => U.heap.size = sz ∧ va_P (dC, dI) vwCl [] U.heap ∧ va_K (dC, dI) vwCl [] U ∧ va_D (fun _ => True) [] ∧ w_N U)) (va_Qi (fun (r : Int32) (_ : Unit) => (r = 1 ∧ kIn v lo hi) ∨ (r = 0 ∧ ¬ kIn v lo hi)) (fun _ t => va_P (dC, dI) vwCl [] t.heap ∧ va_K (dC, dI) vwCl [] t ∧ va_D (va_A [] sz) []) (va_A [] sz)) 0 0 (va_A [] sz) := by
  refine Met.ofW (cc := cX15_in) (maxL := 3) (ret := (some .boolean)) (by decide) rfl ?_
  intro p e s m args below meth c s₁ B hml hv
  obtain ⟨rfl, hsz, hP, hK, hD0, hN⟩ := hv
  have hx := B.exec
  have hb := B.bytes
  have hr := B.returns
  have hts := atoms_spec (ws := wv_m_in) B.pre
  have hown : s.vm.findClass RX15 = some m.cls := findClass_of_methodNamed B.named
  have hlocks := B.notSynchronized
  subst hsz
  have hD := hD0.self (sz := s.heap.size)
  generalize hAe : va_A [] s.heap.size = A at hD ⊢
  have hA : ∀ q : Nat, s.heap.size ≤ q → A q := fun q h => by rw [← hAe]; exact Or.inr h
  obtain ⟨H, hHe, hP, hS⟩ : ∃ H : Heap, H = s.heap ∧ va_P (dC, dI) vwCl [] H ∧ va_S A s.heap H [] := ⟨s.heap, rfl, hP, va_S.rf⟩
  have hl := lv_entry ([.int v, .int lo, .int hi]) (n := 3) (Nat.le_of_ble_eq_true rfl)
  rw [lg_entry_eq]
  generalize (lg_sl ([.int v, .int lo, .int hi]) ++ List.replicate (3 - (lg_sl ([.int v, .int lo, .int hi])).length) Slot.unset).toArray = ls at hl ⊢
  have hl : lv_has ls 3 [(0, .int v), (1, .int lo), (2, .int hi)] := hl
  rw [← hHe]; clear hHe
  refine lv_iload_n hx hb dX15_in_0 rfl (lv_at hl 0 rfl) ?_
  refine lv_iload_n hx hb dX15_in_1 rfl (lv_at hl 1 rfl) ?_
  refine lv_icmp_lt (tgt := 14) hx hb dX15_in_2 (by decide) (fun hc_1 => ?_) (fun hc_1 => ?_)
  · skip
    refine lv_iconst (v := 0) hx hb dX15_in_14 (by decide) ?_
    have hP9 := hP.sub (ws' := []) [] rfl
    have hD9 := hD.sub (ws' := []) [] (by decide) rfl
    have hK9 := hK.sub (tys' := []) [] rfl
    rw [← hAe] at hD9
    refine W.widen (k := 0) (n := 0) (Nat.le_of_ble_eq_true rfl) (Nat.le_of_ble_eq_true rfl) ?_
    subst hAe
    exact (W.zret (v := 0) hx hb hr (by decide) (fun t ht hW => ⟨⟨0, (), rfl, Or.inr ⟨rfl, fun h9 => h9.1 hc_1⟩, by rw [ht]; exact hP9, va_K.moved hW.alike hK9, hD9⟩, hS.F ht⟩) hS.2.2 dX15_in_15)
  · skip
    refine lv_iload_n hx hb dX15_in_5 rfl (lv_at hl 0 rfl) ?_
    refine lv_iload_n hx hb dX15_in_6 rfl (lv_at hl 2 rfl) ?_
    refine lv_icmp_gt (tgt := 14) hx hb dX15_in_7 (by decide) (fun hc_2 => ?_) (fun hc_2 => ?_)
    · skip
      refine lv_iconst (v := 0) hx hb dX15_in_14 (by decide) ?_
      have hP9 := hP.sub (ws' := []) [] rfl
      have hD9 := hD.sub (ws' := []) [] (by decide) rfl
      have hK9 := hK.sub (tys' := []) [] rfl
      rw [← hAe] at hD9
      refine W.widen (k := 0) (n := 0) (Nat.le_of_ble_eq_true rfl) (Nat.le_of_ble_eq_true rfl) ?_
      subst hAe
      exact (W.zret (v := 0) hx hb hr (by decide) (fun t ht hW => ⟨⟨0, (), rfl, Or.inr ⟨rfl, fun h9 => h9.2 hc_2⟩, by rw [ht]; exact hP9, va_K.moved hW.alike hK9, hD9⟩, hS.F ht⟩) hS.2.2 dX15_in_15)
    · skip
      refine lv_iconst (v := 1) hx hb dX15_in_10 (by decide) ?_
      refine lv_goto (tgt := 15) hx hb dX15_in_11 (by decide) ?_
      have hP9 := hP.sub (ws' := []) [] rfl
      have hD9 := hD.sub (ws' := []) [] (by decide) rfl
      have hK9 := hK.sub (tys' := []) [] rfl
      rw [← hAe] at hD9
      refine W.widen (k := 0) (n := 0) (Nat.le_of_ble_eq_true rfl) (Nat.le_of_ble_eq_true rfl) ?_
      subst hAe
      exact (W.zret (v := 1) hx hb hr (by decide) (fun t ht hW => ⟨⟨1, (), rfl, Or.inl ⟨rfl, hc_1, hc_2⟩, by rw [ht]; exact hP9, va_K.moved hW.alike hK9, hD9⟩, hS.F ht⟩) hS.2.2 dX15_in_15)
def wv_m_thrown : List Cond := .code yX15_thrown cX15_thrown 1 (some .int) :: ([.fieldLink RX15 296 "MotionSignsModel" "thrown" "I"] ++ (wsX150 ++ ([])))
theorem gw_m_thrown : wv_m_thrown.all goodWord = true := by decide +kernel
theorem in_m_thrown_X15 : ∀ w ∈ wsX150, w ∈ wv_m_thrown := fun _ h => List.mem_cons_of_mem _ (List.mem_append_right _ (List.mem_append_left _ h))
set_option maxHeartbeats 4000000 in
set_option maxRecDepth 100000 in
/-- thrown -/
theorem c_m_thrown (l : Launch) (dC : Nat → ClassId) (dI : Nat → Nat → Nat) (h0 : Nat) (th : Int32) (fs_h0 : List Value) (hF_h0 : mF 89 [(0, .int th)] fs_h0) (sz : Nat) : Met l yX15_thrown wv_m_thrown ({ frames := 0, cells := 0, slots := 0, locals := 0 }) (va_Pc [.ref h0] (fun U => U.heap.size = sz ∧ va_P (dC, dI) vwCl [(h0, .inr (15, fs_h0))] U.heap ∧ va_K (dC, dI) vwCl [] U ∧ va_D (fun _ => True) [(h0, .inr (15, fs_h0))] ∧ w_N U)) (va_Qi (fun (r : Int32) (_ : Unit) => r = th) (fun _ t => va_P (dC, dI) vwCl [] t.heap ∧ va_K (dC, dI) vwCl [] t ∧ va_D (va_A [(h0, .inr (15, fs_h0))] sz) []) (va_A [(h0, .inr (15, fs_h0))] sz)) 0 0 (va_A [(h0, .inr (15, fs_h0))] sz) := by
  refine Met.ofW (cc := cX15_thrown) (maxL := 1) (ret := (some .int)) (by decide) rfl ?_
  intro p e s m args below meth c s₁ B hml hv
  obtain ⟨rfl, hsz, hP, hK, hD0, hN⟩ := hv
  have hx := B.exec
  have hb := B.bytes
  have hr := B.returns
  have hts := atoms_spec (ws := wv_m_thrown) B.pre
  have hown : s.vm.findClass RX15 = some m.cls := findClass_of_methodNamed B.named
  have hlocks := B.notSynchronized
  subst hsz
  have hD := hD0.self (sz := s.heap.size)
  generalize hAe : va_A [(h0, .inr (15, fs_h0))] s.heap.size = A at hD ⊢
  have hA : ∀ q : Nat, s.heap.size ≤ q → A q := fun q h => by rw [← hAe]; exact Or.inr h
  obtain ⟨H, hHe, hP, hS⟩ : ∃ H : Heap, H = s.heap ∧ va_P (dC, dI) vwCl [(h0, .inr (15, fs_h0))] H ∧ va_S A s.heap H [] := ⟨s.heap, rfl, hP, va_S.rf⟩
  have hl := lv_entry ([.ref h0]) (n := 1) (Nat.le_of_ble_eq_true rfl)
  rw [lg_entry_eq]
  generalize (lg_sl ([.ref h0]) ++ List.replicate (1 - (lg_sl ([.ref h0])).length) Slot.unset).toArray = ls at hl ⊢
  have hl : lv_has ls 1 [(0, .ref h0)] := hl
  rw [← hHe]; clear hHe
  refine lv_aload_n hx hb dX15_thrown_0 rfl (lv_at hl 0 rfl) ?_
  refine va_get (D := (dC, dI)) (ci := 15) (v := .int th) (C := RX15) (T := TX15) (N := 89) hx hb hts (in_m_thrown_X15) hown hK hP 0 rfl rfl 0 (by decide) (hts (.fieldLink RX15 296 "MotionSignsModel" "thrown" "I") (List.mem_of_getElem? (i := 1) rfl)) (fun _ h9 => h9) (mF.get hF_h0 0 rfl) dX15_thrown_1 ?_
  have hP9 := hP.sub (ws' := []) [] rfl
  have hD9 := hD.sub (ws' := []) [] (by decide) rfl
  have hK9 := hK.sub (tys' := []) [] rfl
  rw [← hAe] at hD9
  refine W.widen (k := 0) (n := 0) (Nat.le_of_ble_eq_true rfl) (Nat.le_of_ble_eq_true rfl) ?_
  subst hAe
  exact (W.iret (v := th) hx hb hr (fun t ht hW => ⟨⟨th, (), rfl, rfl, by rw [ht]; exact hP9, va_K.moved hW.alike hK9, hD9⟩, hS.F ht⟩) hS.2.2 dX15_thrown_4)
def wv_m_rest : List Cond := .code yX15_rest cX15_rest 2 (some .int) :: ([.fieldLink RX15 296 "MotionSignsModel" "thrown" "I", .fieldLink RX15 443 "MotionSignsModel" "kind" "I", .methodLink RX15 424 yX15_bad, .instanceMethod yX15_bad, .selects RX15 yX15_bad yX15_bad, .initialized RX15] ++ (wsX150 ++ (wv_m_bad2 ++ ([]))))
theorem gw_m_rest : wv_m_rest.all goodWord = true := by decide +kernel
theorem in_m_rest_X15 : ∀ w ∈ wsX150, w ∈ wv_m_rest := fun _ h => List.mem_cons_of_mem _ (List.mem_append_right _ (List.mem_append_left _ h))
theorem g_m_rest_m_bad2_424 : GoodIn wv_m_rest (wsV RX15 424 RX15 yX15_bad wv_m_bad2) := goodIn_app (goodIn_of _ (by decide +kernel)) (goodIn_sub (fun _ h => List.mem_cons_of_mem _ (List.mem_append_right _ (List.mem_append_right _ (List.mem_append_left _ h)))) gw_m_bad2)
set_option maxHeartbeats 4000000 in
set_option maxRecDepth 100000 in
/-- the reference: rest on a fresh object -/
theorem c_m_rest (l : Launch) (dC : Nat → ClassId) (dI : Nat → Nat → Nat) (h0 : Nat) (qfed : Nat) (qf : Nat) (qfd : Nat) (qs : Nat) (qk : Nat) (x0 : Int32) (fs_h0 : List Value) (hF_h0 : mF 89 [(0, .int 0), (18, .int 0), (19, .int 0), (20, .int (-1)), (21, .int 0), (22, .int 0), (23, .int 0), (24, .int 0), (25, .int 0), (27, .int 0), (28, .int 0), (29, .int 0), (35, .int 0), (17, .int (-1)), (26, .ref qfed), (30, .ref qf), (31, .ref qfd), (33, .ref qs), (36, .ref qk)] fs_h0) (sz : Nat) : Met l yX15_rest wv_m_rest ({ frames := 1, cells := 0, slots := 0, locals := 22 }) (va_Pc [.ref h0, .int x0] (fun U => U.heap.size = sz ∧ va_P (dC, dI) vwCl [(h0, .inr (15, fs_h0))] U.heap ∧ va_K (dC, dI) vwCl [] U ∧ va_D (fun _ => True) [(h0, .inr (15, fs_h0))] ∧ w_N U)) (va_Qi (fun (r : Int32) (_ : Unit) => True) (fun _ t => ∃ (fs_e : List Value), va_P (dC, dI) vwCl [(h0, .inr (15, fs_e))] t.heap ∧ va_K (dC, dI) vwCl [] t ∧ va_D (va_A [(h0, .inr (15, fs_h0))] sz) [(h0, .inr (15, fs_e))] ∧ mF 89 [(0, .int 2)] fs_e) (va_A [(h0, .inr (15, fs_h0))] sz)) 0 0 (va_A [(h0, .inr (15, fs_h0))] sz) := by
  refine Met.ofW (cc := cX15_rest) (maxL := 2) (ret := (some .int)) (by decide) rfl ?_
  intro p e s m args below meth c s₁ B hml hv
  obtain ⟨rfl, hsz, hP, hK, hD0, hN⟩ := hv
  have hx := B.exec
  have hb := B.bytes
  have hr := B.returns
  have hts := atoms_spec (ws := wv_m_rest) B.pre
  have hown : s.vm.findClass RX15 = some m.cls := findClass_of_methodNamed B.named
  have hlocks := B.notSynchronized
  subst hsz
  have hD := hD0.self (sz := s.heap.size)
  generalize hAe : va_A [(h0, .inr (15, fs_h0))] s.heap.size = A at hD ⊢
  have hA : ∀ q : Nat, s.heap.size ≤ q → A q := fun q h => by rw [← hAe]; exact Or.inr h
  obtain ⟨H, hHe, hP, hS⟩ : ∃ H : Heap, H = s.heap ∧ va_P (dC, dI) vwCl [(h0, .inr (15, fs_h0))] H ∧ va_S A s.heap H [] := ⟨s.heap, rfl, hP, va_S.rf⟩
  have hl := lv_entry ([.ref h0, .int x0]) (n := 2) (Nat.le_of_ble_eq_true rfl)
  rw [lg_entry_eq]
  generalize (lg_sl ([.ref h0, .int x0]) ++ List.replicate (2 - (lg_sl ([.ref h0, .int x0])).length) Slot.unset).toArray = ls at hl ⊢
  have hl : lv_has ls 2 [(0, .ref h0), (1, .int x0)] := hl
  rw [← hHe]; clear hHe
  refine lv_aload_n hx hb dX15_rest_0 rfl (lv_at hl 0 rfl) ?_
  refine lv_iconst (v := 0) hx hb dX15_rest_1 (by decide) ?_
  refine va_put (D := (dC, dI)) (ci := 15) (v := .int 0) (ty := .int) (C := RX15) (T := TX15) (N := 89) hx hb hts (in_m_rest_X15) tyX15 tyX15_ok nmX15 hown hK hP hD hS 0 rfl rfl 0 (by decide) (hts (.fieldLink RX15 296 "MotionSignsModel" "thrown" "I") (List.mem_of_getElem? (i := 1) rfl)) (fun _ h9 => h9) rfl (tyX15_ok 0 (by decide)) rfl rfl (mF.lt hF_h0 (by decide)) dX15_rest_2 ?_
  clear hP hD hS; try clear H
  intro H locs hP hD hS
  have hF0 := mF.sub (L' := [(18, .int 0), (19, .int 0), (20, .int (-1)), (21, .int 0), (22, .int 0), (23, .int 0), (24, .int 0), (25, .int 0), (27, .int 0), (28, .int 0), (29, .int 0), (35, .int 0), (17, .int (-1)), (26, .ref qfed), (30, .ref qf), (31, .ref qfd), (33, .ref qs), (36, .ref qk)]) hF_h0 [1, 2, 3, 4, 5, 6, 7, 8, 9, 10, 11, 12, 13, 14, 15, 16, 17, 18] rfl
  have hF1 := mF.put hF0 0 (.int 0) (by decide) rfl
  replace hP : va_P (dC, dI) vwCl [(h0, .inr (15, (fs_h0.set 0 (.int 0))))] H := hP
  replace hD : va_D A [(h0, .inr (15, (fs_h0.set 0 (.int 0))))] := hD
  generalize fs_h0.set 0 (.int 0) = fs_1 at hP hD hF1
  replace hF_h0 : mF 89 [(0, .int 0), (18, .int 0), (19, .int 0), (20, .int (-1)), (21, .int 0), (22, .int 0), (23, .int 0), (24, .int 0), (25, .int 0), (27, .int 0), (28, .int 0), (29, .int 0), (35, .int 0), (17, .int (-1)), (26, .ref qfed), (30, .ref qf), (31, .ref qfd), (33, .ref qs), (36, .ref qk)] fs_1 := hF1
  clear hF1 hF0
  replace hP : va_P (dC, dI) vwCl [(h0, .inr (15, fs_1))] H := hP
  replace hD : va_D A [(h0, .inr (15, fs_1))] := hD
  refine lv_aload_n hx hb dX15_rest_5 rfl (lv_at hl 0 rfl) ?_
  refine lv_aload_n hx hb dX15_rest_6 rfl (lv_at hl 0 rfl) ?_
  refine va_get (D := (dC, dI)) (ci := 15) (v := .int 0) (C := RX15) (T := TX15) (N := 89) hx hb hts (in_m_rest_X15) hown hK hP 0 rfl rfl 28 (by decide) (hts (.fieldLink RX15 443 "MotionSignsModel" "kind" "I") (List.mem_of_getElem? (i := 2) rfl)) (fun _ h9 => h9) (mF.get hF_h0 10 rfl) dX15_rest_7 ?_
  refine lv_if_ne (tgt := 17) hx hb dX15_rest_10 (by decide) (fun hc => absurd (by decide) hc) (fun _ => ?_)
  refine lv_iconst (v := 1) hx hb dX15_rest_13 (by decide) ?_
  refine lv_goto (tgt := 18) hx hb dX15_rest_14 (by decide) ?_
  refine lv_iconst (v := 2) hx hb dX15_rest_18 (by decide) ?_
  have hPc := hP.sub (ws' := [(h0, .inr (15, fs_1))]) [0] rfl
  have hDc := hD.sub (ws' := [(h0, .inr (15, fs_1))]) [0] (by decide) rfl
  have hKc := hK.sub (tys' := []) [] rfl
  have hFc := va_free (wc := [(h0, .inr (15, fs_1))]) hD hS hA [0] rfl
  refine va_calli (va_runV (As := [.int 1, .int 2]) (rest := []) ⟨hx, hb, hml, hown, hts⟩ (c_m_bad2 l dC dI h0 qfed qf qfd qs qk fs_1 (mF.sub hF_h0 [0, 1, 2, 3, 4, 5, 6, 7, 8, 9, 10, 11, 12, 13, 14, 15, 16, 17, 18] rfl) H.size) (cwV 2 hts g_m_rest_m_bad2_424 rfl rfl rfl hv_X15_bad ⟨Nat.le_of_ble_eq_true rfl, Nat.le_of_ble_eq_true rfl⟩) ⟨fun a U g mk q => by obtain ⟨q0, q1, qP, qK, qD, qE0⟩ := q; exact ⟨q0, q1, qP, va_K.moved (u := U) (U := U.calling g mk a) (Vm.Alike.refl U.vm) qK, qD, w_N.same rfl qE0⟩, va_recv hKc hPc (ci := 15) (q0 := 0) rfl rfl, fun U hU hW => ⟨rfl, by rw [hU], by rw [hU]; exact hPc, va_K.moved hW.alike hKc, hDc.weaken (fun _ _ _ _ => trivial), w_N.warm hW hN⟩⟩ rfl rfl hl.1 rfl (lv_room (Nat.le_of_ble_eq_true rfl)) dX15_rest_19 ⟨(Nat.le_of_ble_eq_true rfl), (Nat.le_of_ble_eq_true rfl)⟩) hS (fun q _ h => hFc q h) hFc (fun r_2 u t H1 locs1 ht hvm hw hB hz1 hk1 hS1 => ?_)
  obtain ⟨fs_3, hP1, hK1, hD1, hp_4⟩ := hB
  rw [ht] at hP1
  have hK1 := va_K.moved hvm.symm hK1
  have hJ := va_join (wr := []) (w1 := [(h0, .inr (15, fs_3))]) hP hD [0] [] rfl rfl (by decide) (by decide) hk1 hFc hP1 hD1
  clear hP hD hPc hDc hKc hFc hz1; try clear hk1
  obtain ⟨hP, hD⟩ := hJ
  replace hK := (hK.sub (tys' := []) [] rfl).app (hK1.sub (tys' := []) [] rfl)
  clear hP1 hK1 hD1 hvm ht hS; try clear t
  try clear H
  revert hS1
  intro hS
  generalize H1 = H at hP hS ⊢; try clear H1
  replace hP : va_P (dC, dI) vwCl [(h0, .inr (15, fs_3))] H := hP
  replace hD : va_D A [(h0, .inr (15, fs_3))] := hD
  replace hK : va_K (dC, dI) vwCl [] s := hK
  have hw_5 : r_2 = 1 := hw; clear hw
  subst hw_5
  refine lv_if_ne (tgt := 47) hx hb dX15_rest_22 (by decide) (fun _ => ?_) (fun hc => absurd hc (by decide))
  refine lv_iconst (v := 0) hx hb dX15_rest_47 (by decide) ?_
  have hP9 := hP.sub (ws' := [(h0, .inr (15, fs_3))]) [0] rfl
  have hD9 := hD.sub (ws' := [(h0, .inr (15, fs_3))]) [0] (by decide) rfl
  have hK9 := hK.sub (tys' := []) [] rfl
  rw [← hAe] at hD9
  refine W.widen (k := 0) (n := 0) (Nat.le_of_ble_eq_true rfl) (Nat.le_of_ble_eq_true rfl) ?_
  subst hAe
  exact (W.iret (v := 0) hx hb hr (fun t ht hW => ⟨⟨0, (), rfl, trivial, fs_3, by rw [ht]; exact hP9, va_K.moved hW.alike hK9, hD9, (mF.sub hp_4 [0] rfl)⟩, hS.F ht⟩) hS.2.2 dX15_rest_48)
def wv_m_leaves : List Cond := .code yX15_leaves cX15_leaves 1 (some .boolean) :: ([.fieldLink RX15 296 "MotionSignsModel" "thrown" "I", .fieldLink RX15 443 "MotionSignsModel" "kind" "I", .methodLink RX15 424 yX15_bad, .instanceMethod yX15_bad, .selects RX15 yX15_bad yX15_bad, .initialized RX15] ++ (wsX150 ++ (wv_m_bad1 ++ ([]))))
theorem gw_m_leaves : wv_m_leaves.all goodWord = true := by decide +kernel
theorem in_m_leaves_X15 : ∀ w ∈ wsX150, w ∈ wv_m_leaves := fun _ h => List.mem_cons_of_mem _ (List.mem_append_right _ (List.mem_append_left _ h))
theorem g_m_leaves_m_bad1_424 : GoodIn wv_m_leaves (wsV RX15 424 RX15 yX15_bad wv_m_bad1) := goodIn_app (goodIn_of _ (by decide +kernel)) (goodIn_sub (fun _ h => List.mem_cons_of_mem _ (List.mem_append_right _ (List.mem_append_right _ (List.mem_append_left _ h)))) gw_m_bad1)
set_option maxHeartbeats 4000000 in
set_option maxRecDepth 100000 in
/-- the reference: leaves on a fresh object -/
theorem c_m_leaves (l : Launch) (dC : Nat → ClassId) (dI : Nat → Nat → Nat) (h0 : Nat) (qfed : Nat) (qf : Nat) (qfd : Nat) (qs : Nat) (qk : Nat) (fs_h0 : List Value) (hF_h0 : mF 89 [(0, .int 0), (18, .int 0), (19, .int 0), (20, .int (-1)), (21, .int 0), (22, .int 0), (23, .int 0), (24, .int 0), (25, .int 0), (27, .int 0), (28, .int 0), (29, .int 0), (35, .int 0), (17, .int (-1)), (26, .ref qfed), (30, .ref qf), (31, .ref qfd), (33, .ref qs), (36, .ref qk)] fs_h0) (sz : Nat) : Met l yX15_leaves wv_m_leaves ({ frames := 1, cells := 0, slots := 0, locals := 22 }) (va_Pc [.ref h0] (fun U => U.heap.size = sz ∧ va_P (dC, dI) vwCl [(h0, .inr (15, fs_h0))] U.heap ∧ va_K (dC, dI) vwCl [] U ∧ va_D (fun _ => True) [(h0, .inr (15, fs_h0))] ∧ w_N U)) (va_Qi (fun (r : Int32) (_ : Unit) => True) (fun _ t => ∃ (fs_e : List Value), va_P (dC, dI) vwCl [(h0, .inr (15, fs_e))] t.heap ∧ va_K (dC, dI) vwCl [] t ∧ va_D (va_A [(h0, .inr (15, fs_h0))] sz) [(h0, .inr (15, fs_e))] ∧ mF 89 [(0, .int 1)] fs_e) (va_A [(h0, .inr (15, fs_h0))] sz)) 0 0 (va_A [(h0, .inr (15, fs_h0))] sz) := by
  refine Met.ofW (cc := cX15_leaves) (maxL := 1) (ret := (some .boolean)) (by decide) rfl ?_
  intro p e s m args below meth c s₁ B hml hv
  obtain ⟨rfl, hsz, hP, hK, hD0, hN⟩ := hv
  have hx := B.exec
  have hb := B.bytes
  have hr := B.returns
  have hts := atoms_spec (ws := wv_m_leaves) B.pre
  have hown : s.vm.findClass RX15 = some m.cls := findClass_of_methodNamed B.named
  have hlocks := B.notSynchronized
  subst hsz
  have hD := hD0.self (sz := s.heap.size)
  generalize hAe : va_A [(h0, .inr (15, fs_h0))] s.heap.size = A at hD ⊢
  have hA : ∀ q : Nat, s.heap.size ≤ q → A q := fun q h => by rw [← hAe]; exact Or.inr h
  obtain ⟨H, hHe, hP, hS⟩ : ∃ H : Heap, H = s.heap ∧ va_P (dC, dI) vwCl [(h0, .inr (15, fs_h0))] H ∧ va_S A s.heap H [] := ⟨s.heap, rfl, hP, va_S.rf⟩
  have hl := lv_entry ([.ref h0]) (n := 1) (Nat.le_of_ble_eq_true rfl)
  rw [lg_entry_eq]
  generalize (lg_sl ([.ref h0]) ++ List.replicate (1 - (lg_sl ([.ref h0])).length) Slot.unset).toArray = ls at hl ⊢
  have hl : lv_has ls 1 [(0, .ref h0)] := hl
  rw [← hHe]; clear hHe
  refine lv_aload_n hx hb dX15_leaves_0 rfl (lv_at hl 0 rfl) ?_
  refine lv_iconst (v := 0) hx hb dX15_leaves_1 (by decide) ?_
  refine va_put (D := (dC, dI)) (ci := 15) (v := .int 0) (ty := .int) (C := RX15) (T := TX15) (N := 89) hx hb hts (in_m_leaves_X15) tyX15 tyX15_ok nmX15 hown hK hP hD hS 0 rfl rfl 0 (by decide) (hts (.fieldLink RX15 296 "MotionSignsModel" "thrown" "I") (List.mem_of_getElem? (i := 1) rfl)) (fun _ h9 => h9) rfl (tyX15_ok 0 (by decide)) rfl rfl (mF.lt hF_h0 (by decide)) dX15_leaves_2 ?_
  clear hP hD hS; try clear H
  intro H locs hP hD hS
  have hF0 := mF.sub (L' := [(18, .int 0), (19, .int 0), (20, .int (-1)), (21, .int 0), (22, .int 0), (23, .int 0), (24, .int 0), (25, .int 0), (27, .int 0), (28, .int 0), (29, .int 0), (35, .int 0), (17, .int (-1)), (26, .ref qfed), (30, .ref qf), (31, .ref qfd), (33, .ref qs), (36, .ref qk)]) hF_h0 [1, 2, 3, 4, 5, 6, 7, 8, 9, 10, 11, 12, 13, 14, 15, 16, 17, 18] rfl
  have hF1 := mF.put hF0 0 (.int 0) (by decide) rfl
  replace hP : va_P (dC, dI) vwCl [(h0, .inr (15, (fs_h0.set 0 (.int 0))))] H := hP
  replace hD : va_D A [(h0, .inr (15, (fs_h0.set 0 (.int 0))))] := hD
  generalize fs_h0.set 0 (.int 0) = fs_1 at hP hD hF1
  replace hF_h0 : mF 89 [(0, .int 0), (18, .int 0), (19, .int 0), (20, .int (-1)), (21, .int 0), (22, .int 0), (23, .int 0), (24, .int 0), (25, .int 0), (27, .int 0), (28, .int 0), (29, .int 0), (35, .int 0), (17, .int (-1)), (26, .ref qfed), (30, .ref qf), (31, .ref qfd), (33, .ref qs), (36, .ref qk)] fs_1 := hF1
  clear hF1 hF0
  replace hP : va_P (dC, dI) vwCl [(h0, .inr (15, fs_1))] H := hP
  replace hD : va_D A [(h0, .inr (15, fs_1))] := hD
  refine lv_aload_n hx hb dX15_leaves_5 rfl (lv_at hl 0 rfl) ?_
  refine lv_aload_n hx hb dX15_leaves_6 rfl (lv_at hl 0 rfl) ?_
  refine va_get (D := (dC, dI)) (ci := 15) (v := .int 0) (C := RX15) (T := TX15) (N := 89) hx hb hts (in_m_leaves_X15) hown hK hP 0 rfl rfl 28 (by decide) (hts (.fieldLink RX15 443 "MotionSignsModel" "kind" "I") (List.mem_of_getElem? (i := 2) rfl)) (fun _ h9 => h9) (mF.get hF_h0 10 rfl) dX15_leaves_7 ?_
  refine lv_if_ne (tgt := 17) hx hb dX15_leaves_10 (by decide) (fun hc => absurd (by decide) hc) (fun _ => ?_)
  refine lv_iconst (v := 1) hx hb dX15_leaves_13 (by decide) ?_
  refine lv_goto (tgt := 18) hx hb dX15_leaves_14 (by decide) ?_
  refine lv_iconst (v := 1) hx hb dX15_leaves_18 (by decide) ?_
  have hPc := hP.sub (ws' := [(h0, .inr (15, fs_1))]) [0] rfl
  have hDc := hD.sub (ws' := [(h0, .inr (15, fs_1))]) [0] (by decide) rfl
  have hKc := hK.sub (tys' := []) [] rfl
  have hFc := va_free (wc := [(h0, .inr (15, fs_1))]) hD hS hA [0] rfl
  refine va_calli (va_runV (As := [.int 1, .int 1]) (rest := []) ⟨hx, hb, hml, hown, hts⟩ (c_m_bad1 l dC dI h0 qfed qf qfd qs qk fs_1 (mF.sub hF_h0 [0, 1, 2, 3, 4, 5, 6, 7, 8, 9, 10, 11, 12, 13, 14, 15, 16, 17, 18] rfl) H.size) (cwV 2 hts g_m_leaves_m_bad1_424 rfl rfl rfl hv_X15_bad ⟨Nat.le_of_ble_eq_true rfl, Nat.le_of_ble_eq_true rfl⟩) ⟨fun a U g mk q => by obtain ⟨q0, q1, qP, qK, qD, qE0⟩ := q; exact ⟨q0, q1, qP, va_K.moved (u := U) (U := U.calling g mk a) (Vm.Alike.refl U.vm) qK, qD, w_N.same rfl qE0⟩, va_recv hKc hPc (ci := 15) (q0 := 0) rfl rfl, fun U hU hW => ⟨rfl, by rw [hU], by rw [hU]; exact hPc, va_K.moved hW.alike hKc, hDc.weaken (fun _ _ _ _ => trivial), w_N.warm hW hN⟩⟩ rfl rfl hl.1 rfl (lv_room (Nat.le_of_ble_eq_true rfl)) dX15_leaves_19 ⟨(Nat.le_of_ble_eq_true rfl), (Nat.le_of_ble_eq_true rfl)⟩) hS (fun q _ h => hFc q h) hFc (fun r_2 u t H1 locs1 ht hvm hw hB hz1 hk1 hS1 => ?_)
  obtain ⟨fs_3, hP1, hK1, hD1, hp_4⟩ := hB
  rw [ht] at hP1
  have hK1 := va_K.moved hvm.symm hK1
  have hJ := va_join (wr := []) (w1 := [(h0, .inr (15, fs_3))]) hP hD [0] [] rfl rfl (by decide) (by decide) hk1 hFc hP1 hD1
  clear hP hD hPc hDc hKc hFc hz1; try clear hk1
  obtain ⟨hP, hD⟩ := hJ
  replace hK := (hK.sub (tys' := []) [] rfl).app (hK1.sub (tys' := []) [] rfl)
  clear hP1 hK1 hD1 hvm ht hS; try clear t
  try clear H
  revert hS1
  intro hS
  generalize H1 = H at hP hS ⊢; try clear H1
  replace hP : va_P (dC, dI) vwCl [(h0, .inr (15, fs_3))] H := hP
  replace hD : va_D A [(h0, .inr (15, fs_3))] := hD
  replace hK : va_K (dC, dI) vwCl [] s := hK
  have hw_5 : r_2 = 1 := hw; clear hw
  subst hw_5
  refine lv_if_eq (tgt := 27) hx hb dX15_leaves_22 (by decide) (fun hc => absurd hc (by decide)) (fun _ => ?_)
  refine lv_iconst (v := 0) hx hb dX15_leaves_25 (by decide) ?_
  have hP9 := hP.sub (ws' := [(h0, .inr (15, fs_3))]) [0] rfl
  have hD9 := hD.sub (ws' := [(h0, .inr (15, fs_3))]) [0] (by decide) rfl
  have hK9 := hK.sub (tys' := []) [] rfl
  rw [← hAe] at hD9
  refine W.widen (k := 0) (n := 0) (Nat.le_of_ble_eq_true rfl) (Nat.le_of_ble_eq_true rfl) ?_
  subst hAe
  exact (W.zret (v := 0) hx hb hr (by decide) (fun t ht hW => ⟨⟨0, (), rfl, trivial, fs_3, by rw [ht]; exact hP9, va_K.moved hW.alike hK9, hD9, (mF.sub hp_4 [0] rfl)⟩, hS.F ht⟩) hS.2.2 dX15_leaves_26)
def wv_m_fields : List Cond := .code yX15_fields cX15_fields 2 (some .int) :: ([.fieldLink RX15 296 "MotionSignsModel" "thrown" "I", .fieldLink RX15 443 "MotionSignsModel" "kind" "I", .methodLink RX15 424 yX15_bad, .instanceMethod yX15_bad, .selects RX15 yX15_bad yX15_bad, .initialized RX15] ++ (wsX150 ++ (wv_m_bad2 ++ ([]))))
theorem gw_m_fields : wv_m_fields.all goodWord = true := by decide +kernel
theorem in_m_fields_X15 : ∀ w ∈ wsX150, w ∈ wv_m_fields := fun _ h => List.mem_cons_of_mem _ (List.mem_append_right _ (List.mem_append_left _ h))
theorem g_m_fields_m_bad2_424 : GoodIn wv_m_fields (wsV RX15 424 RX15 yX15_bad wv_m_bad2) := goodIn_app (goodIn_of _ (by decide +kernel)) (goodIn_sub (fun _ h => List.mem_cons_of_mem _ (List.mem_append_right _ (List.mem_append_right _ (List.mem_append_left _ h)))) gw_m_bad2)
set_option maxHeartbeats 4000000 in
set_option maxRecDepth 100000 in
/-- the reference: fields on a fresh object -/
theorem c_m_fields (l : Launch) (dC : Nat → ClassId) (dI : Nat → Nat → Nat) (h0 : Nat) (qfed : Nat) (qf : Nat) (qfd : Nat) (qs : Nat) (qk : Nat) (x0 : Int32) (fs_h0 : List Value) (hF_h0 : mF 89 [(0, .int 0), (18, .int 0), (19, .int 0), (20, .int (-1)), (21, .int 0), (22, .int 0), (23, .int 0), (24, .int 0), (25, .int 0), (27, .int 0), (28, .int 0), (29, .int 0), (35, .int 0), (17, .int (-1)), (26, .ref qfed), (30, .ref qf), (31, .ref qfd), (33, .ref qs), (36, .ref qk)] fs_h0) (sz : Nat) : Met l yX15_fields wv_m_fields ({ frames := 1, cells := 0, slots := 0, locals := 22 }) (va_Pc [.ref h0, .int x0] (fun U => U.heap.size = sz ∧ va_P (dC, dI) vwCl [(h0, .inr (15, fs_h0))] U.heap ∧ va_K (dC, dI) vwCl [] U ∧ va_D (fun _ => True) [(h0, .inr (15, fs_h0))] ∧ w_N U)) (va_Qi (fun (r : Int32) (_ : Unit) => True) (fun _ t => ∃ (fs_e : List Value), va_P (dC, dI) vwCl [(h0, .inr (15, fs_e))] t.heap ∧ va_K (dC, dI) vwCl [] t ∧ va_D (va_A [(h0, .inr (15, fs_h0))] sz) [(h0, .inr (15, fs_e))] ∧ mF 89 [(0, .int 2)] fs_e) (va_A [(h0, .inr (15, fs_h0))] sz)) 0 0 (va_A [(h0, .inr (15, fs_h0))] sz) := by
  refine Met.ofW (cc := cX15_fields) (maxL := 2) (ret := (some .int)) (by decide) rfl ?_
  intro p e s m args below meth c s₁ B hml hv
  obtain ⟨rfl, hsz, hP, hK, hD0, hN⟩ := hv
  have hx := B.exec
  have hb := B.bytes
  have hr := B.returns
  have hts := atoms_spec (ws := wv_m_fields) B.pre
  have hown : s.vm.findClass RX15 = some m.cls := findClass_of_methodNamed B.named
  have hlocks := B.notSynchronized
  subst hsz
  have hD := hD0.self (sz := s.heap.size)
  generalize hAe : va_A [(h0, .inr (15, fs_h0))] s.heap.size = A at hD ⊢
  have hA : ∀ q : Nat, s.heap.size ≤ q → A q := fun q h => by rw [← hAe]; exact Or.inr h
  obtain ⟨H, hHe, hP, hS⟩ : ∃ H : Heap, H = s.heap ∧ va_P (dC, dI) vwCl [(h0, .inr (15, fs_h0))] H ∧ va_S A s.heap H [] := ⟨s.heap, rfl, hP, va_S.rf⟩
  have hl := lv_entry ([.ref h0, .int x0]) (n := 2) (Nat.le_of_ble_eq_true rfl)
  rw [lg_entry_eq]
  generalize (lg_sl ([.ref h0, .int x0]) ++ List.replicate (2 - (lg_sl ([.ref h0, .int x0])).length) Slot.unset).toArray = ls at hl ⊢
  have hl : lv_has ls 2 [(0, .ref h0), (1, .int x0)] := hl
  rw [← hHe]; clear hHe
  refine lv_aload_n hx hb dX15_fields_0 rfl (lv_at hl 0 rfl) ?_
  refine lv_iconst (v := 0) hx hb dX15_fields_1 (by decide) ?_
  refine va_put (D := (dC, dI)) (ci := 15) (v := .int 0) (ty := .int) (C := RX15) (T := TX15) (N := 89) hx hb hts (in_m_fields_X15) tyX15 tyX15_ok nmX15 hown hK hP hD hS 0 rfl rfl 0 (by decide) (hts (.fieldLink RX15 296 "MotionSignsModel" "thrown" "I") (List.mem_of_getElem? (i := 1) rfl)) (fun _ h9 => h9) rfl (tyX15_ok 0 (by decide)) rfl rfl (mF.lt hF_h0 (by decide)) dX15_fields_2 ?_
  clear hP hD hS; try clear H
  intro H locs hP hD hS
  have hF0 := mF.sub (L' := [(18, .int 0), (19, .int 0), (20, .int (-1)), (21, .int 0), (22, .int 0), (23, .int 0), (24, .int 0), (25, .int 0), (27, .int 0), (28, .int 0), (29, .int 0), (35, .int 0), (17, .int (-1)), (26, .ref qfed), (30, .ref qf), (31, .ref qfd), (33, .ref qs), (36, .ref qk)]) hF_h0 [1, 2, 3, 4, 5, 6, 7, 8, 9, 10, 11, 12, 13, 14, 15, 16, 17, 18] rfl
  have hF1 := mF.put hF0 0 (.int 0) (by decide) rfl
  replace hP : va_P (dC, dI) vwCl [(h0, .inr (15, (fs_h0.set 0 (.int 0))))] H := hP
  replace hD : va_D A [(h0, .inr (15, (fs_h0.set 0 (.int 0))))] := hD
  generalize fs_h0.set 0 (.int 0) = fs_1 at hP hD hF1
  replace hF_h0 : mF 89 [(0, .int 0), (18, .int 0), (19, .int 0), (20, .int (-1)), (21, .int 0), (22, .int 0), (23, .int 0), (24, .int 0), (25, .int 0), (27, .int 0), (28, .int 0), (29, .int 0), (35, .int 0), (17, .int (-1)), (26, .ref qfed), (30, .ref qf), (31, .ref qfd), (33, .ref qs), (36, .ref qk)] fs_1 := hF1
  clear hF1 hF0
  replace hP : va_P (dC, dI) vwCl [(h0, .inr (15, fs_1))] H := hP
  replace hD : va_D A [(h0, .inr (15, fs_1))] := hD
  refine lv_aload_n hx hb dX15_fields_5 rfl (lv_at hl 0 rfl) ?_
  refine lv_aload_n hx hb dX15_fields_6 rfl (lv_at hl 0 rfl) ?_
  refine va_get (D := (dC, dI)) (ci := 15) (v := .int 0) (C := RX15) (T := TX15) (N := 89) hx hb hts (in_m_fields_X15) hown hK hP 0 rfl rfl 28 (by decide) (hts (.fieldLink RX15 443 "MotionSignsModel" "kind" "I") (List.mem_of_getElem? (i := 2) rfl)) (fun _ h9 => h9) (mF.get hF_h0 10 rfl) dX15_fields_7 ?_
  refine lv_if_ne (tgt := 17) hx hb dX15_fields_10 (by decide) (fun hc => absurd (by decide) hc) (fun _ => ?_)
  refine lv_iconst (v := 1) hx hb dX15_fields_13 (by decide) ?_
  refine lv_goto (tgt := 18) hx hb dX15_fields_14 (by decide) ?_
  refine lv_iconst (v := 2) hx hb dX15_fields_18 (by decide) ?_
  have hPc := hP.sub (ws' := [(h0, .inr (15, fs_1))]) [0] rfl
  have hDc := hD.sub (ws' := [(h0, .inr (15, fs_1))]) [0] (by decide) rfl
  have hKc := hK.sub (tys' := []) [] rfl
  have hFc := va_free (wc := [(h0, .inr (15, fs_1))]) hD hS hA [0] rfl
  refine va_calli (va_runV (As := [.int 1, .int 2]) (rest := []) ⟨hx, hb, hml, hown, hts⟩ (c_m_bad2 l dC dI h0 qfed qf qfd qs qk fs_1 (mF.sub hF_h0 [0, 1, 2, 3, 4, 5, 6, 7, 8, 9, 10, 11, 12, 13, 14, 15, 16, 17, 18] rfl) H.size) (cwV 2 hts g_m_fields_m_bad2_424 rfl rfl rfl hv_X15_bad ⟨Nat.le_of_ble_eq_true rfl, Nat.le_of_ble_eq_true rfl⟩) ⟨fun a U g mk q => by obtain ⟨q0, q1, qP, qK, qD, qE0⟩ := q; exact ⟨q0, q1, qP, va_K.moved (u := U) (U := U.calling g mk a) (Vm.Alike.refl U.vm) qK, qD, w_N.same rfl qE0⟩, va_recv hKc hPc (ci := 15) (q0 := 0) rfl rfl, fun U hU hW => ⟨rfl, by rw [hU], by rw [hU]; exact hPc, va_K.moved hW.alike hKc, hDc.weaken (fun _ _ _ _ => trivial), w_N.warm hW hN⟩⟩ rfl rfl hl.1 rfl (lv_room (Nat.le_of_ble_eq_true rfl)) dX15_fields_19 ⟨(Nat.le_of_ble_eq_true rfl), (Nat.le_of_ble_eq_true rfl)⟩) hS (fun q _ h => hFc q h) hFc (fun r_2 u t H1 locs1 ht hvm hw hB hz1 hk1 hS1 => ?_)
  obtain ⟨fs_3, hP1, hK1, hD1, hp_4⟩ := hB
  rw [ht] at hP1
  have hK1 := va_K.moved hvm.symm hK1
  have hJ := va_join (wr := []) (w1 := [(h0, .inr (15, fs_3))]) hP hD [0] [] rfl rfl (by decide) (by decide) hk1 hFc hP1 hD1
  clear hP hD hPc hDc hKc hFc hz1; try clear hk1
  obtain ⟨hP, hD⟩ := hJ
  replace hK := (hK.sub (tys' := []) [] rfl).app (hK1.sub (tys' := []) [] rfl)
  clear hP1 hK1 hD1 hvm ht hS; try clear t
  try clear H
  revert hS1
  intro hS
  generalize H1 = H at hP hS ⊢; try clear H1
  replace hP : va_P (dC, dI) vwCl [(h0, .inr (15, fs_3))] H := hP
  replace hD : va_D A [(h0, .inr (15, fs_3))] := hD
  replace hK : va_K (dC, dI) vwCl [] s := hK
  have hw_5 : r_2 = 1 := hw; clear hw
  subst hw_5
  refine lv_if_ne (tgt := 46) hx hb dX15_fields_22 (by decide) (fun _ => ?_) (fun hc => absurd hc (by decide))
  refine lv_iconst (v := 0) hx hb dX15_fields_46 (by decide) ?_
  have hP9 := hP.sub (ws' := [(h0, .inr (15, fs_3))]) [0] rfl
  have hD9 := hD.sub (ws' := [(h0, .inr (15, fs_3))]) [0] (by decide) rfl
  have hK9 := hK.sub (tys' := []) [] rfl
  rw [← hAe] at hD9
  refine W.widen (k := 0) (n := 0) (Nat.le_of_ble_eq_true rfl) (Nat.le_of_ble_eq_true rfl) ?_
  subst hAe
  exact (W.iret (v := 0) hx hb hr (fun t ht hW => ⟨⟨0, (), rfl, trivial, fs_3, by rw [ht]; exact hP9, va_K.moved hW.alike hK9, hD9, (mF.sub hp_4 [0] rfl)⟩, hS.F ht⟩) hS.2.2 dX15_fields_47)
def wv_m_number : List Cond := .code yX15_number cX15_number 8 (some .long) :: ([.fieldLink RX15 296 "MotionSignsModel" "thrown" "I", .fieldLink RX15 443 "MotionSignsModel" "kind" "I", .methodLink RX15 424 yX15_bad, .instanceMethod yX15_bad, .selects RX15 yX15_bad yX15_bad, .initialized RX15] ++ (wsX150 ++ (wv_m_bad3 ++ ([]))))
theorem gw_m_number : wv_m_number.all goodWord = true := by decide +kernel
theorem in_m_number_X15 : ∀ w ∈ wsX150, w ∈ wv_m_number := fun _ h => List.mem_cons_of_mem _ (List.mem_append_right _ (List.mem_append_left _ h))
theorem g_m_number_m_bad3_424 : GoodIn wv_m_number (wsV RX15 424 RX15 yX15_bad wv_m_bad3) := goodIn_app (goodIn_of _ (by decide +kernel)) (goodIn_sub (fun _ h => List.mem_cons_of_mem _ (List.mem_append_right _ (List.mem_append_right _ (List.mem_append_left _ h)))) gw_m_bad3)
set_option maxHeartbeats 4000000 in
set_option maxRecDepth 100000 in
/-- the reference: number on a fresh object -/
theorem c_m_number (l : Launch) (dC : Nat → ClassId) (dI : Nat → Nat → Nat) (h0 : Nat) (qfed : Nat) (qf : Nat) (qfd : Nat) (qs : Nat) (qk : Nat) (x0 : Int32) (x1 : Int32) (x2 : Int32) (x3 : Int32) (fs_h0 : List Value) (hF_h0 : mF 89 [(0, .int 0), (18, .int 0), (19, .int 0), (20, .int (-1)), (21, .int 0), (22, .int 0), (23, .int 0), (24, .int 0), (25, .int 0), (27, .int 0), (28, .int 0), (29, .int 0), (35, .int 0), (17, .int (-1)), (26, .ref qfed), (30, .ref qf), (31, .ref qfd), (33, .ref qs), (36, .ref qk)] fs_h0) (sz : Nat) : Met l yX15_number wv_m_number ({ frames := 1, cells := 0, slots := 0, locals := 22 }) (va_Pc [.ref h0, .int x0, .int x1, .int x2, .int x3] (fun U => U.heap.size = sz ∧ va_P (dC, dI) vwCl [(h0, .inr (15, fs_h0))] U.heap ∧ va_K (dC, dI) vwCl [] U ∧ va_D (fun _ => True) [(h0, .inr (15, fs_h0))] ∧ w_N U)) (va_Ql (fun (r : Int64) (_ : Unit) => True) (fun _ t => ∃ (fs_e : List Value), va_P (dC, dI) vwCl [(h0, .inr (15, fs_e))] t.heap ∧ va_K (dC, dI) vwCl [] t ∧ va_D (va_A [(h0, .inr (15, fs_h0))] sz) [(h0, .inr (15, fs_e))] ∧ mF 89 [(0, .int 3)] fs_e) (va_A [(h0, .inr (15, fs_h0))] sz)) 0 0 (va_A [(h0, .inr (15, fs_h0))] sz) := by
  refine Met.ofW (cc := cX15_number) (maxL := 8) (ret := (some .long)) (by decide) rfl ?_
  intro p e s m args below meth c s₁ B hml hv
  obtain ⟨rfl, hsz, hP, hK, hD0, hN⟩ := hv
  have hx := B.exec
  have hb := B.bytes
  have hr := B.returns
  have hts := atoms_spec (ws := wv_m_number) B.pre
  have hown : s.vm.findClass RX15 = some m.cls := findClass_of_methodNamed B.named
  have hlocks := B.notSynchronized
  subst hsz
  have hD := hD0.self (sz := s.heap.size)
  generalize hAe : va_A [(h0, .inr (15, fs_h0))] s.heap.size = A at hD ⊢
  have hA : ∀ q : Nat, s.heap.size ≤ q → A q := fun q h => by rw [← hAe]; exact Or.inr h
  obtain ⟨H, hHe, hP, hS⟩ : ∃ H : Heap, H = s.heap ∧ va_P (dC, dI) vwCl [(h0, .inr (15, fs_h0))] H ∧ va_S A s.heap H [] := ⟨s.heap, rfl, hP, va_S.rf⟩
  have hl := lv_entry ([.ref h0, .int x0, .int x1, .int x2, .int x3]) (n := 8) (Nat.le_of_ble_eq_true rfl)
  rw [lg_entry_eq]
  generalize (lg_sl ([.ref h0, .int x0, .int x1, .int x2, .int x3]) ++ List.replicate (8 - (lg_sl ([.ref h0, .int x0, .int x1, .int x2, .int x3])).length) Slot.unset).toArray = ls at hl ⊢
  have hl : lv_has ls 8 [(0, .ref h0), (1, .int x0), (2, .int x1), (3, .int x2), (4, .int x3)] := hl
  rw [← hHe]; clear hHe
  refine lv_aload_n hx hb dX15_number_0 rfl (lv_at hl 0 rfl) ?_
  refine lv_iconst (v := 0) hx hb dX15_number_1 (by decide) ?_
  refine va_put (D := (dC, dI)) (ci := 15) (v := .int 0) (ty := .int) (C := RX15) (T := TX15) (N := 89) hx hb hts (in_m_number_X15) tyX15 tyX15_ok nmX15 hown hK hP hD hS 0 rfl rfl 0 (by decide) (hts (.fieldLink RX15 296 "MotionSignsModel" "thrown" "I") (List.mem_of_getElem? (i := 1) rfl)) (fun _ h9 => h9) rfl (tyX15_ok 0 (by decide)) rfl rfl (mF.lt hF_h0 (by decide)) dX15_number_2 ?_
  clear hP hD hS; try clear H
  intro H locs hP hD hS
  have hF0 := mF.sub (L' := [(18, .int 0), (19, .int 0), (20, .int (-1)), (21, .int 0), (22, .int 0), (23, .int 0), (24, .int 0), (25, .int 0), (27, .int 0), (28, .int 0), (29, .int 0), (35, .int 0), (17, .int (-1)), (26, .ref qfed), (30, .ref qf), (31, .ref qfd), (33, .ref qs), (36, .ref qk)]) hF_h0 [1, 2, 3, 4, 5, 6, 7, 8, 9, 10, 11, 12, 13, 14, 15, 16, 17, 18] rfl
  have hF1 := mF.put hF0 0 (.int 0) (by decide) rfl
  replace hP : va_P (dC, dI) vwCl [(h0, .inr (15, (fs_h0.set 0 (.int 0))))] H := hP
  replace hD : va_D A [(h0, .inr (15, (fs_h0.set 0 (.int 0))))] := hD
  generalize fs_h0.set 0 (.int 0) = fs_1 at hP hD hF1
  replace hF_h0 : mF 89 [(0, .int 0), (18, .int 0), (19, .int 0), (20, .int (-1)), (21, .int 0), (22, .int 0), (23, .int 0), (24, .int 0), (25, .int 0), (27, .int 0), (28, .int 0), (29, .int 0), (35, .int 0), (17, .int (-1)), (26, .ref qfed), (30, .ref qf), (31, .ref qfd), (33, .ref qs), (36, .ref qk)] fs_1 := hF1
  clear hF1 hF0
  replace hP : va_P (dC, dI) vwCl [(h0, .inr (15, fs_1))] H := hP
  replace hD : va_D A [(h0, .inr (15, fs_1))] := hD
  refine lv_aload_n hx hb dX15_number_5 rfl (lv_at hl 0 rfl) ?_
  refine lv_aload_n hx hb dX15_number_6 rfl (lv_at hl 0 rfl) ?_
  refine va_get (D := (dC, dI)) (ci := 15) (v := .int 0) (C := RX15) (T := TX15) (N := 89) hx hb hts (in_m_number_X15) hown hK hP 0 rfl rfl 28 (by decide) (hts (.fieldLink RX15 443 "MotionSignsModel" "kind" "I") (List.mem_of_getElem? (i := 2) rfl)) (fun _ h9 => h9) (mF.get hF_h0 10 rfl) dX15_number_7 ?_
  refine lv_if_ne (tgt := 17) hx hb dX15_number_10 (by decide) (fun hc => absurd (by decide) hc) (fun _ => ?_)
  refine lv_iconst (v := 1) hx hb dX15_number_13 (by decide) ?_
  refine lv_goto (tgt := 18) hx hb dX15_number_14 (by decide) ?_
  refine lv_iconst (v := 3) hx hb dX15_number_18 (by decide) ?_
  have hPc := hP.sub (ws' := [(h0, .inr (15, fs_1))]) [0] rfl
  have hDc := hD.sub (ws' := [(h0, .inr (15, fs_1))]) [0] (by decide) rfl
  have hKc := hK.sub (tys' := []) [] rfl
  have hFc := va_free (wc := [(h0, .inr (15, fs_1))]) hD hS hA [0] rfl
  refine va_calli (va_runV (As := [.int 1, .int 3]) (rest := []) ⟨hx, hb, hml, hown, hts⟩ (c_m_bad3 l dC dI h0 qfed qf qfd qs qk fs_1 (mF.sub hF_h0 [0, 1, 2, 3, 4, 5, 6, 7, 8, 9, 10, 11, 12, 13, 14, 15, 16, 17, 18] rfl) H.size) (cwV 2 hts g_m_number_m_bad3_424 rfl rfl rfl hv_X15_bad ⟨Nat.le_of_ble_eq_true rfl, Nat.le_of_ble_eq_true rfl⟩) ⟨fun a U g mk q => by obtain ⟨q0, q1, qP, qK, qD, qE0⟩ := q; exact ⟨q0, q1, qP, va_K.moved (u := U) (U := U.calling g mk a) (Vm.Alike.refl U.vm) qK, qD, w_N.same rfl qE0⟩, va_recv hKc hPc (ci := 15) (q0 := 0) rfl rfl, fun U hU hW => ⟨rfl, by rw [hU], by rw [hU]; exact hPc, va_K.moved hW.alike hKc, hDc.weaken (fun _ _ _ _ => trivial), w_N.warm hW hN⟩⟩ rfl rfl hl.1 rfl (lv_room (Nat.le_of_ble_eq_true rfl)) dX15_number_19 ⟨(Nat.le_of_ble_eq_true rfl), (Nat.le_of_ble_eq_true rfl)⟩) hS (fun q _ h => hFc q h) hFc (fun r_2 u t H1 locs1 ht hvm hw hB hz1 hk1 hS1 => ?_)
  obtain ⟨fs_3, hP1, hK1, hD1, hp_4⟩ := hB
  rw [ht] at hP1
  have hK1 := va_K.moved hvm.symm hK1
  have hJ := va_join (wr := []) (w1 := [(h0, .inr (15, fs_3))]) hP hD [0] [] rfl rfl (by decide) (by decide) hk1 hFc hP1 hD1
  clear hP hD hPc hDc hKc hFc hz1; try clear hk1
  obtain ⟨hP, hD⟩ := hJ
  replace hK := (hK.sub (tys' := []) [] rfl).app (hK1.sub (tys' := []) [] rfl)
  clear hP1 hK1 hD1 hvm ht hS; try clear t
  try clear H
  revert hS1
  intro hS
  generalize H1 = H at hP hS ⊢; try clear H1
  replace hP : va_P (dC, dI) vwCl [(h0, .inr (15, fs_3))] H := hP
  replace hD : va_D A [(h0, .inr (15, fs_3))] := hD
  replace hK : va_K (dC, dI) vwCl [] s := hK
  have hw_5 : r_2 = 1 := hw; clear hw
  subst hw_5
  refine lv_if_ne (tgt := 46) hx hb dX15_number_22 (by decide) (fun _ => ?_) (fun hc => absurd hc (by decide))
  refine lv_lconst (v := 0) hx hb dX15_number_46 (by decide) ?_
  have hP9 := hP.sub (ws' := [(h0, .inr (15, fs_3))]) [0] rfl
  have hD9 := hD.sub (ws' := [(h0, .inr (15, fs_3))]) [0] (by decide) rfl
  have hK9 := hK.sub (tys' := []) [] rfl
  rw [← hAe] at hD9
  refine W.widen (k := 0) (n := 0) (Nat.le_of_ble_eq_true rfl) (Nat.le_of_ble_eq_true rfl) ?_
  subst hAe
  exact (W.lret (v := 0) hx hb hr (fun t ht hW => ⟨⟨0, (), rfl, trivial, fs_3, by rw [ht]; exact hP9, va_K.moved hW.alike hK9, hD9, (mF.sub hp_4 [0] rfl)⟩, hS.F ht⟩) hS.2.2 dX15_number_47)
def wv_m_within : List Cond := .code yX15_within cX15_within 4 (some .boolean) :: ([.fieldLink RX15 296 "MotionSignsModel" "thrown" "I", .fieldLink RX15 443 "MotionSignsModel" "kind" "I", .methodLink RX15 424 yX15_bad, .instanceMethod yX15_bad, .selects RX15 yX15_bad yX15_bad, .initialized RX15] ++ (wsX150 ++ (wv_m_bad2 ++ ([]))))
theorem gw_m_within : wv_m_within.all goodWord = true := by decide +kernel
theorem in_m_within_X15 : ∀ w ∈ wsX150, w ∈ wv_m_within := fun _ h => List.mem_cons_of_mem _ (List.mem_append_right _ (List.mem_append_left _ h))
theorem g_m_within_m_bad2_424 : GoodIn wv_m_within (wsV RX15 424 RX15 yX15_bad wv_m_bad2) := goodIn_app (goodIn_of _ (by decide +kernel)) (goodIn_sub (fun _ h => List.mem_cons_of_mem _ (List.mem_append_right _ (List.mem_append_right _ (List.mem_append_left _ h)))) gw_m_bad2)
set_option maxHeartbeats 4000000 in
set_option maxRecDepth 100000 in
/-- the reference: within on a fresh object -/
theorem c_m_within (l : Launch) (dC : Nat → ClassId) (dI : Nat → Nat → Nat) (h0 : Nat) (qfed : Nat) (qf : Nat) (qfd : Nat) (qs : Nat) (qk : Nat) (x0 : Int32) (fs_h0 : List Value) (hF_h0 : mF 89 [(0, .int 0), (18, .int 0), (19, .int 0), (20, .int (-1)), (21, .int 0), (22, .int 0), (23, .int 0), (24, .int 0), (25, .int 0), (27, .int 0), (28, .int 0), (29, .int 0), (35, .int 0), (17, .int (-1)), (26, .ref qfed), (30, .ref qf), (31, .ref qfd), (33, .ref qs), (36, .ref qk)] fs_h0) (sz : Nat) : Met l yX15_within wv_m_within ({ frames := 1, cells := 0, slots := 0, locals := 22 }) (va_Pc [.ref h0, .int x0] (fun U => U.heap.size = sz ∧ va_P (dC, dI) vwCl [(h0, .inr (15, fs_h0))] U.heap ∧ va_K (dC, dI) vwCl [] U ∧ va_D (fun _ => True) [(h0, .inr (15, fs_h0))] ∧ w_N U)) (va_Qi (fun (r : Int32) (_ : Unit) => True) (fun _ t => ∃ (fs_e : List Value), va_P (dC, dI) vwCl [(h0, .inr (15, fs_e))] t.heap ∧ va_K (dC, dI) vwCl [] t ∧ va_D (va_A [(h0, .inr (15, fs_h0))] sz) [(h0, .inr (15, fs_e))] ∧ mF 89 [(0, .int 2)] fs_e) (va_A [(h0, .inr (15, fs_h0))] sz)) 0 0 (va_A [(h0, .inr (15, fs_h0))] sz) := by
  refine Met.ofW (cc := cX15_within) (maxL := 4) (ret := (some .boolean)) (by decide) rfl ?_
  intro p e s m args below meth c s₁ B hml hv
  obtain ⟨rfl, hsz, hP, hK, hD0, hN⟩ := hv
  have hx := B.exec
  have hb := B.bytes
  have hr := B.returns
  have hts := atoms_spec (ws := wv_m_within) B.pre
  have hown : s.vm.findClass RX15 = some m.cls := findClass_of_methodNamed B.named
  have hlocks := B.notSynchronized
  subst hsz
  have hD := hD0.self (sz := s.heap.size)
  generalize hAe : va_A [(h0, .inr (15, fs_h0))] s.heap.size = A at hD ⊢
  have hA : ∀ q : Nat, s.heap.size ≤ q → A q := fun q h => by rw [← hAe]; exact Or.inr h
  obtain ⟨H, hHe, hP, hS⟩ : ∃ H : Heap, H = s.heap ∧ va_P (dC, dI) vwCl [(h0, .inr (15, fs_h0))] H ∧ va_S A s.heap H [] := ⟨s.heap, rfl, hP, va_S.rf⟩
  have hl := lv_entry ([.ref h0, .int x0]) (n := 4) (Nat.le_of_ble_eq_true rfl)
  rw [lg_entry_eq]
  generalize (lg_sl ([.ref h0, .int x0]) ++ List.replicate (4 - (lg_sl ([.ref h0, .int x0])).length) Slot.unset).toArray = ls at hl ⊢
  have hl : lv_has ls 4 [(0, .ref h0), (1, .int x0)] := hl
  rw [← hHe]; clear hHe
  refine lv_aload_n hx hb dX15_within_0 rfl (lv_at hl 0 rfl) ?_
  refine lv_iconst (v := 0) hx hb dX15_within_1 (by decide) ?_
  refine va_put (D := (dC, dI)) (ci := 15) (v := .int 0) (ty := .int) (C := RX15) (T := TX15) (N := 89) hx hb hts (in_m_within_X15) tyX15 tyX15_ok nmX15 hown hK hP hD hS 0 rfl rfl 0 (by decide) (hts (.fieldLink RX15 296 "MotionSignsModel" "thrown" "I") (List.mem_of_getElem? (i := 1) rfl)) (fun _ h9 => h9) rfl (tyX15_ok 0 (by decide)) rfl rfl (mF.lt hF_h0 (by decide)) dX15_within_2 ?_
  clear hP hD hS; try clear H
  intro H locs hP hD hS
  have hF0 := mF.sub (L' := [(18, .int 0), (19, .int 0), (20, .int (-1)), (21, .int 0), (22, .int 0), (23, .int 0), (24, .int 0), (25, .int 0), (27, .int 0), (28, .int 0), (29, .int 0), (35, .int 0), (17, .int (-1)), (26, .ref qfed), (30, .ref qf), (31, .ref qfd), (33, .ref qs), (36, .ref qk)]) hF_h0 [1, 2, 3, 4, 5, 6, 7, 8, 9, 10, 11, 12, 13, 14, 15, 16, 17, 18] rfl
  have hF1 := mF.put hF0 0 (.int 0) (by decide) rfl
  replace hP : va_P (dC, dI) vwCl [(h0, .inr (15, (fs_h0.set 0 (.int 0))))] H := hP
  replace hD : va_D A [(h0, .inr (15, (fs_h0.set 0 (.int 0))))] := hD
  generalize fs_h0.set 0 (.int 0) = fs_1 at hP hD hF1
  replace hF_h0 : mF 89 [(0, .int 0), (18, .int 0), (19, .int 0), (20, .int (-1)), (21, .int 0), (22, .int 0), (23, .int 0), (24, .int 0), (25, .int 0), (27, .int 0), (28, .int 0), (29, .int 0), (35, .int 0), (17, .int (-1)), (26, .ref qfed), (30, .ref qf), (31, .ref qfd), (33, .ref qs), (36, .ref qk)] fs_1 := hF1
  clear hF1 hF0
  replace hP : va_P (dC, dI) vwCl [(h0, .inr (15, fs_1))] H := hP
  replace hD : va_D A [(h0, .inr (15, fs_1))] := hD
  refine lv_aload_n hx hb dX15_within_5 rfl (lv_at hl 0 rfl) ?_
  refine lv_aload_n hx hb dX15_within_6 rfl (lv_at hl 0 rfl) ?_
  refine va_get (D := (dC, dI)) (ci := 15) (v := .int 0) (C := RX15) (T := TX15) (N := 89) hx hb hts (in_m_within_X15) hown hK hP 0 rfl rfl 28 (by decide) (hts (.fieldLink RX15 443 "MotionSignsModel" "kind" "I") (List.mem_of_getElem? (i := 2) rfl)) (fun _ h9 => h9) (mF.get hF_h0 10 rfl) dX15_within_7 ?_
  refine lv_if_ne (tgt := 17) hx hb dX15_within_10 (by decide) (fun hc => absurd (by decide) hc) (fun _ => ?_)
  refine lv_iconst (v := 1) hx hb dX15_within_13 (by decide) ?_
  refine lv_goto (tgt := 18) hx hb dX15_within_14 (by decide) ?_
  refine lv_iconst (v := 2) hx hb dX15_within_18 (by decide) ?_
  have hPc := hP.sub (ws' := [(h0, .inr (15, fs_1))]) [0] rfl
  have hDc := hD.sub (ws' := [(h0, .inr (15, fs_1))]) [0] (by decide) rfl
  have hKc := hK.sub (tys' := []) [] rfl
  have hFc := va_free (wc := [(h0, .inr (15, fs_1))]) hD hS hA [0] rfl
  refine va_calli (va_runV (As := [.int 1, .int 2]) (rest := []) ⟨hx, hb, hml, hown, hts⟩ (c_m_bad2 l dC dI h0 qfed qf qfd qs qk fs_1 (mF.sub hF_h0 [0, 1, 2, 3, 4, 5, 6, 7, 8, 9, 10, 11, 12, 13, 14, 15, 16, 17, 18] rfl) H.size) (cwV 2 hts g_m_within_m_bad2_424 rfl rfl rfl hv_X15_bad ⟨Nat.le_of_ble_eq_true rfl, Nat.le_of_ble_eq_true rfl⟩) ⟨fun a U g mk q => by obtain ⟨q0, q1, qP, qK, qD, qE0⟩ := q; exact ⟨q0, q1, qP, va_K.moved (u := U) (U := U.calling g mk a) (Vm.Alike.refl U.vm) qK, qD, w_N.same rfl qE0⟩, va_recv hKc hPc (ci := 15) (q0 := 0) rfl rfl, fun U hU hW => ⟨rfl, by rw [hU], by rw [hU]; exact hPc, va_K.moved hW.alike hKc, hDc.weaken (fun _ _ _ _ => trivial), w_N.warm hW hN⟩⟩ rfl rfl hl.1 rfl (lv_room (Nat.le_of_ble_eq_true rfl)) dX15_within_19 ⟨(Nat.le_of_ble_eq_true rfl), (Nat.le_of_ble_eq_true rfl)⟩) hS (fun q _ h => hFc q h) hFc (fun r_2 u t H1 locs1 ht hvm hw hB hz1 hk1 hS1 => ?_)
  obtain ⟨fs_3, hP1, hK1, hD1, hp_4⟩ := hB
  rw [ht] at hP1
  have hK1 := va_K.moved hvm.symm hK1
  have hJ := va_join (wr := []) (w1 := [(h0, .inr (15, fs_3))]) hP hD [0] [] rfl rfl (by decide) (by decide) hk1 hFc hP1 hD1
  clear hP hD hPc hDc hKc hFc hz1; try clear hk1
  obtain ⟨hP, hD⟩ := hJ
  replace hK := (hK.sub (tys' := []) [] rfl).app (hK1.sub (tys' := []) [] rfl)
  clear hP1 hK1 hD1 hvm ht hS; try clear t
  try clear H
  revert hS1
  intro hS
  generalize H1 = H at hP hS ⊢; try clear H1
  replace hP : va_P (dC, dI) vwCl [(h0, .inr (15, fs_3))] H := hP
  replace hD : va_D A [(h0, .inr (15, fs_3))] := hD
  replace hK : va_K (dC, dI) vwCl [] s := hK
  have hw_5 : r_2 = 1 := hw; clear hw
  subst hw_5
  refine lv_if_ne (tgt := 46) hx hb dX15_within_22 (by decide) (fun _ => ?_) (fun hc => absurd hc (by decide))
  refine lv_iconst (v := 0) hx hb dX15_within_46 (by decide) ?_
  have hP9 := hP.sub (ws' := [(h0, .inr (15, fs_3))]) [0] rfl
  have hD9 := hD.sub (ws' := [(h0, .inr (15, fs_3))]) [0] (by decide) rfl
  have hK9 := hK.sub (tys' := []) [] rfl
  rw [← hAe] at hD9
  refine W.widen (k := 0) (n := 0) (Nat.le_of_ble_eq_true rfl) (Nat.le_of_ble_eq_true rfl) ?_
  subst hAe
  exact (W.zret (v := 0) hx hb hr (by decide) (fun t ht hW => ⟨⟨0, (), rfl, trivial, fs_3, by rw [ht]; exact hP9, va_K.moved hW.alike hK9, hD9, (mF.sub hp_4 [0] rfl)⟩, hS.F ht⟩) hS.2.2 dX15_within_47)
def wv_m_closed : List Cond := .code yX15_closed cX15_closed 2 (some .boolean) :: ([.fieldLink RX15 296 "MotionSignsModel" "thrown" "I", .fieldLink RX15 443 "MotionSignsModel" "kind" "I", .methodLink RX15 424 yX15_bad, .instanceMethod yX15_bad, .selects RX15 yX15_bad yX15_bad, .initialized RX15] ++ (wsX150 ++ (wv_m_bad2 ++ ([]))))
theorem gw_m_closed : wv_m_closed.all goodWord = true := by decide +kernel
theorem in_m_closed_X15 : ∀ w ∈ wsX150, w ∈ wv_m_closed := fun _ h => List.mem_cons_of_mem _ (List.mem_append_right _ (List.mem_append_left _ h))
theorem g_m_closed_m_bad2_424 : GoodIn wv_m_closed (wsV RX15 424 RX15 yX15_bad wv_m_bad2) := goodIn_app (goodIn_of _ (by decide +kernel)) (goodIn_sub (fun _ h => List.mem_cons_of_mem _ (List.mem_append_right _ (List.mem_append_right _ (List.mem_append_left _ h)))) gw_m_bad2)
set_option maxHeartbeats 4000000 in
set_option maxRecDepth 100000 in
/-- the reference: closed on a fresh object -/
theorem c_m_closed (l : Launch) (dC : Nat → ClassId) (dI : Nat → Nat → Nat) (h0 : Nat) (qfed : Nat) (qf : Nat) (qfd : Nat) (qs : Nat) (qk : Nat) (x0 : Int32) (fs_h0 : List Value) (hF_h0 : mF 89 [(0, .int 0), (18, .int 0), (19, .int 0), (20, .int (-1)), (21, .int 0), (22, .int 0), (23, .int 0), (24, .int 0), (25, .int 0), (27, .int 0), (28, .int 0), (29, .int 0), (35, .int 0), (17, .int (-1)), (26, .ref qfed), (30, .ref qf), (31, .ref qfd), (33, .ref qs), (36, .ref qk)] fs_h0) (sz : Nat) : Met l yX15_closed wv_m_closed ({ frames := 1, cells := 0, slots := 0, locals := 22 }) (va_Pc [.ref h0, .int x0] (fun U => U.heap.size = sz ∧ va_P (dC, dI) vwCl [(h0, .inr (15, fs_h0))] U.heap ∧ va_K (dC, dI) vwCl [] U ∧ va_D (fun _ => True) [(h0, .inr (15, fs_h0))] ∧ w_N U)) (va_Qi (fun (r : Int32) (_ : Unit) => True) (fun _ t => ∃ (fs_e : List Value), va_P (dC, dI) vwCl [(h0, .inr (15, fs_e))] t.heap ∧ va_K (dC, dI) vwCl [] t ∧ va_D (va_A [(h0, .inr (15, fs_h0))] sz) [(h0, .inr (15, fs_e))] ∧ mF 89 [(0, .int 2)] fs_e) (va_A [(h0, .inr (15, fs_h0))] sz)) 0 0 (va_A [(h0, .inr (15, fs_h0))] sz) := by
  refine Met.ofW (cc := cX15_closed) (maxL := 2) (ret := (some .boolean)) (by decide) rfl ?_
  intro p e s m args below meth c s₁ B hml hv
  obtain ⟨rfl, hsz, hP, hK, hD0, hN⟩ := hv
  have hx := B.exec
  have hb := B.bytes
  have hr := B.returns
  have hts := atoms_spec (ws := wv_m_closed) B.pre
  have hown : s.vm.findClass RX15 = some m.cls := findClass_of_methodNamed B.named
  have hlocks := B.notSynchronized
  subst hsz
  have hD := hD0.self (sz := s.heap.size)
  generalize hAe : va_A [(h0, .inr (15, fs_h0))] s.heap.size = A at hD ⊢
  have hA : ∀ q : Nat, s.heap.size ≤ q → A q := fun q h => by rw [← hAe]; exact Or.inr h
  obtain ⟨H, hHe, hP, hS⟩ : ∃ H : Heap, H = s.heap ∧ va_P (dC, dI) vwCl [(h0, .inr (15, fs_h0))] H ∧ va_S A s.heap H [] := ⟨s.heap, rfl, hP, va_S.rf⟩
  have hl := lv_entry ([.ref h0, .int x0]) (n := 2) (Nat.le_of_ble_eq_true rfl)
  rw [lg_entry_eq]
  generalize (lg_sl ([.ref h0, .int x0]) ++ List.replicate (2 - (lg_sl ([.ref h0, .int x0])).length) Slot.unset).toArray = ls at hl ⊢
  have hl : lv_has ls 2 [(0, .ref h0), (1, .int x0)] := hl
  rw [← hHe]; clear hHe
  refine lv_aload_n hx hb dX15_closed_0 rfl (lv_at hl 0 rfl) ?_
  refine lv_iconst (v := 0) hx hb dX15_closed_1 (by decide) ?_
  refine va_put (D := (dC, dI)) (ci := 15) (v := .int 0) (ty := .int) (C := RX15) (T := TX15) (N := 89) hx hb hts (in_m_closed_X15) tyX15 tyX15_ok nmX15 hown hK hP hD hS 0 rfl rfl 0 (by decide) (hts (.fieldLink RX15 296 "MotionSignsModel" "thrown" "I") (List.mem_of_getElem? (i := 1) rfl)) (fun _ h9 => h9) rfl (tyX15_ok 0 (by decide)) rfl rfl (mF.lt hF_h0 (by decide)) dX15_closed_2 ?_
  clear hP hD hS; try clear H
  intro H locs hP hD hS
  have hF0 := mF.sub (L' := [(18, .int 0), (19, .int 0), (20, .int (-1)), (21, .int 0), (22, .int 0), (23, .int 0), (24, .int 0), (25, .int 0), (27, .int 0), (28, .int 0), (29, .int 0), (35, .int 0), (17, .int (-1)), (26, .ref qfed), (30, .ref qf), (31, .ref qfd), (33, .ref qs), (36, .ref qk)]) hF_h0 [1, 2, 3, 4, 5, 6, 7, 8, 9, 10, 11, 12, 13, 14, 15, 16, 17, 18] rfl
  have hF1 := mF.put hF0 0 (.int 0) (by decide) rfl
  replace hP : va_P (dC, dI) vwCl [(h0, .inr (15, (fs_h0.set 0 (.int 0))))] H := hP
  replace hD : va_D A [(h0, .inr (15, (fs_h0.set 0 (.int 0))))] := hD
  generalize fs_h0.set 0 (.int 0) = fs_1 at hP hD hF1
  replace hF_h0 : mF 89 [(0, .int 0), (18, .int 0), (19, .int 0), (20, .int (-1)), (21, .int 0), (22, .int 0), (23, .int 0), (24, .int 0), (25, .int 0), (27, .int 0), (28, .int 0), (29, .int 0), (35, .int 0), (17, .int (-1)), (26, .ref qfed), (30, .ref qf), (31, .ref qfd), (33, .ref qs), (36, .ref qk)] fs_1 := hF1
  clear hF1 hF0
  replace hP : va_P (dC, dI) vwCl [(h0, .inr (15, fs_1))] H := hP
  replace hD : va_D A [(h0, .inr (15, fs_1))] := hD
  refine lv_aload_n hx hb dX15_closed_5 rfl (lv_at hl 0 rfl) ?_
  refine lv_aload_n hx hb dX15_closed_6 rfl (lv_at hl 0 rfl) ?_
  refine va_get (D := (dC, dI)) (ci := 15) (v := .int 0) (C := RX15) (T := TX15) (N := 89) hx hb hts (in_m_closed_X15) hown hK hP 0 rfl rfl 28 (by decide) (hts (.fieldLink RX15 443 "MotionSignsModel" "kind" "I") (List.mem_of_getElem? (i := 2) rfl)) (fun _ h9 => h9) (mF.get hF_h0 10 rfl) dX15_closed_7 ?_
  refine lv_if_ne (tgt := 17) hx hb dX15_closed_10 (by decide) (fun hc => absurd (by decide) hc) (fun _ => ?_)
  refine lv_iconst (v := 1) hx hb dX15_closed_13 (by decide) ?_
  refine lv_goto (tgt := 18) hx hb dX15_closed_14 (by decide) ?_
  refine lv_iconst (v := 2) hx hb dX15_closed_18 (by decide) ?_
  have hPc := hP.sub (ws' := [(h0, .inr (15, fs_1))]) [0] rfl
  have hDc := hD.sub (ws' := [(h0, .inr (15, fs_1))]) [0] (by decide) rfl
  have hKc := hK.sub (tys' := []) [] rfl
  have hFc := va_free (wc := [(h0, .inr (15, fs_1))]) hD hS hA [0] rfl
  refine va_calli (va_runV (As := [.int 1, .int 2]) (rest := []) ⟨hx, hb, hml, hown, hts⟩ (c_m_bad2 l dC dI h0 qfed qf qfd qs qk fs_1 (mF.sub hF_h0 [0, 1, 2, 3, 4, 5, 6, 7, 8, 9, 10, 11, 12, 13, 14, 15, 16, 17, 18] rfl) H.size) (cwV 2 hts g_m_closed_m_bad2_424 rfl rfl rfl hv_X15_bad ⟨Nat.le_of_ble_eq_true rfl, Nat.le_of_ble_eq_true rfl⟩) ⟨fun a U g mk q => by obtain ⟨q0, q1, qP, qK, qD, qE0⟩ := q; exact ⟨q0, q1, qP, va_K.moved (u := U) (U := U.calling g mk a) (Vm.Alike.refl U.vm) qK, qD, w_N.same rfl qE0⟩, va_recv hKc hPc (ci := 15) (q0 := 0) rfl rfl, fun U hU hW => ⟨rfl, by rw [hU], by rw [hU]; exact hPc, va_K.moved hW.alike hKc, hDc.weaken (fun _ _ _ _ => trivial), w_N.warm hW hN⟩⟩ rfl rfl hl.1 rfl (lv_room (Nat.le_of_ble_eq_true rfl)) dX15_closed_19 ⟨(Nat.le_of_ble_eq_true rfl), (Nat.le_of_ble_eq_true rfl)⟩) hS (fun q _ h => hFc q h) hFc (fun r_2 u t H1 locs1 ht hvm hw hB hz1 hk1 hS1 => ?_)
  obtain ⟨fs_3, hP1, hK1, hD1, hp_4⟩ := hB
  rw [ht] at hP1
  have hK1 := va_K.moved hvm.symm hK1
  have hJ := va_join (wr := []) (w1 := [(h0, .inr (15, fs_3))]) hP hD [0] [] rfl rfl (by decide) (by decide) hk1 hFc hP1 hD1
  clear hP hD hPc hDc hKc hFc hz1; try clear hk1
  obtain ⟨hP, hD⟩ := hJ
  replace hK := (hK.sub (tys' := []) [] rfl).app (hK1.sub (tys' := []) [] rfl)
  clear hP1 hK1 hD1 hvm ht hS; try clear t
  try clear H
  revert hS1
  intro hS
  generalize H1 = H at hP hS ⊢; try clear H1
  replace hP : va_P (dC, dI) vwCl [(h0, .inr (15, fs_3))] H := hP
  replace hD : va_D A [(h0, .inr (15, fs_3))] := hD
  replace hK : va_K (dC, dI) vwCl [] s := hK
  have hw_5 : r_2 = 1 := hw; clear hw
  subst hw_5
  refine lv_if_ne (tgt := 46) hx hb dX15_closed_22 (by decide) (fun _ => ?_) (fun hc => absurd hc (by decide))
  refine lv_iconst (v := 0) hx hb dX15_closed_46 (by decide) ?_
  have hP9 := hP.sub (ws' := [(h0, .inr (15, fs_3))]) [0] rfl
  have hD9 := hD.sub (ws' := [(h0, .inr (15, fs_3))]) [0] (by decide) rfl
  have hK9 := hK.sub (tys' := []) [] rfl
  rw [← hAe] at hD9
  refine W.widen (k := 0) (n := 0) (Nat.le_of_ble_eq_true rfl) (Nat.le_of_ble_eq_true rfl) ?_
  subst hAe
  exact (W.zret (v := 0) hx hb hr (by decide) (fun t ht hW => ⟨⟨0, (), rfl, trivial, fs_3, by rw [ht]; exact hP9, va_K.moved hW.alike hK9, hD9, (mF.sub hp_4 [0] rfl)⟩, hS.F ht⟩) hS.2.2 dX15_closed_47)
def wv_m_constant : List Cond := .code yX15_constant cX15_constant 6 (some .long) :: ([.fieldLink RX15 296 "MotionSignsModel" "thrown" "I", .fieldLink RX15 443 "MotionSignsModel" "kind" "I", .methodLink RX15 424 yX15_bad, .instanceMethod yX15_bad, .selects RX15 yX15_bad yX15_bad, .initialized RX15] ++ (wsX150 ++ (wv_m_bad3 ++ ([]))))
theorem gw_m_constant : wv_m_constant.all goodWord = true := by decide +kernel
theorem in_m_constant_X15 : ∀ w ∈ wsX150, w ∈ wv_m_constant := fun _ h => List.mem_cons_of_mem _ (List.mem_append_right _ (List.mem_append_left _ h))
theorem g_m_constant_m_bad3_424 : GoodIn wv_m_constant (wsV RX15 424 RX15 yX15_bad wv_m_bad3) := goodIn_app (goodIn_of _ (by decide +kernel)) (goodIn_sub (fun _ h => List.mem_cons_of_mem _ (List.mem_append_right _ (List.mem_append_right _ (List.mem_append_left _ h)))) gw_m_bad3)
set_option maxHeartbeats 4000000 in
set_option maxRecDepth 100000 in
/-- the reference: constant on a fresh object -/
theorem c_m_constant (l : Launch) (dC : Nat → ClassId) (dI : Nat → Nat → Nat) (h0 : Nat) (qfed : Nat) (qf : Nat) (qfd : Nat) (qs : Nat) (qk : Nat) (x0 : Int32) (x1 : Int32) (x2 : Int32) (x3 : Int32) (x4 : Int32) (fs_h0 : List Value) (hF_h0 : mF 89 [(0, .int 0), (18, .int 0), (19, .int 0), (20, .int (-1)), (21, .int 0), (22, .int 0), (23, .int 0), (24, .int 0), (25, .int 0), (27, .int 0), (28, .int 0), (29, .int 0), (35, .int 0), (17, .int (-1)), (26, .ref qfed), (30, .ref qf), (31, .ref qfd), (33, .ref qs), (36, .ref qk)] fs_h0) (sz : Nat) : Met l yX15_constant wv_m_constant ({ frames := 1, cells := 0, slots := 0, locals := 22 }) (va_Pc [.ref h0, .int x0, .int x1, .int x2, .int x3, .int x4] (fun U => U.heap.size = sz ∧ va_P (dC, dI) vwCl [(h0, .inr (15, fs_h0))] U.heap ∧ va_K (dC, dI) vwCl [] U ∧ va_D (fun _ => True) [(h0, .inr (15, fs_h0))] ∧ w_N U)) (va_Ql (fun (r : Int64) (_ : Unit) => True) (fun _ t => ∃ (fs_e : List Value), va_P (dC, dI) vwCl [(h0, .inr (15, fs_e))] t.heap ∧ va_K (dC, dI) vwCl [] t ∧ va_D (va_A [(h0, .inr (15, fs_h0))] sz) [(h0, .inr (15, fs_e))] ∧ mF 89 [(0, .int 3)] fs_e) (va_A [(h0, .inr (15, fs_h0))] sz)) 0 0 (va_A [(h0, .inr (15, fs_h0))] sz) := by
  refine Met.ofW (cc := cX15_constant) (maxL := 6) (ret := (some .long)) (by decide) rfl ?_
  intro p e s m args below meth c s₁ B hml hv
  obtain ⟨rfl, hsz, hP, hK, hD0, hN⟩ := hv
  have hx := B.exec
  have hb := B.bytes
  have hr := B.returns
  have hts := atoms_spec (ws := wv_m_constant) B.pre
  have hown : s.vm.findClass RX15 = some m.cls := findClass_of_methodNamed B.named
  have hlocks := B.notSynchronized
  subst hsz
  have hD := hD0.self (sz := s.heap.size)
  generalize hAe : va_A [(h0, .inr (15, fs_h0))] s.heap.size = A at hD ⊢
  have hA : ∀ q : Nat, s.heap.size ≤ q → A q := fun q h => by rw [← hAe]; exact Or.inr h
  obtain ⟨H, hHe, hP, hS⟩ : ∃ H : Heap, H = s.heap ∧ va_P (dC, dI) vwCl [(h0, .inr (15, fs_h0))] H ∧ va_S A s.heap H [] := ⟨s.heap, rfl, hP, va_S.rf⟩
  have hl := lv_entry ([.ref h0, .int x0, .int x1, .int x2, .int x3, .int x4]) (n := 6) (Nat.le_of_ble_eq_true rfl)
  rw [lg_entry_eq]
  generalize (lg_sl ([.ref h0, .int x0, .int x1, .int x2, .int x3, .int x4]) ++ List.replicate (6 - (lg_sl ([.ref h0, .int x0, .int x1, .int x2, .int x3, .int x4])).length) Slot.unset).toArray = ls at hl ⊢
  have hl : lv_has ls 6 [(0, .ref h0), (1, .int x0), (2, .int x1), (3, .int x2), (4, .int x3), (5, .int x4)] := hl
  rw [← hHe]; clear hHe
  refine lv_aload_n hx hb dX15_constant_0 rfl (lv_at hl 0 rfl) ?_
  refine lv_iconst (v := 0) hx hb dX15_constant_1 (by decide) ?_
  refine va_put (D := (dC, dI)) (ci := 15) (v := .int 0) (ty := .int) (C := RX15) (T := TX15) (N := 89) hx hb hts (in_m_constant_X15) tyX15 tyX15_ok nmX15 hown hK hP hD hS 0 rfl rfl 0 (by decide) (hts (.fieldLink RX15 296 "MotionSignsModel" "thrown" "I") (List.mem_of_getElem? (i := 1) rfl)) (fun _ h9 => h9) rfl (tyX15_ok 0 (by decide)) rfl rfl (mF.lt hF_h0 (by decide)) dX15_constant_2 ?_
  clear hP hD hS; try clear H
  intro H locs hP hD hS
  have hF0 := mF.sub (L' := [(18, .int 0), (19, .int 0), (20, .int (-1)), (21, .int 0), (22, .int 0), (23, .int 0), (24, .int 0), (25, .int 0), (27, .int 0), (28, .int 0), (29, .int 0), (35, .int 0), (17, .int (-1)), (26, .ref qfed), (30, .ref qf), (31, .ref qfd), (33, .ref qs), (36, .ref qk)]) hF_h0 [1, 2, 3, 4, 5, 6, 7, 8, 9, 10, 11, 12, 13, 14, 15, 16, 17, 18] rfl
  have hF1 := mF.put hF0 0 (.int 0) (by decide) rfl
  replace hP : va_P (dC, dI) vwCl [(h0, .inr (15, (fs_h0.set 0 (.int 0))))] H := hP
  replace hD : va_D A [(h0, .inr (15, (fs_h0.set 0 (.int 0))))] := hD
  generalize fs_h0.set 0 (.int 0) = fs_1 at hP hD hF1
  replace hF_h0 : mF 89 [(0, .int 0), (18, .int 0), (19, .int 0), (20, .int (-1)), (21, .int 0), (22, .int 0), (23, .int 0), (24, .int 0), (25, .int 0), (27, .int 0), (28, .int 0), (29, .int 0), (35, .int 0), (17, .int (-1)), (26, .ref qfed), (30, .ref qf), (31, .ref qfd), (33, .ref qs), (36, .ref qk)] fs_1 := hF1
  clear hF1 hF0
  replace hP : va_P (dC, dI) vwCl [(h0, .inr (15, fs_1))] H := hP
  replace hD : va_D A [(h0, .inr (15, fs_1))] := hD
  refine lv_aload_n hx hb dX15_constant_5 rfl (lv_at hl 0 rfl) ?_
  refine lv_aload_n hx hb dX15_constant_6 rfl (lv_at hl 0 rfl) ?_
  refine va_get (D := (dC, dI)) (ci := 15) (v := .int 0) (C := RX15) (T := TX15) (N := 89) hx hb hts (in_m_constant_X15) hown hK hP 0 rfl rfl 28 (by decide) (hts (.fieldLink RX15 443 "MotionSignsModel" "kind" "I") (List.mem_of_getElem? (i := 2) rfl)) (fun _ h9 => h9) (mF.get hF_h0 10 rfl) dX15_constant_7 ?_
  refine lv_if_ne (tgt := 17) hx hb dX15_constant_10 (by decide) (fun hc => absurd (by decide) hc) (fun _ => ?_)
  refine lv_iconst (v := 1) hx hb dX15_constant_13 (by decide) ?_
  refine lv_goto (tgt := 18) hx hb dX15_constant_14 (by decide) ?_
  refine lv_iconst (v := 3) hx hb dX15_constant_18 (by decide) ?_
  have hPc := hP.sub (ws' := [(h0, .inr (15, fs_1))]) [0] rfl
  have hDc := hD.sub (ws' := [(h0, .inr (15, fs_1))]) [0] (by decide) rfl
  have hKc := hK.sub (tys' := []) [] rfl
  have hFc := va_free (wc := [(h0, .inr (15, fs_1))]) hD hS hA [0] rfl
  refine va_calli (va_runV (As := [.int 1, .int 3]) (rest := []) ⟨hx, hb, hml, hown, hts⟩ (c_m_bad3 l dC dI h0 qfed qf qfd qs qk fs_1 (mF.sub hF_h0 [0, 1, 2, 3, 4, 5, 6, 7, 8, 9, 10, 11, 12, 13, 14, 15, 16, 17, 18] rfl) H.size) (cwV 2 hts g_m_constant_m_bad3_424 rfl rfl rfl hv_X15_bad ⟨Nat.le_of_ble_eq_true rfl, Nat.le_of_ble_eq_true rfl⟩) ⟨fun a U g mk q => by obtain ⟨q0, q1, qP, qK, qD, qE0⟩ := q; exact ⟨q0, q1, qP, va_K.moved (u := U) (U := U.calling g mk a) (Vm.Alike.refl U.vm) qK, qD, w_N.same rfl qE0⟩, va_recv hKc hPc (ci := 15) (q0 := 0) rfl rfl, fun U hU hW => ⟨rfl, by rw [hU], by rw [hU]; exact hPc, va_K.moved hW.alike hKc, hDc.weaken (fun _ _ _ _ => trivial), w_N.warm hW hN⟩⟩ rfl rfl hl.1 rfl (lv_room (Nat.le_of_ble_eq_true rfl)) dX15_constant_19 ⟨(Nat.le_of_ble_eq_true rfl), (Nat.le_of_ble_eq_true rfl)⟩) hS (fun q _ h => hFc q h) hFc (fun r_2 u t H1 locs1 ht hvm hw hB hz1 hk1 hS1 => ?_)
  obtain ⟨fs_3, hP1, hK1, hD1, hp_4⟩ := hB
  rw [ht] at hP1
  have hK1 := va_K.moved hvm.symm hK1
  have hJ := va_join (wr := []) (w1 := [(h0, .inr (15, fs_3))]) hP hD [0] [] rfl rfl (by decide) (by decide) hk1 hFc hP1 hD1
  clear hP hD hPc hDc hKc hFc hz1; try clear hk1
  obtain ⟨hP, hD⟩ := hJ
  replace hK := (hK.sub (tys' := []) [] rfl).app (hK1.sub (tys' := []) [] rfl)
  clear hP1 hK1 hD1 hvm ht hS; try clear t
  try clear H
  revert hS1
  intro hS
  generalize H1 = H at hP hS ⊢; try clear H1
  replace hP : va_P (dC, dI) vwCl [(h0, .inr (15, fs_3))] H := hP
  replace hD : va_D A [(h0, .inr (15, fs_3))] := hD
  replace hK : va_K (dC, dI) vwCl [] s := hK
  have hw_5 : r_2 = 1 := hw; clear hw
  subst hw_5
  refine lv_if_ne (tgt := 46) hx hb dX15_constant_22 (by decide) (fun _ => ?_) (fun hc => absurd hc (by decide))
  refine lv_lconst (v := 0) hx hb dX15_constant_46 (by decide) ?_
  have hP9 := hP.sub (ws' := [(h0, .inr (15, fs_3))]) [0] rfl
  have hD9 := hD.sub (ws' := [(h0, .inr (15, fs_3))]) [0] (by decide) rfl
  have hK9 := hK.sub (tys' := []) [] rfl
  rw [← hAe] at hD9
  refine W.widen (k := 0) (n := 0) (Nat.le_of_ble_eq_true rfl) (Nat.le_of_ble_eq_true rfl) ?_
  subst hAe
  exact (W.lret (v := 0) hx hb hr (fun t ht hW => ⟨⟨0, (), rfl, trivial, fs_3, by rw [ht]; exact hP9, va_K.moved hW.alike hK9, hD9, (mF.sub hp_4 [0] rfl)⟩, hS.F ht⟩) hS.2.2 dX15_constant_47)
def wv_m_kind : List Cond := .code yX15_kind cX15_kind 3 (some .int) :: ([.fieldLink RX15 296 "MotionSignsModel" "thrown" "I", .fieldLink RX15 443 "MotionSignsModel" "kind" "I", .methodLink RX15 424 yX15_bad, .instanceMethod yX15_bad, .selects RX15 yX15_bad yX15_bad, .initialized RX15] ++ (wsX150 ++ (wv_m_bad2 ++ ([]))))
theorem gw_m_kind : wv_m_kind.all goodWord = true := by decide +kernel
theorem in_m_kind_X15 : ∀ w ∈ wsX150, w ∈ wv_m_kind := fun _ h => List.mem_cons_of_mem _ (List.mem_append_right _ (List.mem_append_left _ h))
theorem g_m_kind_m_bad2_424 : GoodIn wv_m_kind (wsV RX15 424 RX15 yX15_bad wv_m_bad2) := goodIn_app (goodIn_of _ (by decide +kernel)) (goodIn_sub (fun _ h => List.mem_cons_of_mem _ (List.mem_append_right _ (List.mem_append_right _ (List.mem_append_left _ h)))) gw_m_bad2)
set_option maxHeartbeats 4000000 in
set_option maxRecDepth 100000 in
/-- the reference: kind on a fresh object -/
theorem c_m_kind (l : Launch) (dC : Nat → ClassId) (dI : Nat → Nat → Nat) (h0 : Nat) (qfed : Nat) (qf : Nat) (qfd : Nat) (qs : Nat) (qk : Nat) (x0 : Int32) (x1 : Int32) (fs_h0 : List Value) (hF_h0 : mF 89 [(0, .int 0), (18, .int 0), (19, .int 0), (20, .int (-1)), (21, .int 0), (22, .int 0), (23, .int 0), (24, .int 0), (25, .int 0), (27, .int 0), (28, .int 0), (29, .int 0), (35, .int 0), (17, .int (-1)), (26, .ref qfed), (30, .ref qf), (31, .ref qfd), (33, .ref qs), (36, .ref qk)] fs_h0) (sz : Nat) : Met l yX15_kind wv_m_kind ({ frames := 1, cells := 0, slots := 0, locals := 22 }) (va_Pc [.ref h0, .int x0, .int x1] (fun U => U.heap.size = sz ∧ va_P (dC, dI) vwCl [(h0, .inr (15, fs_h0))] U.heap ∧ va_K (dC, dI) vwCl [] U ∧ va_D (fun _ => True) [(h0, .inr (15, fs_h0))] ∧ w_N U)) (va_Qi (fun (r : Int32) (_ : Unit) => True) (fun _ t => ∃ (fs_e : List Value), va_P (dC, dI) vwCl [(h0, .inr (15, fs_e))] t.heap ∧ va_K (dC, dI) vwCl [] t ∧ va_D (va_A [(h0, .inr (15, fs_h0))] sz) [(h0, .inr (15, fs_e))] ∧ mF 89 [(0, .int 2)] fs_e) (va_A [(h0, .inr (15, fs_h0))] sz)) 0 0 (va_A [(h0, .inr (15, fs_h0))] sz) := by
  refine Met.ofW (cc := cX15_kind) (maxL := 3) (ret := (some .int)) (by decide) rfl ?_
  intro p e s m args below meth c s₁ B hml hv
  obtain ⟨rfl, hsz, hP, hK, hD0, hN⟩ := hv
  have hx := B.exec
  have hb := B.bytes
  have hr := B.returns
  have hts := atoms_spec (ws := wv_m_kind) B.pre
  have hown : s.vm.findClass RX15 = some m.cls := findClass_of_methodNamed B.named
  have hlocks := B.notSynchronized
  subst hsz
  have hD := hD0.self (sz := s.heap.size)
  generalize hAe : va_A [(h0, .inr (15, fs_h0))] s.heap.size = A at hD ⊢
  have hA : ∀ q : Nat, s.heap.size ≤ q → A q := fun q h => by rw [← hAe]; exact Or.inr h
  obtain ⟨H, hHe, hP, hS⟩ : ∃ H : Heap, H = s.heap ∧ va_P (dC, dI) vwCl [(h0, .inr (15, fs_h0))] H ∧ va_S A s.heap H [] := ⟨s.heap, rfl, hP, va_S.rf⟩
  have hl := lv_entry ([.ref h0, .int x0, .int x1]) (n := 3) (Nat.le_of_ble_eq_true rfl)
  rw [lg_entry_eq]
  generalize (lg_sl ([.ref h0, .int x0, .int x1]) ++ List.replicate (3 - (lg_sl ([.ref h0, .int x0, .int x1])).length) Slot.unset).toArray = ls at hl ⊢
  have hl : lv_has ls 3 [(0, .ref h0), (1, .int x0), (2, .int x1)] := hl
  rw [← hHe]; clear hHe
  refine lv_aload_n hx hb dX15_kind_0 rfl (lv_at hl 0 rfl) ?_
  refine lv_iconst (v := 0) hx hb dX15_kind_1 (by decide) ?_
  refine va_put (D := (dC, dI)) (ci := 15) (v := .int 0) (ty := .int) (C := RX15) (T := TX15) (N := 89) hx hb hts (in_m_kind_X15) tyX15 tyX15_ok nmX15 hown hK hP hD hS 0 rfl rfl 0 (by decide) (hts (.fieldLink RX15 296 "MotionSignsModel" "thrown" "I") (List.mem_of_getElem? (i := 1) rfl)) (fun _ h9 => h9) rfl (tyX15_ok 0 (by decide)) rfl rfl (mF.lt hF_h0 (by decide)) dX15_kind_2 ?_
  clear hP hD hS; try clear H
  intro H locs hP hD hS
  have hF0 := mF.sub (L' := [(18, .int 0), (19, .int 0), (20, .int (-1)), (21, .int 0), (22, .int 0), (23, .int 0), (24, .int 0), (25, .int 0), (27, .int 0), (28, .int 0), (29, .int 0), (35, .int 0), (17, .int (-1)), (26, .ref qfed), (30, .ref qf), (31, .ref qfd), (33, .ref qs), (36, .ref qk)]) hF_h0 [1, 2, 3, 4, 5, 6, 7, 8, 9, 10, 11, 12, 13, 14, 15, 16, 17, 18] rfl
  have hF1 := mF.put hF0 0 (.int 0) (by decide) rfl
  replace hP : va_P (dC, dI) vwCl [(h0, .inr (15, (fs_h0.set 0 (.int 0))))] H := hP
  replace hD : va_D A [(h0, .inr (15, (fs_h0.set 0 (.int 0))))] := hD
  generalize fs_h0.set 0 (.int 0) = fs_1 at hP hD hF1
  replace hF_h0 : mF 89 [(0, .int 0), (18, .int 0), (19, .int 0), (20, .int (-1)), (21, .int 0), (22, .int 0), (23, .int 0), (24, .int 0), (25, .int 0), (27, .int 0), (28, .int 0), (29, .int 0), (35, .int 0), (17, .int (-1)), (26, .ref qfed), (30, .ref qf), (31, .ref qfd), (33, .ref qs), (36, .ref qk)] fs_1 := hF1
  clear hF1 hF0
  replace hP : va_P (dC, dI) vwCl [(h0, .inr (15, fs_1))] H := hP
  replace hD : va_D A [(h0, .inr (15, fs_1))] := hD
  refine lv_aload_n hx hb dX15_kind_5 rfl (lv_at hl 0 rfl) ?_
  refine lv_aload_n hx hb dX15_kind_6 rfl (lv_at hl 0 rfl) ?_
  refine va_get (D := (dC, dI)) (ci := 15) (v := .int 0) (C := RX15) (T := TX15) (N := 89) hx hb hts (in_m_kind_X15) hown hK hP 0 rfl rfl 28 (by decide) (hts (.fieldLink RX15 443 "MotionSignsModel" "kind" "I") (List.mem_of_getElem? (i := 2) rfl)) (fun _ h9 => h9) (mF.get hF_h0 10 rfl) dX15_kind_7 ?_
  refine lv_if_ne (tgt := 17) hx hb dX15_kind_10 (by decide) (fun hc => absurd (by decide) hc) (fun _ => ?_)
  refine lv_iconst (v := 1) hx hb dX15_kind_13 (by decide) ?_
  refine lv_goto (tgt := 18) hx hb dX15_kind_14 (by decide) ?_
  refine lv_iconst (v := 2) hx hb dX15_kind_18 (by decide) ?_
  have hPc := hP.sub (ws' := [(h0, .inr (15, fs_1))]) [0] rfl
  have hDc := hD.sub (ws' := [(h0, .inr (15, fs_1))]) [0] (by decide) rfl
  have hKc := hK.sub (tys' := []) [] rfl
  have hFc := va_free (wc := [(h0, .inr (15, fs_1))]) hD hS hA [0] rfl
  refine va_calli (va_runV (As := [.int 1, .int 2]) (rest := []) ⟨hx, hb, hml, hown, hts⟩ (c_m_bad2 l dC dI h0 qfed qf qfd qs qk fs_1 (mF.sub hF_h0 [0, 1, 2, 3, 4, 5, 6, 7, 8, 9, 10, 11, 12, 13, 14, 15, 16, 17, 18] rfl) H.size) (cwV 2 hts g_m_kind_m_bad2_424 rfl rfl rfl hv_X15_bad ⟨Nat.le_of_ble_eq_true rfl, Nat.le_of_ble_eq_true rfl⟩) ⟨fun a U g mk q => by obtain ⟨q0, q1, qP, qK, qD, qE0⟩ := q; exact ⟨q0, q1, qP, va_K.moved (u := U) (U := U.calling g mk a) (Vm.Alike.refl U.vm) qK, qD, w_N.same rfl qE0⟩, va_recv hKc hPc (ci := 15) (q0 := 0) rfl rfl, fun U hU hW => ⟨rfl, by rw [hU], by rw [hU]; exact hPc, va_K.moved hW.alike hKc, hDc.weaken (fun _ _ _ _ => trivial), w_N.warm hW hN⟩⟩ rfl rfl hl.1 rfl (lv_room (Nat.le_of_ble_eq_true rfl)) dX15_kind_19 ⟨(Nat.le_of_ble_eq_true rfl), (Nat.le_of_ble_eq_true rfl)⟩) hS (fun q _ h => hFc q h) hFc (fun r_2 u t H1 locs1 ht hvm hw hB hz1 hk1 hS1 => ?_)
  obtain ⟨fs_3, hP1, hK1, hD1, hp_4⟩ := hB
  rw [ht] at hP1
  have hK1 := va_K.moved hvm.symm hK1
  have hJ := va_join (wr := []) (w1 := [(h0, .inr (15, fs_3))]) hP hD [0] [] rfl rfl (by decide) (by decide) hk1 hFc hP1 hD1
  clear hP hD hPc hDc hKc hFc hz1; try clear hk1
  obtain ⟨hP, hD⟩ := hJ
  replace hK := (hK.sub (tys' := []) [] rfl).app (hK1.sub (tys' := []) [] rfl)
  clear hP1 hK1 hD1 hvm ht hS; try clear t
  try clear H
  revert hS1
  intro hS
  generalize H1 = H at hP hS ⊢; try clear H1
  replace hP : va_P (dC, dI) vwCl [(h0, .inr (15, fs_3))] H := hP
  replace hD : va_D A [(h0, .inr (15, fs_3))] := hD
  replace hK : va_K (dC, dI) vwCl [] s := hK
  have hw_5 : r_2 = 1 := hw; clear hw
  subst hw_5
  refine lv_if_ne (tgt := 55) hx hb dX15_kind_22 (by decide) (fun _ => ?_) (fun hc => absurd hc (by decide))
  refine lv_iconst (v := 0) hx hb dX15_kind_55 (by decide) ?_
  have hP9 := hP.sub (ws' := [(h0, .inr (15, fs_3))]) [0] rfl
  have hD9 := hD.sub (ws' := [(h0, .inr (15, fs_3))]) [0] (by decide) rfl
  have hK9 := hK.sub (tys' := []) [] rfl
  rw [← hAe] at hD9
  refine W.widen (k := 0) (n := 0) (Nat.le_of_ble_eq_true rfl) (Nat.le_of_ble_eq_true rfl) ?_
  subst hAe
  exact (W.iret (v := 0) hx hb hr (fun t ht hW => ⟨⟨0, (), rfl, trivial, fs_3, by rw [ht]; exact hP9, va_K.moved hW.alike hK9, hD9, (mF.sub hp_4 [0] rfl)⟩, hS.F ht⟩) hS.2.2 dX15_kind_56)
def wv_m_steps : List Cond := .code yX15_steps cX15_steps 8 (some .int) :: ([.fieldLink RX15 296 "MotionSignsModel" "thrown" "I", .fieldLink RX15 443 "MotionSignsModel" "kind" "I", .methodLink RX15 424 yX15_bad, .instanceMethod yX15_bad, .selects RX15 yX15_bad yX15_bad, .initialized RX15] ++ (wsX150 ++ (wv_m_bad3 ++ ([]))))
theorem gw_m_steps : wv_m_steps.all goodWord = true := by decide +kernel
theorem in_m_steps_X15 : ∀ w ∈ wsX150, w ∈ wv_m_steps := fun _ h => List.mem_cons_of_mem _ (List.mem_append_right _ (List.mem_append_left _ h))
theorem g_m_steps_m_bad3_424 : GoodIn wv_m_steps (wsV RX15 424 RX15 yX15_bad wv_m_bad3) := goodIn_app (goodIn_of _ (by decide +kernel)) (goodIn_sub (fun _ h => List.mem_cons_of_mem _ (List.mem_append_right _ (List.mem_append_right _ (List.mem_append_left _ h)))) gw_m_bad3)
set_option maxHeartbeats 4000000 in
set_option maxRecDepth 100000 in
/-- the reference: steps on a fresh object -/
theorem c_m_steps (l : Launch) (dC : Nat → ClassId) (dI : Nat → Nat → Nat) (h0 : Nat) (qfed : Nat) (qf : Nat) (qfd : Nat) (qs : Nat) (qk : Nat) (x0 : Int32) (x1 : Int32) (x2 : Int32) (fs_h0 : List Value) (hF_h0 : mF 89 [(0, .int 0), (18, .int 0), (19, .int 0), (20, .int (-1)), (21, .int 0), (22, .int 0), (23, .int 0), (24, .int 0), (25, .int 0), (27, .int 0), (28, .int 0), (29, .int 0), (35, .int 0), (17, .int (-1)), (26, .ref qfed), (30, .ref qf), (31, .ref qfd), (33, .ref qs), (36, .ref qk)] fs_h0) (sz : Nat) : Met l yX15_steps wv_m_steps ({ frames := 1, cells := 0, slots := 0, locals := 22 }) (va_Pc [.ref h0, .int x0, .int x1, .int x2] (fun U => U.heap.size = sz ∧ va_P (dC, dI) vwCl [(h0, .inr (15, fs_h0))] U.heap ∧ va_K (dC, dI) vwCl [] U ∧ va_D (fun _ => True) [(h0, .inr (15, fs_h0))] ∧ w_N U)) (va_Qi (fun (r : Int32) (_ : Unit) => True) (fun _ t => ∃ (fs_e : List Value), va_P (dC, dI) vwCl [(h0, .inr (15, fs_e))] t.heap ∧ va_K (dC, dI) vwCl [] t ∧ va_D (va_A [(h0, .inr (15, fs_h0))] sz) [(h0, .inr (15, fs_e))] ∧ mF 89 [(0, .int 3)] fs_e) (va_A [(h0, .inr (15, fs_h0))] sz)) 0 0 (va_A [(h0, .inr (15, fs_h0))] sz) := by
  refine Met.ofW (cc := cX15_steps) (maxL := 8) (ret := (some .int)) (by decide) rfl ?_
  intro p e s m args below meth c s₁ B hml hv
  obtain ⟨rfl, hsz, hP, hK, hD0, hN⟩ := hv
  have hx := B.exec
  have hb := B.bytes
  have hr := B.returns
  have hts := atoms_spec (ws := wv_m_steps) B.pre
  have hown : s.vm.findClass RX15 = some m.cls := findClass_of_methodNamed B.named
  have hlocks := B.notSynchronized
  subst hsz
  have hD := hD0.self (sz := s.heap.size)
  generalize hAe : va_A [(h0, .inr (15, fs_h0))] s.heap.size = A at hD ⊢
  have hA : ∀ q : Nat, s.heap.size ≤ q → A q := fun q h => by rw [← hAe]; exact Or.inr h
  obtain ⟨H, hHe, hP, hS⟩ : ∃ H : Heap, H = s.heap ∧ va_P (dC, dI) vwCl [(h0, .inr (15, fs_h0))] H ∧ va_S A s.heap H [] := ⟨s.heap, rfl, hP, va_S.rf⟩
  have hl := lv_entry ([.ref h0, .int x0, .int x1, .int x2]) (n := 8) (Nat.le_of_ble_eq_true rfl)
  rw [lg_entry_eq]
  generalize (lg_sl ([.ref h0, .int x0, .int x1, .int x2]) ++ List.replicate (8 - (lg_sl ([.ref h0, .int x0, .int x1, .int x2])).length) Slot.unset).toArray = ls at hl ⊢
  have hl : lv_has ls 8 [(0, .ref h0), (1, .int x0), (2, .int x1), (3, .int x2)] := hl
  rw [← hHe]; clear hHe
  refine lv_aload_n hx hb dX15_steps_0 rfl (lv_at hl 0 rfl) ?_
  refine lv_iconst (v := 0) hx hb dX15_steps_1 (by decide) ?_
  refine va_put (D := (dC, dI)) (ci := 15) (v := .int 0) (ty := .int) (C := RX15) (T := TX15) (N := 89) hx hb hts (in_m_steps_X15) tyX15 tyX15_ok nmX15 hown hK hP hD hS 0 rfl rfl 0 (by decide) (hts (.fieldLink RX15 296 "MotionSignsModel" "thrown" "I") (List.mem_of_getElem? (i := 1) rfl)) (fun _ h9 => h9) rfl (tyX15_ok 0 (by decide)) rfl rfl (mF.lt hF_h0 (by decide)) dX15_steps_2 ?_
  clear hP hD hS; try clear H
  intro H locs hP hD hS
  have hF0 := mF.sub (L' := [(18, .int 0), (19, .int 0), (20, .int (-1)), (21, .int 0), (22, .int 0), (23, .int 0), (24, .int 0), (25, .int 0), (27, .int 0), (28, .int 0), (29, .int 0), (35, .int 0), (17, .int (-1)), (26, .ref qfed), (30, .ref qf), (31, .ref qfd), (33, .ref qs), (36, .ref qk)]) hF_h0 [1, 2, 3, 4, 5, 6, 7, 8, 9, 10, 11, 12, 13, 14, 15, 16, 17, 18] rfl
  have hF1 := mF.put hF0 0 (.int 0) (by decide) rfl
  replace hP : va_P (dC, dI) vwCl [(h0, .inr (15, (fs_h0.set 0 (.int 0))))] H := hP
  replace hD : va_D A [(h0, .inr (15, (fs_h0.set 0 (.int 0))))] := hD
  generalize fs_h0.set 0 (.int 0) = fs_1 at hP hD hF1
  replace hF_h0 : mF 89 [(0, .int 0), (18, .int 0), (19, .int 0), (20, .int (-1)), (21, .int 0), (22, .int 0), (23, .int 0), (24, .int 0), (25, .int 0), (27, .int 0), (28, .int 0), (29, .int 0), (35, .int 0), (17, .int (-1)), (26, .ref qfed), (30, .ref qf), (31, .ref qfd), (33, .ref qs), (36, .ref qk)] fs_1 := hF1
  clear hF1 hF0
  replace hP : va_P (dC, dI) vwCl [(h0, .inr (15, fs_1))] H := hP
  replace hD : va_D A [(h0, .inr (15, fs_1))] := hD
  refine lv_aload_n hx hb dX15_steps_5 rfl (lv_at hl 0 rfl) ?_
  refine lv_aload_n hx hb dX15_steps_6 rfl (lv_at hl 0 rfl) ?_
  refine va_get (D := (dC, dI)) (ci := 15) (v := .int 0) (C := RX15) (T := TX15) (N := 89) hx hb hts (in_m_steps_X15) hown hK hP 0 rfl rfl 28 (by decide) (hts (.fieldLink RX15 443 "MotionSignsModel" "kind" "I") (List.mem_of_getElem? (i := 2) rfl)) (fun _ h9 => h9) (mF.get hF_h0 10 rfl) dX15_steps_7 ?_
  refine lv_if_ne (tgt := 17) hx hb dX15_steps_10 (by decide) (fun hc => absurd (by decide) hc) (fun _ => ?_)
  refine lv_iconst (v := 1) hx hb dX15_steps_13 (by decide) ?_
  refine lv_goto (tgt := 18) hx hb dX15_steps_14 (by decide) ?_
  refine lv_iconst (v := 3) hx hb dX15_steps_18 (by decide) ?_
  have hPc := hP.sub (ws' := [(h0, .inr (15, fs_1))]) [0] rfl
  have hDc := hD.sub (ws' := [(h0, .inr (15, fs_1))]) [0] (by decide) rfl
  have hKc := hK.sub (tys' := []) [] rfl
  have hFc := va_free (wc := [(h0, .inr (15, fs_1))]) hD hS hA [0] rfl
  refine va_calli (va_runV (As := [.int 1, .int 3]) (rest := []) ⟨hx, hb, hml, hown, hts⟩ (c_m_bad3 l dC dI h0 qfed qf qfd qs qk fs_1 (mF.sub hF_h0 [0, 1, 2, 3, 4, 5, 6, 7, 8, 9, 10, 11, 12, 13, 14, 15, 16, 17, 18] rfl) H.size) (cwV 2 hts g_m_steps_m_bad3_424 rfl rfl rfl hv_X15_bad ⟨Nat.le_of_ble_eq_true rfl, Nat.le_of_ble_eq_true rfl⟩) ⟨fun a U g mk q => by obtain ⟨q0, q1, qP, qK, qD, qE0⟩ := q; exact ⟨q0, q1, qP, va_K.moved (u := U) (U := U.calling g mk a) (Vm.Alike.refl U.vm) qK, qD, w_N.same rfl qE0⟩, va_recv hKc hPc (ci := 15) (q0 := 0) rfl rfl, fun U hU hW => ⟨rfl, by rw [hU], by rw [hU]; exact hPc, va_K.moved hW.alike hKc, hDc.weaken (fun _ _ _ _ => trivial), w_N.warm hW hN⟩⟩ rfl rfl hl.1 rfl (lv_room (Nat.le_of_ble_eq_true rfl)) dX15_steps_19 ⟨(Nat.le_of_ble_eq_true rfl), (Nat.le_of_ble_eq_true rfl)⟩) hS (fun q _ h => hFc q h) hFc (fun r_2 u t H1 locs1 ht hvm hw hB hz1 hk1 hS1 => ?_)
  obtain ⟨fs_3, hP1, hK1, hD1, hp_4⟩ := hB
  rw [ht] at hP1
  have hK1 := va_K.moved hvm.symm hK1
  have hJ := va_join (wr := []) (w1 := [(h0, .inr (15, fs_3))]) hP hD [0] [] rfl rfl (by decide) (by decide) hk1 hFc hP1 hD1
  clear hP hD hPc hDc hKc hFc hz1; try clear hk1
  obtain ⟨hP, hD⟩ := hJ
  replace hK := (hK.sub (tys' := []) [] rfl).app (hK1.sub (tys' := []) [] rfl)
  clear hP1 hK1 hD1 hvm ht hS; try clear t
  try clear H
  revert hS1
  intro hS
  generalize H1 = H at hP hS ⊢; try clear H1
  replace hP : va_P (dC, dI) vwCl [(h0, .inr (15, fs_3))] H := hP
  replace hD : va_D A [(h0, .inr (15, fs_3))] := hD
  replace hK : va_K (dC, dI) vwCl [] s := hK
  have hw_5 : r_2 = 1 := hw; clear hw
  subst hw_5
  refine lv_if_ne (tgt := 46) hx hb dX15_steps_22 (by decide) (fun _ => ?_) (fun hc => absurd hc (by decide))
  refine lv_iconst (v := 0) hx hb dX15_steps_46 (by decide) ?_
  have hP9 := hP.sub (ws' := [(h0, .inr (15, fs_3))]) [0] rfl
  have hD9 := hD.sub (ws' := [(h0, .inr (15, fs_3))]) [0] (by decide) rfl
  have hK9 := hK.sub (tys' := []) [] rfl
  rw [← hAe] at hD9
  refine W.widen (k := 0) (n := 0) (Nat.le_of_ble_eq_true rfl) (Nat.le_of_ble_eq_true rfl) ?_
  subst hAe
  exact (W.iret (v := 0) hx hb hr (fun t ht hW => ⟨⟨0, (), rfl, trivial, fs_3, by rw [ht]; exact hP9, va_K.moved hW.alike hK9, hD9, (mF.sub hp_4 [0] rfl)⟩, hS.F ht⟩) hS.2.2 dX15_steps_47)
def wv_m_bracket : List Cond := .code yX15_bracket cX15_bracket 4 (some .int) :: ([.fieldLink RX15 296 "MotionSignsModel" "thrown" "I", .fieldLink RX15 443 "MotionSignsModel" "kind" "I", .methodLink RX15 424 yX15_bad, .instanceMethod yX15_bad, .selects RX15 yX15_bad yX15_bad, .initialized RX15] ++ (wsX150 ++ (wv_m_bad3 ++ ([]))))
theorem gw_m_bracket : wv_m_bracket.all goodWord = true := by decide +kernel
theorem in_m_bracket_X15 : ∀ w ∈ wsX150, w ∈ wv_m_bracket := fun _ h => List.mem_cons_of_mem _ (List.mem_append_right _ (List.mem_append_left _ h))
theorem g_m_bracket_m_bad3_424 : GoodIn wv_m_bracket (wsV RX15 424 RX15 yX15_bad wv_m_bad3) := goodIn_app (goodIn_of _ (by decide +kernel)) (goodIn_sub (fun _ h => List.mem_cons_of_mem _ (List.mem_append_right _ (List.mem_append_right _ (List.mem_append_left _ h)))) gw_m_bad3)
set_option maxHeartbeats 4000000 in
set_option maxRecDepth 100000 in
/-- the reference: bracket on a fresh object -/
theorem c_m_bracket (l : Launch) (dC : Nat → ClassId) (dI : Nat → Nat → Nat) (h0 : Nat) (qfed : Nat) (qf : Nat) (qfd : Nat) (qs : Nat) (qk : Nat) (x0 : Int32) (x1 : Int32) (x2 : Int32) (fs_h0 : List Value) (hF_h0 : mF 89 [(0, .int 0), (18, .int 0), (19, .int 0), (20, .int (-1)), (21, .int 0), (22, .int 0), (23, .int 0), (24, .int 0), (25, .int 0), (27, .int 0), (28, .int 0), (29, .int 0), (35, .int 0), (17, .int (-1)), (26, .ref qfed), (30, .ref qf), (31, .ref qfd), (33, .ref qs), (36, .ref qk)] fs_h0) (sz : Nat) : Met l yX15_bracket wv_m_bracket ({ frames := 1, cells := 0, slots := 0, locals := 22 }) (va_Pc [.ref h0, .int x0, .int x1, .int x2] (fun U => U.heap.size = sz ∧ va_P (dC, dI) vwCl [(h0, .inr (15, fs_h0))] U.heap ∧ va_K (dC, dI) vwCl [] U ∧ va_D (fun _ => True) [(h0, .inr (15, fs_h0))] ∧ w_N U)) (va_Qi (fun (r : Int32) (_ : Unit) => True) (fun _ t => ∃ (fs_e : List Value), va_P (dC, dI) vwCl [(h0, .inr (15, fs_e))] t.heap ∧ va_K (dC, dI) vwCl [] t ∧ va_D (va_A [(h0, .inr (15, fs_h0))] sz) [(h0, .inr (15, fs_e))] ∧ mF 89 [(0, .int 3)] fs_e) (va_A [(h0, .inr (15, fs_h0))] sz)) 0 0 (va_A [(h0, .inr (15, fs_h0))] sz) := by
  refine Met.ofW (cc := cX15_bracket) (maxL := 4) (ret := (some .int)) (by decide) rfl ?_
  intro p e s m args below meth c s₁ B hml hv
  obtain ⟨rfl, hsz, hP, hK, hD0, hN⟩ := hv
  have hx := B.exec
  have hb := B.bytes
  have hr := B.returns
  have hts := atoms_spec (ws := wv_m_bracket) B.pre
  have hown : s.vm.findClass RX15 = some m.cls := findClass_of_methodNamed B.named
  have hlocks := B.notSynchronized
  subst hsz
  have hD := hD0.self (sz := s.heap.size)
  generalize hAe : va_A [(h0, .inr (15, fs_h0))] s.heap.size = A at hD ⊢
  have hA : ∀ q : Nat, s.heap.size ≤ q → A q := fun q h => by rw [← hAe]; exact Or.inr h
  obtain ⟨H, hHe, hP, hS⟩ : ∃ H : Heap, H = s.heap ∧ va_P (dC, dI) vwCl [(h0, .inr (15, fs_h0))] H ∧ va_S A s.heap H [] := ⟨s.heap, rfl, hP, va_S.rf⟩
  have hl := lv_entry ([.ref h0, .int x0, .int x1, .int x2]) (n := 4) (Nat.le_of_ble_eq_true rfl)
  rw [lg_entry_eq]
  generalize (lg_sl ([.ref h0, .int x0, .int x1, .int x2]) ++ List.replicate (4 - (lg_sl ([.ref h0, .int x0, .int x1, .int x2])).length) Slot.unset).toArray = ls at hl ⊢
  have hl : lv_has ls 4 [(0, .ref h0), (1, .int x0), (2, .int x1), (3, .int x2)] := hl
  rw [← hHe]; clear hHe
  refine lv_aload_n hx hb dX15_bracket_0 rfl (lv_at hl 0 rfl) ?_
  refine lv_iconst (v := 0) hx hb dX15_bracket_1 (by decide) ?_
  refine va_put (D := (dC, dI)) (ci := 15) (v := .int 0) (ty := .int) (C := RX15) (T := TX15) (N := 89) hx hb hts (in_m_bracket_X15) tyX15 tyX15_ok nmX15 hown hK hP hD hS 0 rfl rfl 0 (by decide) (hts (.fieldLink RX15 296 "MotionSignsModel" "thrown" "I") (List.mem_of_getElem? (i := 1) rfl)) (fun _ h9 => h9) rfl (tyX15_ok 0 (by decide)) rfl rfl (mF.lt hF_h0 (by decide)) dX15_bracket_2 ?_
  clear hP hD hS; try clear H
  intro H locs hP hD hS
  have hF0 := mF.sub (L' := [(18, .int 0), (19, .int 0), (20, .int (-1)), (21, .int 0), (22, .int 0), (23, .int 0), (24, .int 0), (25, .int 0), (27, .int 0), (28, .int 0), (29, .int 0), (35, .int 0), (17, .int (-1)), (26, .ref qfed), (30, .ref qf), (31, .ref qfd), (33, .ref qs), (36, .ref qk)]) hF_h0 [1, 2, 3, 4, 5, 6, 7, 8, 9, 10, 11, 12, 13, 14, 15, 16, 17, 18] rfl
  have hF1 := mF.put hF0 0 (.int 0) (by decide) rfl
  replace hP : va_P (dC, dI) vwCl [(h0, .inr (15, (fs_h0.set 0 (.int 0))))] H := hP
  replace hD : va_D A [(h0, .inr (15, (fs_h0.set 0 (.int 0))))] := hD
  generalize fs_h0.set 0 (.int 0) = fs_1 at hP hD hF1
  replace hF_h0 : mF 89 [(0, .int 0), (18, .int 0), (19, .int 0), (20, .int (-1)), (21, .int 0), (22, .int 0), (23, .int 0), (24, .int 0), (25, .int 0), (27, .int 0), (28, .int 0), (29, .int 0), (35, .int 0), (17, .int (-1)), (26, .ref qfed), (30, .ref qf), (31, .ref qfd), (33, .ref qs), (36, .ref qk)] fs_1 := hF1
  clear hF1 hF0
  replace hP : va_P (dC, dI) vwCl [(h0, .inr (15, fs_1))] H := hP
  replace hD : va_D A [(h0, .inr (15, fs_1))] := hD
  refine lv_aload_n hx hb dX15_bracket_5 rfl (lv_at hl 0 rfl) ?_
  refine lv_aload_n hx hb dX15_bracket_6 rfl (lv_at hl 0 rfl) ?_
  refine va_get (D := (dC, dI)) (ci := 15) (v := .int 0) (C := RX15) (T := TX15) (N := 89) hx hb hts (in_m_bracket_X15) hown hK hP 0 rfl rfl 28 (by decide) (hts (.fieldLink RX15 443 "MotionSignsModel" "kind" "I") (List.mem_of_getElem? (i := 2) rfl)) (fun _ h9 => h9) (mF.get hF_h0 10 rfl) dX15_bracket_7 ?_
  refine lv_if_ne (tgt := 17) hx hb dX15_bracket_10 (by decide) (fun hc => absurd (by decide) hc) (fun _ => ?_)
  refine lv_iconst (v := 1) hx hb dX15_bracket_13 (by decide) ?_
  refine lv_goto (tgt := 18) hx hb dX15_bracket_14 (by decide) ?_
  refine lv_iconst (v := 3) hx hb dX15_bracket_18 (by decide) ?_
  have hPc := hP.sub (ws' := [(h0, .inr (15, fs_1))]) [0] rfl
  have hDc := hD.sub (ws' := [(h0, .inr (15, fs_1))]) [0] (by decide) rfl
  have hKc := hK.sub (tys' := []) [] rfl
  have hFc := va_free (wc := [(h0, .inr (15, fs_1))]) hD hS hA [0] rfl
  refine va_calli (va_runV (As := [.int 1, .int 3]) (rest := []) ⟨hx, hb, hml, hown, hts⟩ (c_m_bad3 l dC dI h0 qfed qf qfd qs qk fs_1 (mF.sub hF_h0 [0, 1, 2, 3, 4, 5, 6, 7, 8, 9, 10, 11, 12, 13, 14, 15, 16, 17, 18] rfl) H.size) (cwV 2 hts g_m_bracket_m_bad3_424 rfl rfl rfl hv_X15_bad ⟨Nat.le_of_ble_eq_true rfl, Nat.le_of_ble_eq_true rfl⟩) ⟨fun a U g mk q => by obtain ⟨q0, q1, qP, qK, qD, qE0⟩ := q; exact ⟨q0, q1, qP, va_K.moved (u := U) (U := U.calling g mk a) (Vm.Alike.refl U.vm) qK, qD, w_N.same rfl qE0⟩, va_recv hKc hPc (ci := 15) (q0 := 0) rfl rfl, fun U hU hW => ⟨rfl, by rw [hU], by rw [hU]; exact hPc, va_K.moved hW.alike hKc, hDc.weaken (fun _ _ _ _ => trivial), w_N.warm hW hN⟩⟩ rfl rfl hl.1 rfl (lv_room (Nat.le_of_ble_eq_true rfl)) dX15_bracket_19 ⟨(Nat.le_of_ble_eq_true rfl), (Nat.le_of_ble_eq_true rfl)⟩) hS (fun q _ h => hFc q h) hFc (fun r_2 u t H1 locs1 ht hvm hw hB hz1 hk1 hS1 => ?_)
  obtain ⟨fs_3, hP1, hK1, hD1, hp_4⟩ := hB
  rw [ht] at hP1
  have hK1 := va_K.moved hvm.symm hK1
  have hJ := va_join (wr := []) (w1 := [(h0, .inr (15, fs_3))]) hP hD [0] [] rfl rfl (by decide) (by decide) hk1 hFc hP1 hD1
  clear hP hD hPc hDc hKc hFc hz1; try clear hk1
  obtain ⟨hP, hD⟩ := hJ
  replace hK := (hK.sub (tys' := []) [] rfl).app (hK1.sub (tys' := []) [] rfl)
  clear hP1 hK1 hD1 hvm ht hS; try clear t
  try clear H
  revert hS1
  intro hS
  generalize H1 = H at hP hS ⊢; try clear H1
  replace hP : va_P (dC, dI) vwCl [(h0, .inr (15, fs_3))] H := hP
  replace hD : va_D A [(h0, .inr (15, fs_3))] := hD
  replace hK : va_K (dC, dI) vwCl [] s := hK
  have hw_5 : r_2 = 1 := hw; clear hw
  subst hw_5
  refine lv_if_ne (tgt := 46) hx hb dX15_bracket_22 (by decide) (fun _ => ?_) (fun hc => absurd hc (by decide))
  refine lv_iconst (v := 0) hx hb dX15_bracket_46 (by decide) ?_
  have hP9 := hP.sub (ws' := [(h0, .inr (15, fs_3))]) [0] rfl
  have hD9 := hD.sub (ws' := [(h0, .inr (15, fs_3))]) [0] (by decide) rfl
  have hK9 := hK.sub (tys' := []) [] rfl
  rw [← hAe] at hD9
  refine W.widen (k := 0) (n := 0) (Nat.le_of_ble_eq_true rfl) (Nat.le_of_ble_eq_true rfl) ?_
  subst hAe
  exact (W.iret (v := 0) hx hb hr (fun t ht hW => ⟨⟨0, (), rfl, trivial, fs_3, by rw [ht]; exact hP9, va_K.moved hW.alike hK9, hD9, (mF.sub hp_4 [0] rfl)⟩, hS.F ht⟩) hS.2.2 dX15_bracket_47)
def wv_m_stretches : List Cond := .code yX15_stretches cX15_stretches 1 (some .int) :: ([.fieldLink RX15 296 "MotionSignsModel" "thrown" "I", .fieldLink RX15 443 "MotionSignsModel" "kind" "I", .methodLink RX15 424 yX15_bad, .instanceMethod yX15_bad, .selects RX15 yX15_bad yX15_bad, .initialized RX15] ++ (wsX150 ++ (wv_m_bad1 ++ ([]))))
theorem gw_m_stretches : wv_m_stretches.all goodWord = true := by decide +kernel
theorem in_m_stretches_X15 : ∀ w ∈ wsX150, w ∈ wv_m_stretches := fun _ h => List.mem_cons_of_mem _ (List.mem_append_right _ (List.mem_append_left _ h))
theorem g_m_stretches_m_bad1_424 : GoodIn wv_m_stretches (wsV RX15 424 RX15 yX15_bad wv_m_bad1) := goodIn_app (goodIn_of _ (by decide +kernel)) (goodIn_sub (fun _ h => List.mem_cons_of_mem _ (List.mem_append_right _ (List.mem_append_right _ (List.mem_append_left _ h)))) gw_m_bad1)
set_option maxHeartbeats 4000000 in
set_option maxRecDepth 100000 in
/-- the reference: stretches on a fresh object -/
theorem c_m_stretches (l : Launch) (dC : Nat → ClassId) (dI : Nat → Nat → Nat) (h0 : Nat) (qfed : Nat) (qf : Nat) (qfd : Nat) (qs : Nat) (qk : Nat) (fs_h0 : List Value) (hF_h0 : mF 89 [(0, .int 0), (18, .int 0), (19, .int 0), (20, .int (-1)), (21, .int 0), (22, .int 0), (23, .int 0), (24, .int 0), (25, .int 0), (27, .int 0), (28, .int 0), (29, .int 0), (35, .int 0), (17, .int (-1)), (26, .ref qfed), (30, .ref qf), (31, .ref qfd), (33, .ref qs), (36, .ref qk)] fs_h0) (sz : Nat) : Met l yX15_stretches wv_m_stretches ({ frames := 1, cells := 0, slots := 0, locals := 22 }) (va_Pc [.ref h0] (fun U => U.heap.size = sz ∧ va_P (dC, dI) vwCl [(h0, .inr (15, fs_h0))] U.heap ∧ va_K (dC, dI) vwCl [] U ∧ va_D (fun _ => True) [(h0, .inr (15, fs_h0))] ∧ w_N U)) (va_Qi (fun (r : Int32) (_ : Unit) => True) (fun _ t => ∃ (fs_e : List Value), va_P (dC, dI) vwCl [(h0, .inr (15, fs_e))] t.heap ∧ va_K (dC, dI) vwCl [] t ∧ va_D (va_A [(h0, .inr (15, fs_h0))] sz) [(h0, .inr (15, fs_e))] ∧ mF 89 [(0, .int 1)] fs_e) (va_A [(h0, .inr (15, fs_h0))] sz)) 0 0 (va_A [(h0, .inr (15, fs_h0))] sz) := by
  refine Met.ofW (cc := cX15_stretches) (maxL := 1) (ret := (some .int)) (by decide) rfl ?_
  intro p e s m args below meth c s₁ B hml hv
  obtain ⟨rfl, hsz, hP, hK, hD0, hN⟩ := hv
  have hx := B.exec
  have hb := B.bytes
  have hr := B.returns
  have hts := atoms_spec (ws := wv_m_stretches) B.pre
  have hown : s.vm.findClass RX15 = some m.cls := findClass_of_methodNamed B.named
  have hlocks := B.notSynchronized
  subst hsz
  have hD := hD0.self (sz := s.heap.size)
  generalize hAe : va_A [(h0, .inr (15, fs_h0))] s.heap.size = A at hD ⊢
  have hA : ∀ q : Nat, s.heap.size ≤ q → A q := fun q h => by rw [← hAe]; exact Or.inr h
  obtain ⟨H, hHe, hP, hS⟩ : ∃ H : Heap, H = s.heap ∧ va_P (dC, dI) vwCl [(h0, .inr (15, fs_h0))] H ∧ va_S A s.heap H [] := ⟨s.heap, rfl, hP, va_S.rf⟩
  have hl := lv_entry ([.ref h0]) (n := 1) (Nat.le_of_ble_eq_true rfl)
  rw [lg_entry_eq]
  generalize (lg_sl ([.ref h0]) ++ List.replicate (1 - (lg_sl ([.ref h0])).length) Slot.unset).toArray = ls at hl ⊢
  have hl : lv_has ls 1 [(0, .ref h0)] := hl
  rw [← hHe]; clear hHe
  refine lv_aload_n hx hb dX15_stretches_0 rfl (lv_at hl 0 rfl) ?_
  refine lv_iconst (v := 0) hx hb dX15_stretches_1 (by decide) ?_
  refine va_put (D := (dC, dI)) (ci := 15) (v := .int 0) (ty := .int) (C := RX15) (T := TX15) (N := 89) hx hb hts (in_m_stretches_X15) tyX15 tyX15_ok nmX15 hown hK hP hD hS 0 rfl rfl 0 (by decide) (hts (.fieldLink RX15 296 "MotionSignsModel" "thrown" "I") (List.mem_of_getElem? (i := 1) rfl)) (fun _ h9 => h9) rfl (tyX15_ok 0 (by decide)) rfl rfl (mF.lt hF_h0 (by decide)) dX15_stretches_2 ?_
  clear hP hD hS; try clear H
  intro H locs hP hD hS
  have hF0 := mF.sub (L' := [(18, .int 0), (19, .int 0), (20, .int (-1)), (21, .int 0), (22, .int 0), (23, .int 0), (24, .int 0), (25, .int 0), (27, .int 0), (28, .int 0), (29, .int 0), (35, .int 0), (17, .int (-1)), (26, .ref qfed), (30, .ref qf), (31, .ref qfd), (33, .ref qs), (36, .ref qk)]) hF_h0 [1, 2, 3, 4, 5, 6, 7, 8, 9, 10, 11, 12, 13, 14, 15, 16, 17, 18] rfl
  have hF1 := mF.put hF0 0 (.int 0) (by decide) rfl
  replace hP : va_P (dC, dI) vwCl [(h0, .inr (15, (fs_h0.set 0 (.int 0))))] H := hP
  replace hD : va_D A [(h0, .inr (15, (fs_h0.set 0 (.int 0))))] := hD
  generalize fs_h0.set 0 (.int 0) = fs_1 at hP hD hF1
  replace hF_h0 : mF 89 [(0, .int 0), (18, .int 0), (19, .int 0), (20, .int (-1)), (21, .int 0), (22, .int 0), (23, .int 0), (24, .int 0), (25, .int 0), (27, .int 0), (28, .int 0), (29, .int 0), (35, .int 0), (17, .int (-1)), (26, .ref qfed), (30, .ref qf), (31, .ref qfd), (33, .ref qs), (36, .ref qk)] fs_1 := hF1
  clear hF1 hF0
  replace hP : va_P (dC, dI) vwCl [(h0, .inr (15, fs_1))] H := hP
  replace hD : va_D A [(h0, .inr (15, fs_1))] := hD
  refine lv_aload_n hx hb dX15_stretches_5 rfl (lv_at hl 0 rfl) ?_
  refine lv_aload_n hx hb dX15_stretches_6 rfl (lv_at hl 0 rfl) ?_
  refine va_get (D := (dC, dI)) (ci := 15) (v := .int 0) (C := RX15) (T := TX15) (N := 89) hx hb hts (in_m_stretches_X15) hown hK hP 0 rfl rfl 28 (by decide) (hts (.fieldLink RX15 443 "MotionSignsModel" "kind" "I") (List.mem_of_getElem? (i := 2) rfl)) (fun _ h9 => h9) (mF.get hF_h0 10 rfl) dX15_stretches_7 ?_
  refine lv_if_ne (tgt := 17) hx hb dX15_stretches_10 (by decide) (fun hc => absurd (by decide) hc) (fun _ => ?_)
  refine lv_iconst (v := 1) hx hb dX15_stretches_13 (by decide) ?_
  refine lv_goto (tgt := 18) hx hb dX15_stretches_14 (by decide) ?_
  refine lv_iconst (v := 1) hx hb dX15_stretches_18 (by decide) ?_
  have hPc := hP.sub (ws' := [(h0, .inr (15, fs_1))]) [0] rfl
  have hDc := hD.sub (ws' := [(h0, .inr (15, fs_1))]) [0] (by decide) rfl
  have hKc := hK.sub (tys' := []) [] rfl
  have hFc := va_free (wc := [(h0, .inr (15, fs_1))]) hD hS hA [0] rfl
  refine va_calli (va_runV (As := [.int 1, .int 1]) (rest := []) ⟨hx, hb, hml, hown, hts⟩ (c_m_bad1 l dC dI h0 qfed qf qfd qs qk fs_1 (mF.sub hF_h0 [0, 1, 2, 3, 4, 5, 6, 7, 8, 9, 10, 11, 12, 13, 14, 15, 16, 17, 18] rfl) H.size) (cwV 2 hts g_m_stretches_m_bad1_424 rfl rfl rfl hv_X15_bad ⟨Nat.le_of_ble_eq_true rfl, Nat.le_of_ble_eq_true rfl⟩) ⟨fun a U g mk q => by obtain ⟨q0, q1, qP, qK, qD, qE0⟩ := q; exact ⟨q0, q1, qP, va_K.moved (u := U) (U := U.calling g mk a) (Vm.Alike.refl U.vm) qK, qD, w_N.same rfl qE0⟩, va_recv hKc hPc (ci := 15) (q0 := 0) rfl rfl, fun U hU hW => ⟨rfl, by rw [hU], by rw [hU]; exact hPc, va_K.moved hW.alike hKc, hDc.weaken (fun _ _ _ _ => trivial), w_N.warm hW hN⟩⟩ rfl rfl hl.1 rfl (lv_room (Nat.le_of_ble_eq_true rfl)) dX15_stretches_19 ⟨(Nat.le_of_ble_eq_true rfl), (Nat.le_of_ble_eq_true rfl)⟩) hS (fun q _ h => hFc q h) hFc (fun r_2 u t H1 locs1 ht hvm hw hB hz1 hk1 hS1 => ?_)
  obtain ⟨fs_3, hP1, hK1, hD1, hp_4⟩ := hB
  rw [ht] at hP1
  have hK1 := va_K.moved hvm.symm hK1
  have hJ := va_join (wr := []) (w1 := [(h0, .inr (15, fs_3))]) hP hD [0] [] rfl rfl (by decide) (by decide) hk1 hFc hP1 hD1
  clear hP hD hPc hDc hKc hFc hz1; try clear hk1
  obtain ⟨hP, hD⟩ := hJ
  replace hK := (hK.sub (tys' := []) [] rfl).app (hK1.sub (tys' := []) [] rfl)
  clear hP1 hK1 hD1 hvm ht hS; try clear t
  try clear H
  revert hS1
  intro hS
  generalize H1 = H at hP hS ⊢; try clear H1
  replace hP : va_P (dC, dI) vwCl [(h0, .inr (15, fs_3))] H := hP
  replace hD : va_D A [(h0, .inr (15, fs_3))] := hD
  replace hK : va_K (dC, dI) vwCl [] s := hK
  have hw_5 : r_2 = 1 := hw; clear hw
  subst hw_5
  refine lv_if_eq (tgt := 27) hx hb dX15_stretches_22 (by decide) (fun hc => absurd hc (by decide)) (fun _ => ?_)
  refine lv_iconst (v := 0) hx hb dX15_stretches_25 (by decide) ?_
  have hP9 := hP.sub (ws' := [(h0, .inr (15, fs_3))]) [0] rfl
  have hD9 := hD.sub (ws' := [(h0, .inr (15, fs_3))]) [0] (by decide) rfl
  have hK9 := hK.sub (tys' := []) [] rfl
  rw [← hAe] at hD9
  refine W.widen (k := 0) (n := 0) (Nat.le_of_ble_eq_true rfl) (Nat.le_of_ble_eq_true rfl) ?_
  subst hAe
  exact (W.iret (v := 0) hx hb hr (fun t ht hW => ⟨⟨0, (), rfl, trivial, fs_3, by rw [ht]; exact hP9, va_K.moved hW.alike hK9, hD9, (mF.sub hp_4 [0] rfl)⟩, hS.F ht⟩) hS.2.2 dX15_stretches_26)
def wv_m_stretch : List Cond := .code yX15_stretch cX15_stretch 3 (some .int) :: ([.fieldLink RX15 296 "MotionSignsModel" "thrown" "I", .fieldLink RX15 443 "MotionSignsModel" "kind" "I", .methodLink RX15 424 yX15_bad, .instanceMethod yX15_bad, .selects RX15 yX15_bad yX15_bad, .initialized RX15] ++ (wsX150 ++ (wv_m_bad3 ++ ([]))))
theorem gw_m_stretch : wv_m_stretch.all goodWord = true := by decide +kernel
theorem in_m_stretch_X15 : ∀ w ∈ wsX150, w ∈ wv_m_stretch := fun _ h => List.mem_cons_of_mem _ (List.mem_append_right _ (List.mem_append_left _ h))
theorem g_m_stretch_m_bad3_424 : GoodIn wv_m_stretch (wsV RX15 424 RX15 yX15_bad wv_m_bad3) := goodIn_app (goodIn_of _ (by decide +kernel)) (goodIn_sub (fun _ h => List.mem_cons_of_mem _ (List.mem_append_right _ (List.mem_append_right _ (List.mem_append_left _ h)))) gw_m_bad3)
set_option maxHeartbeats 4000000 in
set_option maxRecDepth 100000 in
/-- the reference: stretch on a fresh object -/
theorem c_m_stretch (l : Launch) (dC : Nat → ClassId) (dI : Nat → Nat → Nat) (h0 : Nat) (qfed : Nat) (qf : Nat) (qfd : Nat) (qs : Nat) (qk : Nat) (x0 : Int32) (x1 : Int32) (fs_h0 : List Value) (hF_h0 : mF 89 [(0, .int 0), (18, .int 0), (19, .int 0), (20, .int (-1)), (21, .int 0), (22, .int 0), (23, .int 0), (24, .int 0), (25, .int 0), (27, .int 0), (28, .int 0), (29, .int 0), (35, .int 0), (17, .int (-1)), (26, .ref qfed), (30, .ref qf), (31, .ref qfd), (33, .ref qs), (36, .ref qk)] fs_h0) (sz : Nat) : Met l yX15_stretch wv_m_stretch ({ frames := 1, cells := 0, slots := 0, locals := 22 }) (va_Pc [.ref h0, .int x0, .int x1] (fun U => U.heap.size = sz ∧ va_P (dC, dI) vwCl [(h0, .inr (15, fs_h0))] U.heap ∧ va_K (dC, dI) vwCl [] U ∧ va_D (fun _ => True) [(h0, .inr (15, fs_h0))] ∧ w_N U)) (va_Qi (fun (r : Int32) (_ : Unit) => True) (fun _ t => ∃ (fs_e : List Value), va_P (dC, dI) vwCl [(h0, .inr (15, fs_e))] t.heap ∧ va_K (dC, dI) vwCl [] t ∧ va_D (va_A [(h0, .inr (15, fs_h0))] sz) [(h0, .inr (15, fs_e))] ∧ mF 89 [(0, .int 3)] fs_e) (va_A [(h0, .inr (15, fs_h0))] sz)) 0 0 (va_A [(h0, .inr (15, fs_h0))] sz) := by
  refine Met.ofW (cc := cX15_stretch) (maxL := 3) (ret := (some .int)) (by decide) rfl ?_
  intro p e s m args below meth c s₁ B hml hv
  obtain ⟨rfl, hsz, hP, hK, hD0, hN⟩ := hv
  have hx := B.exec
  have hb := B.bytes
  have hr := B.returns
  have hts := atoms_spec (ws := wv_m_stretch) B.pre
  have hown : s.vm.findClass RX15 = some m.cls := findClass_of_methodNamed B.named
  have hlocks := B.notSynchronized
  subst hsz
  have hD := hD0.self (sz := s.heap.size)
  generalize hAe : va_A [(h0, .inr (15, fs_h0))] s.heap.size = A at hD ⊢
  have hA : ∀ q : Nat, s.heap.size ≤ q → A q := fun q h => by rw [← hAe]; exact Or.inr h
  obtain ⟨H, hHe, hP, hS⟩ : ∃ H : Heap, H = s.heap ∧ va_P (dC, dI) vwCl [(h0, .inr (15, fs_h0))] H ∧ va_S A s.heap H [] := ⟨s.heap, rfl, hP, va_S.rf⟩
  have hl := lv_entry ([.ref h0, .int x0, .int x1]) (n := 3) (Nat.le_of_ble_eq_true rfl)
  rw [lg_entry_eq]
  generalize (lg_sl ([.ref h0, .int x0, .int x1]) ++ List.replicate (3 - (lg_sl ([.ref h0, .int x0, .int x1])).length) Slot.unset).toArray = ls at hl ⊢
  have hl : lv_has ls 3 [(0, .ref h0), (1, .int x0), (2, .int x1)] := hl
  rw [← hHe]; clear hHe
  refine lv_aload_n hx hb dX15_stretch_0 rfl (lv_at hl 0 rfl) ?_
  refine lv_iconst (v := 0) hx hb dX15_stretch_1 (by decide) ?_
  refine va_put (D := (dC, dI)) (ci := 15) (v := .int 0) (ty := .int) (C := RX15) (T := TX15) (N := 89) hx hb hts (in_m_stretch_X15) tyX15 tyX15_ok nmX15 hown hK hP hD hS 0 rfl rfl 0 (by decide) (hts (.fieldLink RX15 296 "MotionSignsModel" "thrown" "I") (List.mem_of_getElem? (i := 1) rfl)) (fun _ h9 => h9) rfl (tyX15_ok 0 (by decide)) rfl rfl (mF.lt hF_h0 (by decide)) dX15_stretch_2 ?_
  clear hP hD hS; try clear H
  intro H locs hP hD hS
  have hF0 := mF.sub (L' := [(18, .int 0), (19, .int 0), (20, .int (-1)), (21, .int 0), (22, .int 0), (23, .int 0), (24, .int 0), (25, .int 0), (27, .int 0), (28, .int 0), (29, .int 0), (35, .int 0), (17, .int (-1)), (26, .ref qfed), (30, .ref qf), (31, .ref qfd), (33, .ref qs), (36, .ref qk)]) hF_h0 [1, 2, 3, 4, 5, 6, 7, 8, 9, 10, 11, 12, 13, 14, 15, 16, 17, 18] rfl
  have hF1 := mF.put hF0 0 (.int 0) (by decide) rfl
  replace hP : va_P (dC, dI) vwCl [(h0, .inr (15, (fs_h0.set 0 (.int 0))))] H := hP
  replace hD : va_D A [(h0, .inr (15, (fs_h0.set 0 (.int 0))))] := hD
  generalize fs_h0.set 0 (.int 0) = fs_1 at hP hD hF1
  replace hF_h0 : mF 89 [(0, .int 0), (18, .int 0), (19, .int 0), (20, .int (-1)), (21, .int 0), (22, .int 0), (23, .int 0), (24, .int 0), (25, .int 0), (27, .int 0), (28, .int 0), (29, .int 0), (35, .int 0), (17, .int (-1)), (26, .ref qfed), (30, .ref qf), (31, .ref qfd), (33, .ref qs), (36, .ref qk)] fs_1 := hF1
  clear hF1 hF0
  replace hP : va_P (dC, dI) vwCl [(h0, .inr (15, fs_1))] H := hP
  replace hD : va_D A [(h0, .inr (15, fs_1))] := hD
  refine lv_aload_n hx hb dX15_stretch_5 rfl (lv_at hl 0 rfl) ?_
  refine lv_aload_n hx hb dX15_stretch_6 rfl (lv_at hl 0 rfl) ?_
  refine va_get (D := (dC, dI)) (ci := 15) (v := .int 0) (C := RX15) (T := TX15) (N := 89) hx hb hts (in_m_stretch_X15) hown hK hP 0 rfl rfl 28 (by decide) (hts (.fieldLink RX15 443 "MotionSignsModel" "kind" "I") (List.mem_of_getElem? (i := 2) rfl)) (fun _ h9 => h9) (mF.get hF_h0 10 rfl) dX15_stretch_7 ?_
  refine lv_if_ne (tgt := 17) hx hb dX15_stretch_10 (by decide) (fun hc => absurd (by decide) hc) (fun _ => ?_)
  refine lv_iconst (v := 1) hx hb dX15_stretch_13 (by decide) ?_
  refine lv_goto (tgt := 18) hx hb dX15_stretch_14 (by decide) ?_
  refine lv_iconst (v := 3) hx hb dX15_stretch_18 (by decide) ?_
  have hPc := hP.sub (ws' := [(h0, .inr (15, fs_1))]) [0] rfl
  have hDc := hD.sub (ws' := [(h0, .inr (15, fs_1))]) [0] (by decide) rfl
  have hKc := hK.sub (tys' := []) [] rfl
  have hFc := va_free (wc := [(h0, .inr (15, fs_1))]) hD hS hA [0] rfl
  refine va_calli (va_runV (As := [.int 1, .int 3]) (rest := []) ⟨hx, hb, hml, hown, hts⟩ (c_m_bad3 l dC dI h0 qfed qf qfd qs qk fs_1 (mF.sub hF_h0 [0, 1, 2, 3, 4, 5, 6, 7, 8, 9, 10, 11, 12, 13, 14, 15, 16, 17, 18] rfl) H.size) (cwV 2 hts g_m_stretch_m_bad3_424 rfl rfl rfl hv_X15_bad ⟨Nat.le_of_ble_eq_true rfl, Nat.le_of_ble_eq_true rfl⟩) ⟨fun a U g mk q => by obtain ⟨q0, q1, qP, qK, qD, qE0⟩ := q; exact ⟨q0, q1, qP, va_K.moved (u := U) (U := U.calling g mk a) (Vm.Alike.refl U.vm) qK, qD, w_N.same rfl qE0⟩, va_recv hKc hPc (ci := 15) (q0 := 0) rfl rfl, fun U hU hW => ⟨rfl, by rw [hU], by rw [hU]; exact hPc, va_K.moved hW.alike hKc, hDc.weaken (fun _ _ _ _ => trivial), w_N.warm hW hN⟩⟩ rfl rfl hl.1 rfl (lv_room (Nat.le_of_ble_eq_true rfl)) dX15_stretch_19 ⟨(Nat.le_of_ble_eq_true rfl), (Nat.le_of_ble_eq_true rfl)⟩) hS (fun q _ h => hFc q h) hFc (fun r_2 u t H1 locs1 ht hvm hw hB hz1 hk1 hS1 => ?_)
  obtain ⟨fs_3, hP1, hK1, hD1, hp_4⟩ := hB
  rw [ht] at hP1
  have hK1 := va_K.moved hvm.symm hK1
  have hJ := va_join (wr := []) (w1 := [(h0, .inr (15, fs_3))]) hP hD [0] [] rfl rfl (by decide) (by decide) hk1 hFc hP1 hD1
  clear hP hD hPc hDc hKc hFc hz1; try clear hk1
  obtain ⟨hP, hD⟩ := hJ
  replace hK := (hK.sub (tys' := []) [] rfl).app (hK1.sub (tys' := []) [] rfl)
  clear hP1 hK1 hD1 hvm ht hS; try clear t
  try clear H
  revert hS1
  intro hS
  generalize H1 = H at hP hS ⊢; try clear H1
  replace hP : va_P (dC, dI) vwCl [(h0, .inr (15, fs_3))] H := hP
  replace hD : va_D A [(h0, .inr (15, fs_3))] := hD
  replace hK : va_K (dC, dI) vwCl [] s := hK
  have hw_5 : r_2 = 1 := hw; clear hw
  subst hw_5
  refine lv_if_eq (tgt := 27) hx hb dX15_stretch_22 (by decide) (fun hc => absurd hc (by decide)) (fun _ => ?_)
  refine lv_iconst (v := 0) hx hb dX15_stretch_25 (by decide) ?_
  have hP9 := hP.sub (ws' := [(h0, .inr (15, fs_3))]) [0] rfl
  have hD9 := hD.sub (ws' := [(h0, .inr (15, fs_3))]) [0] (by decide) rfl
  have hK9 := hK.sub (tys' := []) [] rfl
  rw [← hAe] at hD9
  refine W.widen (k := 0) (n := 0) (Nat.le_of_ble_eq_true rfl) (Nat.le_of_ble_eq_true rfl) ?_
  subst hAe
  exact (W.iret (v := 0) hx hb hr (fun t ht hW => ⟨⟨0, (), rfl, trivial, fs_3, by rw [ht]; exact hP9, va_K.moved hW.alike hK9, hD9, (mF.sub hp_4 [0] rfl)⟩, hS.F ht⟩) hS.2.2 dX15_stretch_26)
def wv_m_keeps : List Cond := .code yX15_keeps cX15_keeps 4 (some .int) :: ([.fieldLink RX15 296 "MotionSignsModel" "thrown" "I", .fieldLink RX15 443 "MotionSignsModel" "kind" "I", .methodLink RX15 424 yX15_bad, .instanceMethod yX15_bad, .selects RX15 yX15_bad yX15_bad, .initialized RX15] ++ (wsX150 ++ (wv_m_bad3 ++ ([]))))
theorem gw_m_keeps : wv_m_keeps.all goodWord = true := by decide +kernel
theorem in_m_keeps_X15 : ∀ w ∈ wsX150, w ∈ wv_m_keeps := fun _ h => List.mem_cons_of_mem _ (List.mem_append_right _ (List.mem_append_left _ h))
theorem g_m_keeps_m_bad3_424 : GoodIn wv_m_keeps (wsV RX15 424 RX15 yX15_bad wv_m_bad3) := goodIn_app (goodIn_of _ (by decide +kernel)) (goodIn_sub (fun _ h => List.mem_cons_of_mem _ (List.mem_append_right _ (List.mem_append_right _ (List.mem_append_left _ h)))) gw_m_bad3)
set_option maxHeartbeats 4000000 in
set_option maxRecDepth 100000 in
/-- the reference: keeps on a fresh object -/
theorem c_m_keeps (l : Launch) (dC : Nat → ClassId) (dI : Nat → Nat → Nat) (h0 : Nat) (qfed : Nat) (qf : Nat) (qfd : Nat) (qs : Nat) (qk : Nat) (x0 : Int32) (x1 : Int32) (x2 : Int32) (fs_h0 : List Value) (hF_h0 : mF 89 [(0, .int 0), (18, .int 0), (19, .int 0), (20, .int (-1)), (21, .int 0), (22, .int 0), (23, .int 0), (24, .int 0), (25, .int 0), (27, .int 0), (28, .int 0), (29, .int 0), (35, .int 0), (17, .int (-1)), (26, .ref qfed), (30, .ref qf), (31, .ref qfd), (33, .ref qs), (36, .ref qk)] fs_h0) (sz : Nat) : Met l yX15_keeps wv_m_keeps ({ frames := 1, cells := 0, slots := 0, locals := 22 }) (va_Pc [.ref h0, .int x0, .int x1, .int x2] (fun U => U.heap.size = sz ∧ va_P (dC, dI) vwCl [(h0, .inr (15, fs_h0))] U.heap ∧ va_K (dC, dI) vwCl [] U ∧ va_D (fun _ => True) [(h0, .inr (15, fs_h0))] ∧ w_N U)) (va_Qi (fun (r : Int32) (_ : Unit) => True) (fun _ t => ∃ (fs_e : List Value), va_P (dC, dI) vwCl [(h0, .inr (15, fs_e))] t.heap ∧ va_K (dC, dI) vwCl [] t ∧ va_D (va_A [(h0, .inr (15, fs_h0))] sz) [(h0, .inr (15, fs_e))] ∧ mF 89 [(0, .int 3)] fs_e) (va_A [(h0, .inr (15, fs_h0))] sz)) 0 0 (va_A [(h0, .inr (15, fs_h0))] sz) := by
  refine Met.ofW (cc := cX15_keeps) (maxL := 4) (ret := (some .int)) (by decide) rfl ?_
  intro p e s m args below meth c s₁ B hml hv
  obtain ⟨rfl, hsz, hP, hK, hD0, hN⟩ := hv
  have hx := B.exec
  have hb := B.bytes
  have hr := B.returns
  have hts := atoms_spec (ws := wv_m_keeps) B.pre
  have hown : s.vm.findClass RX15 = some m.cls := findClass_of_methodNamed B.named
  have hlocks := B.notSynchronized
  subst hsz
  have hD := hD0.self (sz := s.heap.size)
  generalize hAe : va_A [(h0, .inr (15, fs_h0))] s.heap.size = A at hD ⊢
  have hA : ∀ q : Nat, s.heap.size ≤ q → A q := fun q h => by rw [← hAe]; exact Or.inr h
  obtain ⟨H, hHe, hP, hS⟩ : ∃ H : Heap, H = s.heap ∧ va_P (dC, dI) vwCl [(h0, .inr (15, fs_h0))] H ∧ va_S A s.heap H [] := ⟨s.heap, rfl, hP, va_S.rf⟩
  have hl := lv_entry ([.ref h0, .int x0, .int x1, .int x2]) (n := 4) (Nat.le_of_ble_eq_true rfl)
  rw [lg_entry_eq]
  generalize (lg_sl ([.ref h0, .int x0, .int x1, .int x2]) ++ List.replicate (4 - (lg_sl ([.ref h0, .int x0, .int x1, .int x2])).length) Slot.unset).toArray = ls at hl ⊢
  have hl : lv_has ls 4 [(0, .ref h0), (1, .int x0), (2, .int x1), (3, .int x2)] := hl
  rw [← hHe]; clear hHe
  refine lv_aload_n hx hb dX15_keeps_0 rfl (lv_at hl 0 rfl) ?_
  refine lv_iconst (v := 0) hx hb dX15_keeps_1 (by decide) ?_
  refine va_put (D := (dC, dI)) (ci := 15) (v := .int 0) (ty := .int) (C := RX15) (T := TX15) (N := 89) hx hb hts (in_m_keeps_X15) tyX15 tyX15_ok nmX15 hown hK hP hD hS 0 rfl rfl 0 (by decide) (hts (.fieldLink RX15 296 "MotionSignsModel" "thrown" "I") (List.mem_of_getElem? (i := 1) rfl)) (fun _ h9 => h9) rfl (tyX15_ok 0 (by decide)) rfl rfl (mF.lt hF_h0 (by decide)) dX15_keeps_2 ?_
  clear hP hD hS; try clear H
  intro H locs hP hD hS
  have hF0 := mF.sub (L' := [(18, .int 0), (19, .int 0), (20, .int (-1)), (21, .int 0), (22, .int 0), (23, .int 0), (24, .int 0), (25, .int 0), (27, .int 0), (28, .int 0), (29, .int 0), (35, .int 0), (17, .int (-1)), (26, .ref qfed), (30, .ref qf), (31, .ref qfd), (33, .ref qs), (36, .ref qk)]) hF_h0 [1, 2, 3, 4, 5, 6, 7, 8, 9, 10, 11, 12, 13, 14, 15, 16, 17, 18] rfl
  have hF1 := mF.put hF0 0 (.int 0) (by decide) rfl
  replace hP : va_P (dC, dI) vwCl [(h0, .inr (15, (fs_h0.set 0 (.int 0))))] H := hP
  replace hD : va_D A [(h0, .inr (15, (fs_h0.set 0 (.int 0))))] := hD
  generalize fs_h0.set 0 (.int 0) = fs_1 at hP hD hF1
  replace hF_h0 : mF 89 [(0, .int 0), (18, .int 0), (19, .int 0), (20, .int (-1)), (21, .int 0), (22, .int 0), (23, .int 0), (24, .int 0), (25, .int 0), (27, .int 0), (28, .int 0), (29, .int 0), (35, .int 0), (17, .int (-1)), (26, .ref qfed), (30, .ref qf), (31, .ref qfd), (33, .ref qs), (36, .ref qk)] fs_1 := hF1
  clear hF1 hF0
  replace hP : va_P (dC, dI) vwCl [(h0, .inr (15, fs_1))] H := hP
  replace hD : va_D A [(h0, .inr (15, fs_1))] := hD
  refine lv_aload_n hx hb dX15_keeps_5 rfl (lv_at hl 0 rfl) ?_
  refine lv_aload_n hx hb dX15_keeps_6 rfl (lv_at hl 0 rfl) ?_
  refine va_get (D := (dC, dI)) (ci := 15) (v := .int 0) (C := RX15) (T := TX15) (N := 89) hx hb hts (in_m_keeps_X15) hown hK hP 0 rfl rfl 28 (by decide) (hts (.fieldLink RX15 443 "MotionSignsModel" "kind" "I") (List.mem_of_getElem? (i := 2) rfl)) (fun _ h9 => h9) (mF.get hF_h0 10 rfl) dX15_keeps_7 ?_
  refine lv_if_ne (tgt := 17) hx hb dX15_keeps_10 (by decide) (fun hc => absurd (by decide) hc) (fun _ => ?_)
  refine lv_iconst (v := 1) hx hb dX15_keeps_13 (by decide) ?_
  refine lv_goto (tgt := 18) hx hb dX15_keeps_14 (by decide) ?_
  refine lv_iconst (v := 3) hx hb dX15_keeps_18 (by decide) ?_
  have hPc := hP.sub (ws' := [(h0, .inr (15, fs_1))]) [0] rfl
  have hDc := hD.sub (ws' := [(h0, .inr (15, fs_1))]) [0] (by decide) rfl
  have hKc := hK.sub (tys' := []) [] rfl
  have hFc := va_free (wc := [(h0, .inr (15, fs_1))]) hD hS hA [0] rfl
  refine va_calli (va_runV (As := [.int 1, .int 3]) (rest := []) ⟨hx, hb, hml, hown, hts⟩ (c_m_bad3 l dC dI h0 qfed qf qfd qs qk fs_1 (mF.sub hF_h0 [0, 1, 2, 3, 4, 5, 6, 7, 8, 9, 10, 11, 12, 13, 14, 15, 16, 17, 18] rfl) H.size) (cwV 2 hts g_m_keeps_m_bad3_424 rfl rfl rfl hv_X15_bad ⟨Nat.le_of_ble_eq_true rfl, Nat.le_of_ble_eq_true rfl⟩) ⟨fun a U g mk q => by obtain ⟨q0, q1, qP, qK, qD, qE0⟩ := q; exact ⟨q0, q1, qP, va_K.moved (u := U) (U := U.calling g mk a) (Vm.Alike.refl U.vm) qK, qD, w_N.same rfl qE0⟩, va_recv hKc hPc (ci := 15) (q0 := 0) rfl rfl, fun U hU hW => ⟨rfl, by rw [hU], by rw [hU]; exact hPc, va_K.moved hW.alike hKc, hDc.weaken (fun _ _ _ _ => trivial), w_N.warm hW hN⟩⟩ rfl rfl hl.1 rfl (lv_room (Nat.le_of_ble_eq_true rfl)) dX15_keeps_19 ⟨(Nat.le_of_ble_eq_true rfl), (Nat.le_of_ble_eq_true rfl)⟩) hS (fun q _ h => hFc q h) hFc (fun r_2 u t H1 locs1 ht hvm hw hB hz1 hk1 hS1 => ?_)
  obtain ⟨fs_3, hP1, hK1, hD1, hp_4⟩ := hB
  rw [ht] at hP1
  have hK1 := va_K.moved hvm.symm hK1
  have hJ := va_join (wr := []) (w1 := [(h0, .inr (15, fs_3))]) hP hD [0] [] rfl rfl (by decide) (by decide) hk1 hFc hP1 hD1
  clear hP hD hPc hDc hKc hFc hz1; try clear hk1
  obtain ⟨hP, hD⟩ := hJ
  replace hK := (hK.sub (tys' := []) [] rfl).app (hK1.sub (tys' := []) [] rfl)
  clear hP1 hK1 hD1 hvm ht hS; try clear t
  try clear H
  revert hS1
  intro hS
  generalize H1 = H at hP hS ⊢; try clear H1
  replace hP : va_P (dC, dI) vwCl [(h0, .inr (15, fs_3))] H := hP
  replace hD : va_D A [(h0, .inr (15, fs_3))] := hD
  replace hK : va_K (dC, dI) vwCl [] s := hK
  have hw_5 : r_2 = 1 := hw; clear hw
  subst hw_5
  refine lv_if_eq (tgt := 27) hx hb dX15_keeps_22 (by decide) (fun hc => absurd hc (by decide)) (fun _ => ?_)
  refine lv_iconst (v := 0) hx hb dX15_keeps_25 (by decide) ?_
  have hP9 := hP.sub (ws' := [(h0, .inr (15, fs_3))]) [0] rfl
  have hD9 := hD.sub (ws' := [(h0, .inr (15, fs_3))]) [0] (by decide) rfl
  have hK9 := hK.sub (tys' := []) [] rfl
  rw [← hAe] at hD9
  refine W.widen (k := 0) (n := 0) (Nat.le_of_ble_eq_true rfl) (Nat.le_of_ble_eq_true rfl) ?_
  subst hAe
  exact (W.iret (v := 0) hx hb hr (fun t ht hW => ⟨⟨0, (), rfl, trivial, fs_3, by rw [ht]; exact hP9, va_K.moved hW.alike hK9, hD9, (mF.sub hp_4 [0] rfl)⟩, hS.F ht⟩) hS.2.2 dX15_keeps_26)
def wv_m_sums : List Cond := .code yX15_sums cX15_sums 2 (some .int) :: ([.fieldLink RX15 296 "MotionSignsModel" "thrown" "I", .fieldLink RX15 443 "MotionSignsModel" "kind" "I", .methodLink RX15 424 yX15_bad, .instanceMethod yX15_bad, .selects RX15 yX15_bad yX15_bad, .initialized RX15] ++ (wsX150 ++ (wv_m_bad2 ++ ([]))))
theorem gw_m_sums : wv_m_sums.all goodWord = true := by decide +kernel
theorem in_m_sums_X15 : ∀ w ∈ wsX150, w ∈ wv_m_sums := fun _ h => List.mem_cons_of_mem _ (List.mem_append_right _ (List.mem_append_left _ h))
theorem g_m_sums_m_bad2_424 : GoodIn wv_m_sums (wsV RX15 424 RX15 yX15_bad wv_m_bad2) := goodIn_app (goodIn_of _ (by decide +kernel)) (goodIn_sub (fun _ h => List.mem_cons_of_mem _ (List.mem_append_right _ (List.mem_append_right _ (List.mem_append_left _ h)))) gw_m_bad2)
set_option maxHeartbeats 4000000 in
set_option maxRecDepth 100000 in
/-- the reference: sums on a fresh object -/
theorem c_m_sums (l : Launch) (dC : Nat → ClassId) (dI : Nat → Nat → Nat) (h0 : Nat) (qfed : Nat) (qf : Nat) (qfd : Nat) (qs : Nat) (qk : Nat) (x0 : Int32) (fs_h0 : List Value) (hF_h0 : mF 89 [(0, .int 0), (18, .int 0), (19, .int 0), (20, .int (-1)), (21, .int 0), (22, .int 0), (23, .int 0), (24, .int 0), (25, .int 0), (27, .int 0), (28, .int 0), (29, .int 0), (35, .int 0), (17, .int (-1)), (26, .ref qfed), (30, .ref qf), (31, .ref qfd), (33, .ref qs), (36, .ref qk)] fs_h0) (sz : Nat) : Met l yX15_sums wv_m_sums ({ frames := 1, cells := 0, slots := 0, locals := 22 }) (va_Pc [.ref h0, .int x0] (fun U => U.heap.size = sz ∧ va_P (dC, dI) vwCl [(h0, .inr (15, fs_h0))] U.heap ∧ va_K (dC, dI) vwCl [] U ∧ va_D (fun _ => True) [(h0, .inr (15, fs_h0))] ∧ w_N U)) (va_Qi (fun (r : Int32) (_ : Unit) => True) (fun _ t => ∃ (fs_e : List Value), va_P (dC, dI) vwCl [(h0, .inr (15, fs_e))] t.heap ∧ va_K (dC, dI) vwCl [] t ∧ va_D (va_A [(h0, .inr (15, fs_h0))] sz) [(h0, .inr (15, fs_e))] ∧ mF 89 [(0, .int 2)] fs_e) (va_A [(h0, .inr (15, fs_h0))] sz)) 0 0 (va_A [(h0, .inr (15, fs_h0))] sz) := by
  refine Met.ofW (cc := cX15_sums) (maxL := 2) (ret := (some .int)) (by decide) rfl ?_
  intro p e s m args below meth c s₁ B hml hv
  obtain ⟨rfl, hsz, hP, hK, hD0, hN⟩ := hv
  have hx := B.exec
  have hb := B.bytes
  have hr := B.returns
  have hts := atoms_spec (ws := wv_m_sums) B.pre
  have hown : s.vm.findClass RX15 = some m.cls := findClass_of_methodNamed B.named
  have hlocks := B.notSynchronized
  subst hsz
  have hD := hD0.self (sz := s.heap.size)
  generalize hAe : va_A [(h0, .inr (15, fs_h0))] s.heap.size = A at hD ⊢
  have hA : ∀ q : Nat, s.heap.size ≤ q → A q := fun q h => by rw [← hAe]; exact Or.inr h
  obtain ⟨H, hHe, hP, hS⟩ : ∃ H : Heap, H = s.heap ∧ va_P (dC, dI) vwCl [(h0, .inr (15, fs_h0))] H ∧ va_S A s.heap H [] := ⟨s.heap, rfl, hP, va_S.rf⟩
  have hl := lv_entry ([.ref h0, .int x0]) (n := 2) (Nat.le_of_ble_eq_true rfl)
  rw [lg_entry_eq]
  generalize (lg_sl ([.ref h0, .int x0]) ++ List.replicate (2 - (lg_sl ([.ref h0, .int x0])).length) Slot.unset).toArray = ls at hl ⊢
  have hl : lv_has ls 2 [(0, .ref h0), (1, .int x0)] := hl
  rw [← hHe]; clear hHe
  refine lv_aload_n hx hb dX15_sums_0 rfl (lv_at hl 0 rfl) ?_
  refine lv_iconst (v := 0) hx hb dX15_sums_1 (by decide) ?_
  refine va_put (D := (dC, dI)) (ci := 15) (v := .int 0) (ty := .int) (C := RX15) (T := TX15) (N := 89) hx hb hts (in_m_sums_X15) tyX15 tyX15_ok nmX15 hown hK hP hD hS 0 rfl rfl 0 (by decide) (hts (.fieldLink RX15 296 "MotionSignsModel" "thrown" "I") (List.mem_of_getElem? (i := 1) rfl)) (fun _ h9 => h9) rfl (tyX15_ok 0 (by decide)) rfl rfl (mF.lt hF_h0 (by decide)) dX15_sums_2 ?_
  clear hP hD hS; try clear H
  intro H locs hP hD hS
  have hF0 := mF.sub (L' := [(18, .int 0), (19, .int 0), (20, .int (-1)), (21, .int 0), (22, .int 0), (23, .int 0), (24, .int 0), (25, .int 0), (27, .int 0), (28, .int 0), (29, .int 0), (35, .int 0), (17, .int (-1)), (26, .ref qfed), (30, .ref qf), (31, .ref qfd), (33, .ref qs), (36, .ref qk)]) hF_h0 [1, 2, 3, 4, 5, 6, 7, 8, 9, 10, 11, 12, 13, 14, 15, 16, 17, 18] rfl
  have hF1 := mF.put hF0 0 (.int 0) (by decide) rfl
  replace hP : va_P (dC, dI) vwCl [(h0, .inr (15, (fs_h0.set 0 (.int 0))))] H := hP
  replace hD : va_D A [(h0, .inr (15, (fs_h0.set 0 (.int 0))))] := hD
  generalize fs_h0.set 0 (.int 0) = fs_1 at hP hD hF1
  replace hF_h0 : mF 89 [(0, .int 0), (18, .int 0), (19, .int 0), (20, .int (-1)), (21, .int 0), (22, .int 0), (23, .int 0), (24, .int 0), (25, .int 0), (27, .int 0), (28, .int 0), (29, .int 0), (35, .int 0), (17, .int (-1)), (26, .ref qfed), (30, .ref qf), (31, .ref qfd), (33, .ref qs), (36, .ref qk)] fs_1 := hF1
  clear hF1 hF0
  replace hP : va_P (dC, dI) vwCl [(h0, .inr (15, fs_1))] H := hP
  replace hD : va_D A [(h0, .inr (15, fs_1))] := hD
  refine lv_aload_n hx hb dX15_sums_5 rfl (lv_at hl 0 rfl) ?_
  refine lv_aload_n hx hb dX15_sums_6 rfl (lv_at hl 0 rfl) ?_
  refine va_get (D := (dC, dI)) (ci := 15) (v := .int 0) (C := RX15) (T := TX15) (N := 89) hx hb hts (in_m_sums_X15) hown hK hP 0 rfl rfl 28 (by decide) (hts (.fieldLink RX15 443 "MotionSignsModel" "kind" "I") (List.mem_of_getElem? (i := 2) rfl)) (fun _ h9 => h9) (mF.get hF_h0 10 rfl) dX15_sums_7 ?_
  refine lv_if_ne (tgt := 17) hx hb dX15_sums_10 (by decide) (fun hc => absurd (by decide) hc) (fun _ => ?_)
  refine lv_iconst (v := 1) hx hb dX15_sums_13 (by decide) ?_
  refine lv_goto (tgt := 18) hx hb dX15_sums_14 (by decide) ?_
  refine lv_iconst (v := 2) hx hb dX15_sums_18 (by decide) ?_
  have hPc := hP.sub (ws' := [(h0, .inr (15, fs_1))]) [0] rfl
  have hDc := hD.sub (ws' := [(h0, .inr (15, fs_1))]) [0] (by decide) rfl
  have hKc := hK.sub (tys' := []) [] rfl
  have hFc := va_free (wc := [(h0, .inr (15, fs_1))]) hD hS hA [0] rfl
  refine va_calli (va_runV (As := [.int 1, .int 2]) (rest := []) ⟨hx, hb, hml, hown, hts⟩ (c_m_bad2 l dC dI h0 qfed qf qfd qs qk fs_1 (mF.sub hF_h0 [0, 1, 2, 3, 4, 5, 6, 7, 8, 9, 10, 11, 12, 13, 14, 15, 16, 17, 18] rfl) H.size) (cwV 2 hts g_m_sums_m_bad2_424 rfl rfl rfl hv_X15_bad ⟨Nat.le_of_ble_eq_true rfl, Nat.le_of_ble_eq_true rfl⟩) ⟨fun a U g mk q => by obtain ⟨q0, q1, qP, qK, qD, qE0⟩ := q; exact ⟨q0, q1, qP, va_K.moved (u := U) (U := U.calling g mk a) (Vm.Alike.refl U.vm) qK, qD, w_N.same rfl qE0⟩, va_recv hKc hPc (ci := 15) (q0 := 0) rfl rfl, fun U hU hW => ⟨rfl, by rw [hU], by rw [hU]; exact hPc, va_K.moved hW.alike hKc, hDc.weaken (fun _ _ _ _ => trivial), w_N.warm hW hN⟩⟩ rfl rfl hl.1 rfl (lv_room (Nat.le_of_ble_eq_true rfl)) dX15_sums_19 ⟨(Nat.le_of_ble_eq_true rfl), (Nat.le_of_ble_eq_true rfl)⟩) hS (fun q _ h => hFc q h) hFc (fun r_2 u t H1 locs1 ht hvm hw hB hz1 hk1 hS1 => ?_)
  obtain ⟨fs_3, hP1, hK1, hD1, hp_4⟩ := hB
  rw [ht] at hP1
  have hK1 := va_K.moved hvm.symm hK1
  have hJ := va_join (wr := []) (w1 := [(h0, .inr (15, fs_3))]) hP hD [0] [] rfl rfl (by decide) (by decide) hk1 hFc hP1 hD1
  clear hP hD hPc hDc hKc hFc hz1; try clear hk1
  obtain ⟨hP, hD⟩ := hJ
  replace hK := (hK.sub (tys' := []) [] rfl).app (hK1.sub (tys' := []) [] rfl)
  clear hP1 hK1 hD1 hvm ht hS; try clear t
  try clear H
  revert hS1
  intro hS
  generalize H1 = H at hP hS ⊢; try clear H1
  replace hP : va_P (dC, dI) vwCl [(h0, .inr (15, fs_3))] H := hP
  replace hD : va_D A [(h0, .inr (15, fs_3))] := hD
  replace hK : va_K (dC, dI) vwCl [] s := hK
  have hw_5 : r_2 = 1 := hw; clear hw
  subst hw_5
  refine lv_if_ne (tgt := 55) hx hb dX15_sums_22 (by decide) (fun _ => ?_) (fun hc => absurd hc (by decide))
  refine lv_iconst (v := 0) hx hb dX15_sums_55 (by decide) ?_
  have hP9 := hP.sub (ws' := [(h0, .inr (15, fs_3))]) [0] rfl
  have hD9 := hD.sub (ws' := [(h0, .inr (15, fs_3))]) [0] (by decide) rfl
  have hK9 := hK.sub (tys' := []) [] rfl
  rw [← hAe] at hD9
  refine W.widen (k := 0) (n := 0) (Nat.le_of_ble_eq_true rfl) (Nat.le_of_ble_eq_true rfl) ?_
  subst hAe
  exact (W.iret (v := 0) hx hb hr (fun t ht hW => ⟨⟨0, (), rfl, trivial, fs_3, by rw [ht]; exact hP9, va_K.moved hW.alike hK9, hD9, (mF.sub hp_4 [0] rfl)⟩, hS.F ht⟩) hS.2.2 dX15_sums_56)
