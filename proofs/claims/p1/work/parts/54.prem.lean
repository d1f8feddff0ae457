theorem nest_inM : ∀ q ∈ nestM, Cond.methodLinkNest q.1 q.2.1 q.2.2.1 q.2.2.2 ∈ lw_tbl := by decide +kernel
theorem nest_inF : ∀ q ∈ nestF, Cond.fieldLinkNest q.1 q.2.1 q.2.2.1 q.2.2.2.1 q.2.2.2.2.1 q.2.2.2.2.2 ∈ lw_tbl := by decide +kernel
theorem arr_in : ∀ q ∈ arrO, Cond.arrayOver (.object q) ∈ lw_tbl := by decide +kernel
theorem wm_A_of {t : FieldType} {nm nm2 : String} {args : Array Value} {U : State} (h : (Cond.arrayOver (.array t)).before args U = true) (e1 : (FieldType.array t).toString = nm) (e2 : "[" ++ (FieldType.array t).toString = nm2) : wm_A nm nm2 (.array t) U := by
  subst e1; subst e2
  simp only [Cond.before, Cond.holds, Cond.value, beq_iff_eq] at h
  cases hc : U.vm.findClass (FieldType.array t).toString with
  | none => simp [hc] at h
  | some comp =>
    simp only [hc, Option.bind_some, Option.bind_eq_some_iff, Option.map_eq_some_iff] at h
    obtain ⟨c, hi, k, hk, hb⟩ := h
    obtain ⟨hlt, hp, -⟩ := Array.findIdx?_eq_some_iff_getElem.mp hi
    have hkk : U.vm.classes[c] = k := (Array.getElem?_eq_some_iff.mp hk).2
    rw [hkk] at hp
    cases hkind : k.kind with
    | array component ty =>
      rw [hkind] at hb hp
      simp at hb hp
      exact ⟨comp, c, k, hc, hk, by rw [hkind, hp, hb.1], hb.2⟩
    | _ => rw [hkind] at hb; simp at hb
theorem wm_B_of {t : FieldType} {nm2 : String} {args : Array Value} {U : State} (h : (Cond.arrayClass t).before args U = true) (e2 : "[" ++ t.toString = nm2) : wm_B nm2 t U := by
  subst e2
  obtain ⟨c, k, comp, h1, h2, h3⟩ := Cond.arrayClass_spec h
  exact ⟨c, k, comp, h1, h2, h3⟩
theorem wm_Bo_of {n nm2 : String} {args : Array Value} {U : State} (h : (Cond.arrayOver (.object n)).before args U = true) (e2 : "[" ++ (FieldType.object n).toString = nm2) : wm_B nm2 (.object n) U := by
  subst e2
  obtain ⟨comp, c, k, h1, h2, h3, h4, h5⟩ := Cond.arrayOver_spec h
  exact ⟨c, k, comp, h5, h3, h4⟩
section WPREM
variable {b : Nat} {s : State} {A : Nat → Prop}
theorem w_N_of (hts : ∀ w ∈ lw_tbl, w.before #[Value.ref b] s = true) : w_N s :=
  ⟨fun q hq => va_Nw.of rfl (hts _ (nest_inM q hq)), fun q hq => va_Nw.of rfl (hts _ (nest_inF q hq)), fun q hq => va_AO.of (hts _ (arr_in q hq)),
   wm_B_of (hts (.arrayClass .long) (by decide +kernel)) (by decide +kernel), wm_A_of (hts (.arrayOver (.array .long)) (by decide +kernel)) (by decide +kernel) (by decide +kernel), wm_A_of (hts (.arrayOver (.array (.array .long))) (by decide +kernel)) (by decide +kernel) (by decide +kernel), wm_B_of (hts (.arrayClass .int) (by decide +kernel)) (by decide +kernel), wm_A_of (hts (.arrayOver (.array .int)) (by decide +kernel)) (by decide +kernel) (by decide +kernel),
   wm_Bo_of (hts (.arrayOver (.object "MotionSignsModel$Big")) (by decide +kernel)) (by decide +kernel), wm_A_of (hts (.arrayOver (.array (.object "MotionSignsModel$Big"))) (by decide +kernel)) (by decide +kernel) (by decide +kernel), wm_A_of (hts (.arrayOver (.array (.object "MotionSignsModel$Poly"))) (by decide +kernel)) (by decide +kernel) (by decide +kernel)⟩
theorem w_str {own tx : String} {k : Nat} (h1 : (Cond.stringRef own k tx).before #[Value.ref b] s = true) (h2 : (Cond.exactly (.string own k) "java/lang/String").before #[Value.ref b] s = true) : ∃ sa : Nat, vk_R own k tx sa s := by
  obtain ⟨a, c, cA, kA, q1, q2, q3, q4, q5, q6, -⟩ := Cond.exactly_spec (args := #[Value.ref b]) (first := s) (o := none) (s := s) (idx := []) (t := .string own k) (cls := "java/lang/String") h2
  exact ⟨a, vk_R.of h1 q1⟩
theorem w_T_of (hts : ∀ w ∈ lw_tbl, w.before #[Value.ref b] s = true) (hgv : (Jvm.Cond.and given_1 narrow_1).before #[Value.ref b] s = true) (hA : ∀ a : Nat, a < s.heap.size → ¬ A a) : w_T A s s.heap := by
  have hs := flat_of_before _ hgv
  refine ⟨vx_Zqof (args := #[Value.ref b]) ?_ ?_ ?_ hA, vx_Zqof (args := #[Value.ref b]) ?_ ?_ ?_ hA, ?_, ?_, ?_, ?_, ?_⟩
  · exact hts _ (by decide +kernel)
  · exact hts _ (by decide +kernel)
  · first | exact hs _ (by decide +kernel) | exact hts _ (by decide +kernel)
  · exact hts _ (by decide +kernel)
  · exact hts _ (by decide +kernel)
  · first | exact hs _ (by decide +kernel) | exact hts _ (by decide +kernel)
  · intro q hq
    simp only [w_msgs, List.mem_cons, List.not_mem_nil, or_false] at hq
    rcases hq with rfl | rfl | rfl | rfl <;> exact w_str (hts _ (by decide +kernel)) (hs _ (by decide +kernel))
  · intro E hE
    simp only [w_exc, List.mem_cons, List.not_mem_nil, or_false] at hE
    rcases hE with rfl | rfl <;> exact va_Nw.of rfl (by first | exact hts _ (by decide +kernel) | exact hs _ (by decide +kernel))
  · exact va_Nw.of rfl (hts _ (by decide +kernel))
  · exact va_Nw.of rfl (hts _ (by decide +kernel))
  · exact va_Nw.of rfl (hts _ (by decide +kernel))
theorem w_C_of {A : Nat → Prop} {H : Heap} (hgv : (Jvm.Cond.and given_1 narrow_1).before #[Value.ref b] s = true) : w_C A s H := by
  have hs := flat_of_before _ hgv
  exact ⟨va_Nc.of (hs _ (by decide +kernel)), va_Nc.of (hs _ (by decide +kernel))⟩
theorem w_S1_of {own tx : String} {k n : Nat} (bytes : List Int32) (hn : n < 2 ^ 31) (h1 : (Cond.stringRef own k tx).before #[Value.ref b] s = true) (hex : (Cond.exactly (.string own k) "java/lang/String").before #[Value.ref b] s = true) (hco : (Cond.eq (.field (.string own k) "java/lang/String" "coder" "B") (.int 0)).before #[Value.ref b] s = true)
    (har : (Cond.arrayOf (.field (.string own k) "java/lang/String" "value" "[B") .byte).before #[Value.ref b] s = true) (hle : (Cond.eq (.length (.field (.string own k) "java/lang/String" "value" "[B")) (.int (Int32.ofNat n))).before #[Value.ref b] s = true)
    (hel : ∀ j : Nat, j < n → (Cond.eq (.elem (.field (.string own k) "java/lang/String" "value" "[B") (.int (Int32.ofNat j))) (.int (bytes.getD j 0))).before #[Value.ref b] s = true) (hZ : va_Z "java/lang/String" "COMPACT_STRINGS" "Z" (.int 1) A s s.heap) (hA : ∀ a : Nat, a < s.heap.size → ¬ A a) : ∃ sa va : Nat, vk_R own k tx sa s ∧ w_S1 sa va n A s s.heap := by
  obtain ⟨adK, adV, hs, he⟩ := vk_Sof (args := #[Value.ref b]) (s := s) (N := 1) (tm := fun _ => .string own k) (len := [n]) (byt := [bytes]) (A := A)
    (fun i hi => by obtain rfl := Nat.lt_one_iff.mp hi; exact hn) (fun _ _ => hex) (fun _ _ => hco) (fun _ _ => har) (fun i hi => by obtain rfl := Nat.lt_one_iff.mp hi; exact hle)
    (fun i hi j hj => by obtain rfl := Nat.lt_one_iff.mp hi; exact hel j hj) (fun i j hi hj h => absurd (show i = j by omega) h) hA
  obtain ⟨a1, a2, a3, a4⟩ := hs.1 0 (by omega)
  exact ⟨adK 0, adV 0, vk_R.of h1 (he 0 (by omega)), a1, a2, a3, ⟨_, a4⟩, hZ⟩
theorem w_S_of (hts : ∀ w ∈ lw_tbl, w.before #[Value.ref b] s = true) (hgv : (Jvm.Cond.and given_1 narrow_1).before #[Value.ref b] s = true) (hA : ∀ a : Nat, a < s.heap.size → ¬ A a) : w_S A s s.heap := by
  have hs := flat_of_before _ hgv
  have hZ : va_Z "java/lang/String" "COMPACT_STRINGS" "Z" (.int 1) A s s.heap := va_Zof (args := #[Value.ref b]) (hts (.laysStatic "java/lang/String" "COMPACT_STRINGS" "Z") (by decide +kernel)) (hts (.initialized "java/lang/String") (by decide +kernel)) (va_eqt (hs (.eq (.static "java/lang/String" "COMPACT_STRINGS" "Z") (.int 1)) (by decide +kernel))) hA
  refine ⟨w_S1_of [102, 108, 111, 119] (by decide) (hts _ (by decide +kernel)) (hs _ (by decide +kernel)) (hs _ (by decide +kernel)) (hs _ (by decide +kernel)) (hs _ (by decide +kernel)) (fun j hj => ?_) hZ hA, w_S1_of [99, 117, 114, 118, 101] (by decide) (hts _ (by decide +kernel)) (hs _ (by decide +kernel)) (hs _ (by decide +kernel)) (hs _ (by decide +kernel)) (hs _ (by decide +kernel)) (fun j hj => ?_) hZ hA⟩
  · rcases (show j = 0 ∨ j = 1 ∨ j = 2 ∨ j = 3 by omega) with rfl | rfl | rfl | rfl <;> exact hs _ (by decide +kernel)
  · rcases (show j = 0 ∨ j = 1 ∨ j = 2 ∨ j = 3 ∨ j = 4 by omega) with rfl | rfl | rfl | rfl | rfl <;> exact hs _ (by decide +kernel)
theorem w_U_of (hts : ∀ w ∈ lw_tbl, w.before #[Value.ref b] s = true) (hgv : (Jvm.Cond.and given_1 narrow_1).before #[Value.ref b] s = true) (hA : ∀ a : Nat, a < s.heap.size → ¬ A a) : ∃ tu : Nat, w_U tu A s s.heap := by
  have hs := flat_of_before _ hgv
  obtain ⟨t, ht, hT⟩ := va_Tof (args := #[Value.ref b]) (s := s) (tm := .static "MotionSigns" "UNKNOWNS_BY_DEGREE" "[I") (ty := .int) (N := 4) (f := uF) (A := A) (by decide) (hs _ (by decide +kernel)) (va_eqt (hs (.eq (.length (.static "MotionSigns" "UNKNOWNS_BY_DEGREE" "[I")) (.int (Int32.ofNat 4))) (by decide +kernel))) (fun j hj => by
    rcases (show j = 0 ∨ j = 1 ∨ j = 2 ∨ j = 3 by omega) with rfl | rfl | rfl | rfl
    · exact va_eqt (hs (.eq (.elem (.static "MotionSigns" "UNKNOWNS_BY_DEGREE" "[I") (.int (Int32.ofNat 0))) (.int 3)) (by decide +kernel))
    · exact va_eqt (hs (.eq (.elem (.static "MotionSigns" "UNKNOWNS_BY_DEGREE" "[I") (.int (Int32.ofNat 1))) (.int 12)) (by decide +kernel))
    · exact va_eqt (hs (.eq (.elem (.static "MotionSigns" "UNKNOWNS_BY_DEGREE" "[I") (.int (Int32.ofNat 2))) (.int 30)) (by decide +kernel))
    · exact va_eqt (hs (.eq (.elem (.static "MotionSigns" "UNKNOWNS_BY_DEGREE" "[I") (.int (Int32.ofNat 3))) (.int 20)) (by decide +kernel))) hA
  exact ⟨t, va_Zof (args := #[Value.ref b]) (hts (.laysStatic "MotionSigns" "UNKNOWNS_BY_DEGREE" "[I") (by decide +kernel)) (hts (.initialized "MotionSigns") (by decide +kernel)) ht hA, hT⟩
theorem flags_no {l : Launch} (h : l.flags = flags0) : l.stackTraces = false := by
  unfold Launch.stackTraces
  rw [h]
  decide +kernel
end WPREM

