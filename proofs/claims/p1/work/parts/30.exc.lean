def RJ0 : String := "java/lang/String"
def RL : String := "MotionSignsLaw"
abbrev cJ0_length_8abf5 : ByteArray := prog_28_method_54_code
def yJ0_length_8abf5 : MethodName := ⟨RJ0, "length", "()I"⟩
abbrev cJ0_coder_7d493 : ByteArray := prog_28_method_152_code
def yJ0_coder_7d493 : MethodName := ⟨RJ0, "coder", "()B"⟩
abbrev cL_equation : ByteArray := method_3_code
def yL_equation : MethodName := ⟨RL, "equation", "(LMotionSigns;I[J)I"⟩
abbrev cL_field : ByteArray := method_4_code
def yL_field : MethodName := ⟨RL, "field", "(LMotionSigns;I[J)I"⟩
abbrev cL_solution : ByteArray := method_5_code
def yL_solution : MethodName := ⟨RL, "solution", "(LMotionSigns;I[J)I"⟩
abbrev cL_told : ByteArray := method_6_code
def yL_told : MethodName := ⟨RL, "told", "(LMotionSigns;I[J)I"⟩
abbrev cL_term : ByteArray := method_7_code
def yL_term : MethodName := ⟨RL, "term", "(LMotionSigns;I[J)I"⟩
abbrev cL_rest : ByteArray := method_8_code
def yL_rest : MethodName := ⟨RL, "rest", "(LMotionSigns;I[J)I"⟩
abbrev cL_leaves : ByteArray := method_9_code
def yL_leaves : MethodName := ⟨RL, "leaves", "(LMotionSigns;[J)I"⟩
abbrev cL_fields : ByteArray := method_10_code
def yL_fields : MethodName := ⟨RL, "fields", "(LMotionSigns;I[J)I"⟩
abbrev cL_number : ByteArray := method_11_code
def yL_number : MethodName := ⟨RL, "number", "(LMotionSigns;IIII[J)I"⟩
abbrev cL_within : ByteArray := method_12_code
def yL_within : MethodName := ⟨RL, "within", "(LMotionSigns;I[J)I"⟩
abbrev cL_closed : ByteArray := method_13_code
def yL_closed : MethodName := ⟨RL, "closed", "(LMotionSigns;I[J)I"⟩
abbrev cL_constant : ByteArray := method_14_code
def yL_constant : MethodName := ⟨RL, "constant", "(LMotionSigns;IIIII[J)I"⟩
abbrev cL_kind : ByteArray := method_15_code
def yL_kind : MethodName := ⟨RL, "kind", "(LMotionSigns;II[J)I"⟩
abbrev cL_steps : ByteArray := method_16_code
def yL_steps : MethodName := ⟨RL, "steps", "(LMotionSigns;III[J)I"⟩
abbrev cL_bracket : ByteArray := method_17_code
def yL_bracket : MethodName := ⟨RL, "bracket", "(LMotionSigns;III[J)I"⟩
abbrev cL_stretches : ByteArray := method_18_code
def yL_stretches : MethodName := ⟨RL, "stretches", "(LMotionSigns;[J)I"⟩
abbrev cL_stretch : ByteArray := method_19_code
def yL_stretch : MethodName := ⟨RL, "stretch", "(LMotionSigns;II[J)I"⟩
abbrev cL_keeps : ByteArray := method_20_code
def yL_keeps : MethodName := ⟨RL, "keeps", "(LMotionSigns;III[J)I"⟩
abbrev cL_sums : ByteArray := method_21_code
def yL_sums : MethodName := ⟨RL, "sums", "(LMotionSigns;I[J)I"⟩
abbrev cL_sum : ByteArray := method_22_code
def yL_sum : MethodName := ⟨RL, "sum", "(LMotionSigns;IIII[J)I"⟩
abbrev cL_solves : ByteArray := method_23_code
def yL_solves : MethodName := ⟨RL, "solves", "(LMotionSigns;[J)I"⟩
abbrev cL_left : ByteArray := method_24_code
def yL_left : MethodName := ⟨RL, "left", "(LMotionSigns;II[J)I"⟩
abbrev cL_shifted : ByteArray := method_25_code
def yL_shifted : MethodName := ⟨RL, "shifted", "(LMotionSigns;II[J)I"⟩
abbrev cL_stretched : ByteArray := method_26_code
def yL_stretched : MethodName := ⟨RL, "stretched", "(LMotionSigns;II[J)I"⟩
abbrev cL_wave : ByteArray := method_27_code
def yL_wave : MethodName := ⟨RL, "wave", "(LMotionSigns;II[J)I"⟩
abbrev cL_lines : ByteArray := method_28_code
def yL_lines : MethodName := ⟨RL, "lines", "(LMotionSigns;I[J)I"⟩
abbrev cL_law : ByteArray := code
def yL_law : MethodName := ⟨RL, "law", "([I)Z"⟩
theorem hd_X11_keyOf : yX11_keyOf.cls ≠ "java/lang/invoke/MethodHandle" ∧ yX11_keyOf.cls ≠ "java/lang/invoke/VarHandle" ∧ (parseMethodDescriptor yX11_keyOf.desc).map (fun d => d.parameters.length) = some 3 := by decide +kernel
theorem hd_X11_needDigits : yX11_needDigits.cls ≠ "java/lang/invoke/MethodHandle" ∧ yX11_needDigits.cls ≠ "java/lang/invoke/VarHandle" ∧ (parseMethodDescriptor yX11_needDigits.desc).map (fun d => d.parameters.length) = some 3 := by decide +kernel
theorem hd_X11_needWhat : yX11_needWhat.cls ≠ "java/lang/invoke/MethodHandle" ∧ yX11_needWhat.cls ≠ "java/lang/invoke/VarHandle" ∧ (parseMethodDescriptor yX11_needWhat.desc).map (fun d => d.parameters.length) = some 2 := by decide +kernel
theorem hd_X11_unit : yX11_unit.cls ≠ "java/lang/invoke/MethodHandle" ∧ yX11_unit.cls ≠ "java/lang/invoke/VarHandle" ∧ (parseMethodDescriptor yX11_unit.desc).map (fun d => d.parameters.length) = some 1 := by decide +kernel
def kCount (v : Int32) : Int32 := if v = 0 then 0 else if v = 1 then 0 else (-1)
def kWhat (v : Int32) : Prop := ¬ v < 0 ∧ v ≤ 2
def kTape (v : Int32) : Prop := ¬ v < 0 ∧ v ≤ 0
def kDig (x0 : Int32) : Prop := ¬ x0 < 0 ∧ ¬ 4 < x0 - x0 / 10 * 10 ∧ ¬ 4 < x0 / 10 - x0 / 10 / 10 * 10 ∧ ¬ 4 < x0 / 10 / 10 - x0 / 10 / 10 / 10 * 10 ∧ ¬ 4 < x0 / 10 / 10 / 10 - x0 / 10 / 10 / 10 / 10 * 10 ∧ ¬ 4 < x0 / 10 / 10 / 10 / 10 - x0 / 10 / 10 / 10 / 10 / 10 * 10 ∧ ¬ 4 < x0 / 10 / 10 / 10 / 10 / 10 - x0 / 10 / 10 / 10 / 10 / 10 / 10 * 10 ∧ x0 / 10 / 10 / 10 / 10 / 10 / 10 = 0

theorem kTape_0 {v : Int32} (h : kTape v) : v = 0 := Int32.le_antisymm h.2 (Int32.not_lt.mp h.1)
/-- a String constant, its row of n bytes, and that texts are held by bytes -/
def w_S1 (qs vs n : Nat) (A : Nat → Prop) (U : State) (H : Heap) : Prop := va_O "java/lang/String" qs A U H ∧ va_OF "java/lang/String" "coder" "B" (.int 0) qs A U H ∧ va_OF "java/lang/String" "value" "[B" (.ref vs) qs A U H ∧ (∃ f : Nat → Value, va_T .byte vs n f A U H) ∧ va_Z "java/lang/String" "COMPACT_STRINGS" "Z" (.int 1) A U H
theorem w_S1.same {qs vs n : Nat} {A : Nat → Prop} {u U : State} (hv : u.vm = U.vm) (hh : u.heap = U.heap) (h : w_S1 qs vs n A u u.heap) : w_S1 qs vs n A U U.heap := by
  obtain ⟨h1, h2, h3, ⟨f, h4⟩, h5⟩ := h
  have al : u.vm.Alike U.vm := hv ▸ Vm.Alike.refl u.vm
  rw [hh] at h1 h2 h3 h4 h5
  exact ⟨va_O.moved al h1, va_OF.moved al h2, va_OF.moved al h3, ⟨f, va_T.moved al h4⟩, va_Z.moved al h5⟩
theorem w_S1.go {qs vs n : Nat} {A B : Nat → Prop} {s U : State} {H : Heap} (h : w_S1 qs vs n A s s.heap) (hW : s.WarmedH U.vm) (hq : ∀ q : Nat, q < s.heap.size → ¬ A q → H[q]? = s.heap[q]?) (hF : ∀ q, B q → A q) (hU : U.heap = H) : w_S1 qs vs n B U U.heap := by
  obtain ⟨h1, h2, h3, ⟨f, h4⟩, h5⟩ := h
  rw [hU]
  exact ⟨va_O.moved hW.alike ((h1.kept hq).narrow hF), va_OF.moved hW.alike ((h2.kept hq).narrow hF), va_OF.moved hW.alike ((h3.kept hq).narrow hF), ⟨f, va_T.moved hW.alike ((h4.kept hq).narrow hF)⟩, va_Z.moved hW.alike ((h5.kept hq).narrow hF)⟩
theorem w_S1.recv {qs vs n : Nat} {A : Nat → Prop} {s : State} {H : Heap} {locs : List Loc} (h : w_S1 qs vs n A s s.heap) (hS : va_S A s.heap H locs) : ∃ cell : Cell, H[qs]? = some cell ∧ cell.vm.isStatics = false ∧ s.vm.findClass "java/lang/String" = some cell.cls := by
  obtain ⟨cell, h1, h2, h3, -⟩ := h.1.kept hS.2.1
  exact ⟨cell, h1, h2, h3⟩
def w_S (A : Nat → Prop) (U : State) (H : Heap) : Prop := (∃ sa va : Nat, vk_R RX7 38 "flow" sa U ∧ w_S1 sa va 4 A U H) ∧ (∃ sa va : Nat, vk_R RX7 44 "curve" sa U ∧ w_S1 sa va 5 A U H)
theorem w_S.same {A : Nat → Prop} {u U : State} (hv : u.vm = U.vm) (hh : u.heap = U.heap) (h : w_S A u u.heap) : w_S A U U.heap := by
  obtain ⟨⟨a, b, h1, h2⟩, ⟨c, d, h3, h4⟩⟩ := h
  exact ⟨⟨a, b, vk_R.same hv.symm h1, w_S1.same hv hh h2⟩, ⟨c, d, vk_R.same hv.symm h3, w_S1.same hv hh h4⟩⟩
theorem w_S.go {A B : Nat → Prop} {s U : State} {H : Heap} (h : w_S A s s.heap) (hW : s.WarmedH U.vm) (hq : ∀ q : Nat, q < s.heap.size → ¬ A q → H[q]? = s.heap[q]?) (hF : ∀ q, B q → A q) (hU : U.heap = H) : w_S B U U.heap := by
  obtain ⟨⟨a, b, h1, h2⟩, ⟨c, d, h3, h4⟩⟩ := h
  exact ⟨⟨a, b, vk_R.warm hW h1, w_S1.go h2 hW hq hF hU⟩, ⟨c, d, vk_R.warm hW h3, w_S1.go h4 hW hq hF hU⟩⟩

theorem wk_ald {p : Program} {l : Launch} {e : Env} {R : Room} {s : State} {m : MethodId} {args : Array Value} {below : List Frame} {meth : Method} {c : Code} {H : Heap} {locs : List Loc} {cells slots : Nat} {Q : State → Prop} {cc : ByteArray} {pc : Nat} {ls : Array Slot} {rest : List Value} {D : va_G} {cl : List vw_C} {a : Nat} {tys : List (ClassId × FieldType)} {ws : va_W} (hexec : p.tables.exec = Jvm.exec) (hb : c.code = cc) (hK : va_K D cl tys s) (hP : va_P D cl ws H) (q0 t0 : Nat) {cA : ClassId} {C : String} {n : Nat} {f : Nat → Option Nat} (ha : ws[q0]? = some (a, .inl (cA, n, .inr (.inr (.inr (.inr f)))))) (ht : tys[t0]? = some (cA, .object C)) {i : Int32} (hin : vp_in i n) {y : Nat} (hy : f i.toNatClampNeg = some y) (hdg : decode cc pc = .ok (.aaload, 1)) (kk : W p l e R s m args below meth c H locs cells slots Q (F0 m (pc + 1) ls (.ref y :: rest))) : W p l e R s m args below meth c H locs cells slots Q (F0 m pc ls (.int i :: .ref a :: rest)) := va_aldq hexec hb hK hP q0 t0 ha ht hin hdg (by rw [hy]; exact kk)

theorem vx_callr {p : Program} {l : Launch} {e : Env} {R : Room} {s : State} {m : MethodId} {args : Array Value} {below : List Frame} {meth : Method} {c : Code} {H : Heap} {locs : List Loc} {cells slots mc ms : Nat} {Q : State → Prop} {pc : Nat} {ls : Array Slot} {st0 rest : List Value} {A0 A1 : Nat → Prop} {H0 : Heap} {a : Array Value} {free : Addr → Prop} {S SX : Type} {post : S → Prop} {px : SX → Prop} {B : S → Nat → State → Prop} {BX : String → SX → State → Prop} {AX : Nat → Prop} (hr : vx_Run p l e R s m args below meth c H locs cells slots mc ms (F0 m pc ls st0) rest (va_Qr post B A1 a) (vx_X px BX AX) free) (hS : va_S A0 H0 H locs) (hA : ∀ q, q < H.size → A1 q → A0 q) (hf : ∀ q, free q → A0 q) (hAX : ∀ q, q < H.size → AX q → A0 q)
    (kx : ∀ (E : String) (ce : Cell) (q9 : Addr) (u : SX) (t : State) (H1 : Heap) (locs1 : List Loc), t.heap = H1 → s.vm.Alike t.vm → px u → BX E u t → H.size ≤ H1.size → (∀ q : Nat, q < H.size → ¬ AX q → H1[q]? = H[q]?) → va_S A0 H0 H1 locs1 → H1[q9]? = some ce → ce.vm = .none → s.vm.findClass E = some ce.cls → vx_W p l e R s m args below meth c H1 locs1 (cells + mc) (slots + ms) Q (F0 m pc ls rest) q9)
    (kk : ∀ (u : S) (ra : Nat) (t : State) (H1 : Heap) (locs1 : List Loc), t.heap = H1 → s.vm.Alike t.vm → post u → B u ra t → H.size ≤ H1.size → (∀ q : Nat, q < H.size → ¬ A1 q → H1[q]? = H[q]?) → va_S A0 H0 H1 locs1 → W p l e R s m args below meth c H1 locs1 (cells + mc) (slots + ms) Q (F0 m (pc + 3) ls (.ref ra :: rest))) : W p l e R s m args below meth c H locs cells slots Q (F0 m pc ls st0) := by
  intro T hT X
  rcases hr T hT X with ⟨v, st₀, t, T', L, h0, X', hL, e1, e2, ⟨⟨u, ra, hv, hp, hb⟩, hF⟩, st⟩ | ⟨q, st₀, t, T', L, E, ce, h0, X', hL, e1, e2, ⟨u, hp, hb, hF⟩, hce, hcv, hcl, st⟩
  · cases hv
    obtain ⟨k1, k2, k3⟩ := vx_keep h0 e1 hS hA hf hL hF
    obtain ⟨t2, a1, b1⟩ := kk u ra t T'.heap (locs ++ L) e1.symm (by rw [← e2]; exact X'.warmed.alike) hp hb k1 k2 k3 T' rfl X'
    exact ⟨t2, st t2 a1, b1⟩
  · obtain ⟨k1, k2, k3⟩ := vx_keep h0 e1 hS hAX hf hL hF
    obtain ⟨t2, a1, b1⟩ := kx E ce q u t T'.heap (locs ++ L) e1.symm (by rw [← e2]; exact X'.warmed.alike) hp hb k1 k2 k3 (by rw [e1]; exact hce) hcv hcl T' rfl X'
    exact ⟨t2, st.trans a1, b1⟩
def exn : List String := ["java/lang/RuntimeException", "java/lang/Exception"]
theorem exn_fit : ∀ n ∈ exn, Bundle.fit n = true := by decide +kernel
def w_msgs : List (Nat × String) := [(322, "no equation"), (325, "no such what"), (289, "no such powers"), (318, "more than the tape has")]
def w_exc : List String := ["java/lang/IllegalStateException", "java/lang/IllegalArgumentException"]
/-- what a throw wants beside the words: two statics of Throwable, the messages, three words that no list bears -/
def w_T (A : Nat → Prop) (U : State) (H : Heap) : Prop := vx_Zq Bundle.tN "UNASSIGNED_STACK" Bundle.steD A U H ∧ vx_Zq Bundle.tN "SUPPRESSED_SENTINEL" Bundle.listD A U H ∧ (∀ q ∈ w_msgs, ∃ sa : Nat, vk_R RX11 q.1 q.2 sa U) ∧ (∀ E ∈ w_exc, va_Nw (.castable E E) U) ∧ va_Nw (.declares (Bundle.initS "java/lang/RuntimeException")) U ∧ va_Nw (.declares (Bundle.initS "java/lang/Exception")) U ∧ va_Nw (.declares (Bundle.initS Bundle.tN)) U
theorem w_T.same {A : Nat → Prop} {u U : State} (hv : u.vm = U.vm) (hh : u.heap = U.heap) (h : w_T A u u.heap) : w_T A U U.heap := by
  obtain ⟨h1, h2, h3, h4, h5, h6, h7⟩ := h
  have al : u.vm.Alike U.vm := hv ▸ Vm.Alike.refl u.vm
  rw [hh] at h1 h2
  exact ⟨h1.moved al, h2.moved al, fun q hq => by obtain ⟨a, ha⟩ := h3 q hq; exact ⟨a, vk_R.same hv.symm ha⟩, fun E hE => va_Nw.same rfl hv (h4 E hE), va_Nw.same rfl hv h5, va_Nw.same rfl hv h6, va_Nw.same rfl hv h7⟩
theorem w_T.go {A B : Nat → Prop} {s U : State} {H : Heap} (h : w_T A s s.heap) (hW : s.WarmedH U.vm) (hq : ∀ q : Nat, q < s.heap.size → ¬ A q → H[q]? = s.heap[q]?) (hF : ∀ q, B q → A q) (hU : U.heap = H) : w_T B U U.heap := by
  obtain ⟨h1, h2, h3, h4, h5, h6, h7⟩ := h
  rw [hU]
  exact ⟨((h1.kept hq).narrow hF).moved hW.alike, ((h2.kept hq).narrow hF).moved hW.alike, fun q hq => by obtain ⟨a, ha⟩ := h3 q hq; exact ⟨a, vk_R.warm hW ha⟩, fun E hE => va_Nw.warmC hW (h4 E hE), va_Nw.warmD hW h5, va_Nw.warmD hW h6, va_Nw.warmD hW h7⟩
def badw (X : String) : List Cond := [.castable X X, .declares (Bundle.initS "java/lang/RuntimeException"), .declares (Bundle.initS "java/lang/Exception"), .declares (Bundle.initS Bundle.tN)]
def wt_ISE : List Cond := (vx_atS RX11 324 "java/lang/IllegalStateException" exn).filter goodWord
theorem gw_ISE : wt_ISE.all goodWord = true := by decide +kernel
theorem tb_ISE : ∀ w ∈ (vx_atS RX11 324 "java/lang/IllegalStateException" exn).filter (fun w => !goodWord w), w ∈ badw "java/lang/IllegalStateException" := by decide +kernel
theorem tc_ISE {A : Nat → Prop} {U : State} {H : Heap} {args : Array Value} (h : w_T A U H) : ∀ w ∈ badw "java/lang/IllegalStateException", w.before args U = true := vx_c (va_Nw.use rfl (h.2.2.2.1 _ (List.mem_of_getElem? (i := 0) rfl))) (vx_c (va_Nw.use rfl h.2.2.2.2.1) (vx_c (va_Nw.use rfl h.2.2.2.2.2.1) (vx_c (va_Nw.use rfl h.2.2.2.2.2.2) vx_n)))
theorem tg_ISE : ∀ w ∈ Cond.classLink RX11 320 "java/lang/IllegalStateException" :: Cond.initialized "java/lang/IllegalStateException" :: vx_atS RX11 324 "java/lang/IllegalStateException" exn, vx_ot w = true := by decide +kernel
def wt_IAE : List Cond := (vx_atS RX11 222 "java/lang/IllegalArgumentException" exn).filter goodWord
theorem gw_IAE : wt_IAE.all goodWord = true := by decide +kernel
theorem tb_IAE : ∀ w ∈ (vx_atS RX11 222 "java/lang/IllegalArgumentException" exn).filter (fun w => !goodWord w), w ∈ badw "java/lang/IllegalArgumentException" := by decide +kernel
theorem tc_IAE {A : Nat → Prop} {U : State} {H : Heap} {args : Array Value} (h : w_T A U H) : ∀ w ∈ badw "java/lang/IllegalArgumentException", w.before args U = true := vx_c (va_Nw.use rfl (h.2.2.2.1 _ (List.mem_of_getElem? (i := 1) rfl))) (vx_c (va_Nw.use rfl h.2.2.2.2.1) (vx_c (va_Nw.use rfl h.2.2.2.2.2.1) (vx_c (va_Nw.use rfl h.2.2.2.2.2.2) vx_n)))
theorem tg_IAE : ∀ w ∈ Cond.classLink RX11 218 "java/lang/IllegalArgumentException" :: Cond.initialized "java/lang/IllegalArgumentException" :: vx_atS RX11 222 "java/lang/IllegalArgumentException" exn, vx_ot w = true := by decide +kernel
theorem dX11_needEquation_0 : decode cX11_needEquation 0 = .ok (.aload_n 0, 1) := by decide +kernel
theorem dX11_needEquation_1 : decode cX11_needEquation 1 = .ok (.getfield 50, 3) := by decide +kernel
theorem dX11_needEquation_4 : decode cX11_needEquation 4 = .ok (.getfield 162, 3) := by decide +kernel
theorem dX11_needEquation_7 : decode cX11_needEquation 7 = .ok (.ifCond .ne 14, 3) := by decide +kernel
theorem dX11_needEquation_10 : decode cX11_needEquation 10 = .ok (.new 320, 3) := by decide +kernel
theorem dX11_needEquation_13 : decode cX11_needEquation 13 = .ok (.dup, 1) := by decide +kernel
theorem dX11_needEquation_14 : decode cX11_needEquation 14 = .ok (.ldc_w 322, 3) := by decide +kernel
theorem dX11_needEquation_17 : decode cX11_needEquation 17 = .ok (.invokespecial 324, 3) := by decide +kernel
theorem dX11_needEquation_20 : decode cX11_needEquation 20 = .ok (.athrow, 1) := by decide +kernel
theorem dX11_baseOf_0 : decode cX11_baseOf 0 = .ok (.aload_n 0, 1) := by decide +kernel
theorem dX11_baseOf_1 : decode cX11_baseOf 1 = .ok (.invokevirtual 159, 3) := by decide +kernel
theorem dX11_needDensities_0 : decode cX11_needDensities 0 = .ok (.aload_n 0, 1) := by decide +kernel
theorem dX11_needDensities_1 : decode cX11_needDensities 1 = .ok (.invokevirtual 159, 3) := by decide +kernel
theorem dX11_field_0 : decode cX11_field 0 = .ok (.aload_n 0, 1) := by decide +kernel
theorem dX11_field_1 : decode cX11_field 1 = .ok (.invokevirtual 159, 3) := by decide +kernel
theorem dX11_solution_0 : decode cX11_solution 0 = .ok (.aload_n 0, 1) := by decide +kernel
theorem dX11_solution_1 : decode cX11_solution 1 = .ok (.invokevirtual 159, 3) := by decide +kernel
theorem dX11_rest_0 : decode cX11_rest 0 = .ok (.aload_n 0, 1) := by decide +kernel
theorem dX11_rest_1 : decode cX11_rest 1 = .ok (.invokevirtual 159, 3) := by decide +kernel
theorem dX11_leaves_0 : decode cX11_leaves 0 = .ok (.aload_n 0, 1) := by decide +kernel
theorem dX11_leaves_1 : decode cX11_leaves 1 = .ok (.invokevirtual 159, 3) := by decide +kernel
theorem dX11_fields_0 : decode cX11_fields 0 = .ok (.aload_n 0, 1) := by decide +kernel
theorem dX11_fields_1 : decode cX11_fields 1 = .ok (.iload_n 1, 1) := by decide +kernel
theorem dX11_fields_2 : decode cX11_fields 2 = .ok (.invokevirtual 201, 3) := by decide +kernel
theorem dX11_number_0 : decode cX11_number 0 = .ok (.aload_n 0, 1) := by decide +kernel
theorem dX11_number_1 : decode cX11_number 1 = .ok (.iload_n 1, 1) := by decide +kernel
theorem dX11_number_2 : decode cX11_number 2 = .ok (.invokevirtual 201, 3) := by decide +kernel
theorem dX11_within_0 : decode cX11_within 0 = .ok (.aload_n 0, 1) := by decide +kernel
theorem dX11_within_1 : decode cX11_within 1 = .ok (.getfield 59, 3) := by decide +kernel
theorem dX11_within_4 : decode cX11_within 4 = .ok (.aload_n 0, 1) := by decide +kernel
theorem dX11_within_5 : decode cX11_within 5 = .ok (.iload_n 1, 1) := by decide +kernel
theorem dX11_within_6 : decode cX11_within 6 = .ok (.invokevirtual 201, 3) := by decide +kernel
theorem dX11_closed_0 : decode cX11_closed 0 = .ok (.aload_n 0, 1) := by decide +kernel
theorem dX11_closed_1 : decode cX11_closed 1 = .ok (.getfield 59, 3) := by decide +kernel
theorem dX11_closed_4 : decode cX11_closed 4 = .ok (.aload_n 0, 1) := by decide +kernel
theorem dX11_closed_5 : decode cX11_closed 5 = .ok (.iload_n 1, 1) := by decide +kernel
theorem dX11_closed_6 : decode cX11_closed 6 = .ok (.invokevirtual 201, 3) := by decide +kernel
theorem dX11_constant_0 : decode cX11_constant 0 = .ok (.aload_n 0, 1) := by decide +kernel
theorem dX11_constant_1 : decode cX11_constant 1 = .ok (.iload_n 1, 1) := by decide +kernel
theorem dX11_constant_2 : decode cX11_constant 2 = .ok (.invokevirtual 201, 3) := by decide +kernel
theorem dX11_kind_0 : decode cX11_kind 0 = .ok (.aload_n 0, 1) := by decide +kernel
theorem dX11_kind_1 : decode cX11_kind 1 = .ok (.iload_n 1, 1) := by decide +kernel
theorem dX11_kind_2 : decode cX11_kind 2 = .ok (.invokevirtual 201, 3) := by decide +kernel
theorem dX11_steps_0 : decode cX11_steps 0 = .ok (.aload_n 0, 1) := by decide +kernel
theorem dX11_steps_1 : decode cX11_steps 1 = .ok (.iload_n 1, 1) := by decide +kernel
theorem dX11_steps_2 : decode cX11_steps 2 = .ok (.invokevirtual 201, 3) := by decide +kernel
theorem dX11_bracket_0 : decode cX11_bracket 0 = .ok (.aload_n 0, 1) := by decide +kernel
theorem dX11_bracket_1 : decode cX11_bracket 1 = .ok (.iload_n 1, 1) := by decide +kernel
theorem dX11_bracket_2 : decode cX11_bracket 2 = .ok (.invokevirtual 201, 3) := by decide +kernel
theorem dX11_stretches_0 : decode cX11_stretches 0 = .ok (.aload_n 0, 1) := by decide +kernel
theorem dX11_stretches_1 : decode cX11_stretches 1 = .ok (.invokevirtual 159, 3) := by decide +kernel
theorem dX11_stretch_0 : decode cX11_stretch 0 = .ok (.aload_n 0, 1) := by decide +kernel
theorem dX11_stretch_1 : decode cX11_stretch 1 = .ok (.invokevirtual 159, 3) := by decide +kernel
theorem dX11_keeps_0 : decode cX11_keeps 0 = .ok (.aload_n 0, 1) := by decide +kernel
theorem dX11_keeps_1 : decode cX11_keeps 1 = .ok (.invokevirtual 159, 3) := by decide +kernel
theorem dX11_sums_0 : decode cX11_sums 0 = .ok (.aload_n 0, 1) := by decide +kernel
theorem dX11_sums_1 : decode cX11_sums 1 = .ok (.iload_n 1, 1) := by decide +kernel
theorem dX11_sums_2 : decode cX11_sums 2 = .ok (.invokevirtual 276, 3) := by decide +kernel
theorem dX11_sum_0 : decode cX11_sum 0 = .ok (.aload_n 0, 1) := by decide +kernel
theorem dX11_sum_1 : decode cX11_sum 1 = .ok (.iload_n 1, 1) := by decide +kernel
theorem dX11_sum_2 : decode cX11_sum 2 = .ok (.invokevirtual 276, 3) := by decide +kernel
theorem dX11_solves_0 : decode cX11_solves 0 = .ok (.aload_n 0, 1) := by decide +kernel
theorem dX11_solves_1 : decode cX11_solves 1 = .ok (.invokevirtual 159, 3) := by decide +kernel
theorem dX11_left_0 : decode cX11_left 0 = .ok (.aload_n 0, 1) := by decide +kernel
theorem dX11_left_1 : decode cX11_left 1 = .ok (.invokevirtual 159, 3) := by decide +kernel
theorem dX11_shifted_0 : decode cX11_shifted 0 = .ok (.aload_n 0, 1) := by decide +kernel
theorem dX11_shifted_1 : decode cX11_shifted 1 = .ok (.invokevirtual 159, 3) := by decide +kernel
theorem dX11_stretched_0 : decode cX11_stretched 0 = .ok (.aload_n 0, 1) := by decide +kernel
theorem dX11_stretched_1 : decode cX11_stretched 1 = .ok (.invokevirtual 159, 3) := by decide +kernel
theorem dX11_wave_0 : decode cX11_wave 0 = .ok (.aload_n 0, 1) := by decide +kernel
theorem dX11_wave_1 : decode cX11_wave 1 = .ok (.invokevirtual 159, 3) := by decide +kernel
theorem dX11_lines_0 : decode cX11_lines 0 = .ok (.aload_n 0, 1) := by decide +kernel
theorem dX11_lines_1 : decode cX11_lines 1 = .ok (.invokevirtual 159, 3) := by decide +kernel
theorem dX11_fault_0 : decode cX11_fault 0 = .ok (.aload_n 0, 1) := by decide +kernel
theorem dX11_fault_1 : decode cX11_fault 1 = .ok (.getfield 13, 3) := by decide +kernel
theorem dX11_fault_4 : decode cX11_fault 4 = .ok (.ireturn, 1) := by decide +kernel
theorem dX11_restore_0 : decode cX11_restore 0 = .ok (.aload_n 0, 1) := by decide +kernel
theorem dX11_restore_1 : decode cX11_restore 1 = .ok (.getfield 146, 3) := by decide +kernel
theorem dX11_restore_4 : decode cX11_restore 4 = .ok (.ifCond .le 11, 3) := by decide +kernel
theorem dX11_restore_15 : decode cX11_restore 15 = .ok (.iconst (-1), 1) := by decide +kernel
theorem dX11_restore_16 : decode cX11_restore 16 = .ok (.ireturn, 1) := by decide +kernel
theorem dX11_count_0 : decode cX11_count 0 = .ok (.iload_n 1, 1) := by decide +kernel
theorem dX11_count_1 : decode cX11_count 1 = .ok (.ifCond .ne 8, 3) := by decide +kernel
theorem dX11_count_9 : decode cX11_count 9 = .ok (.iload_n 1, 1) := by decide +kernel
theorem dX11_count_10 : decode cX11_count 10 = .ok (.iconst 1, 1) := by decide +kernel
theorem dX11_count_11 : decode cX11_count 11 = .ok (.if_icmp .ne 10, 3) := by decide +kernel
theorem dX11_count_21 : decode cX11_count 21 = .ok (.iconst (-1), 1) := by decide +kernel
theorem dX11_count_22 : decode cX11_count 22 = .ok (.ireturn, 1) := by decide +kernel
theorem dX11_count_14 : decode cX11_count 14 = .ok (.aload_n 0, 1) := by decide +kernel
theorem dX11_count_15 : decode cX11_count 15 = .ok (.getfield 112, 3) := by decide +kernel
theorem dX11_count_18 : decode cX11_count 18 = .ok (.goto 4, 3) := by decide +kernel
theorem dX11_count_4 : decode cX11_count 4 = .ok (.aload_n 0, 1) := by decide +kernel
theorem dX11_count_5 : decode cX11_count 5 = .ok (.getfield 146, 3) := by decide +kernel
theorem dX11_count_8 : decode cX11_count 8 = .ok (.ireturn, 1) := by decide +kernel
theorem dX11_needWhat_0 : decode cX11_needWhat 0 = .ok (.iload_n 0, 1) := by decide +kernel
theorem dX11_needWhat_1 : decode cX11_needWhat 1 = .ok (.ifCond .lt 8, 3) := by decide +kernel
theorem dX11_needWhat_9 : decode cX11_needWhat 9 = .ok (.new 218, 3) := by decide +kernel
theorem dX11_needWhat_12 : decode cX11_needWhat 12 = .ok (.dup, 1) := by decide +kernel
theorem dX11_needWhat_13 : decode cX11_needWhat 13 = .ok (.ldc_w 325, 3) := by decide +kernel
theorem dX11_needWhat_16 : decode cX11_needWhat 16 = .ok (.invokespecial 222, 3) := by decide +kernel
theorem dX11_needWhat_19 : decode cX11_needWhat 19 = .ok (.athrow, 1) := by decide +kernel
theorem dX11_needWhat_4 : decode cX11_needWhat 4 = .ok (.iload_n 0, 1) := by decide +kernel
theorem dX11_needWhat_5 : decode cX11_needWhat 5 = .ok (.iload_n 1, 1) := by decide +kernel
theorem dX11_needWhat_6 : decode cX11_needWhat 6 = .ok (.if_icmp .le 14, 3) := by decide +kernel
theorem dX11_needWhat_20 : decode cX11_needWhat 20 = .ok (.return_, 1) := by decide +kernel
theorem dX6_length_0 : decode cX6_length 0 = .ok (.aload_n 0, 1) := by decide +kernel
theorem dX6_length_1 : decode cX6_length 1 = .ok (.getfield 16, 3) := by decide +kernel
theorem dX6_length_4 : decode cX6_length 4 = .ok (.aload_n 0, 1) := by decide +kernel
theorem dX6_length_5 : decode cX6_length 5 = .ok (.getfield 7, 3) := by decide +kernel
theorem dX6_length_8 : decode cX6_length 8 = .ok (.arraylength, 1) := by decide +kernel
theorem dX6_length_9 : decode cX6_length 9 = .ok (.aload_n 0, 1) := by decide +kernel
theorem dX6_length_10 : decode cX6_length 10 = .ok (.getfield 13, 3) := by decide +kernel
theorem dX6_length_13 : decode cX6_length 13 = .ok (.arraylength, 1) := by decide +kernel
theorem dX6_length_14 : decode cX6_length 14 = .ok (.invokestatic 20, 3) := by decide +kernel
theorem dX6_length_17 : decode cX6_length 17 = .ok (.invokestatic 20, 3) := by decide +kernel
theorem dX6_length_20 : decode cX6_length 20 = .ok (.ireturn, 1) := by decide +kernel
theorem dX6_clear_0 : decode cX6_clear 0 = .ok (.aload_n 0, 1) := by decide +kernel
theorem dX6_clear_1 : decode cX6_clear 1 = .ok (.iconst 0, 1) := by decide +kernel
theorem dX6_clear_2 : decode cX6_clear 2 = .ok (.putfield 16, 3) := by decide +kernel
theorem dX6_clear_5 : decode cX6_clear 5 = .ok (.return_, 1) := by decide +kernel
theorem dX6_copy_0 : decode cX6_copy 0 = .ok (.aload_n 1, 1) := by decide +kernel
theorem dX6_copy_1 : decode cX6_copy 1 = .ok (.invokevirtual 37, 3) := by decide +kernel
theorem dX6_copy_4 : decode cX6_copy 4 = .ok (.istore_n 2, 1) := by decide +kernel
theorem dX6_copy_5 : decode cX6_copy 5 = .ok (.aload_n 0, 1) := by decide +kernel
theorem dX6_copy_6 : decode cX6_copy 6 = .ok (.iconst 0, 1) := by decide +kernel
theorem dX6_copy_7 : decode cX6_copy 7 = .ok (.putfield 16, 3) := by decide +kernel
theorem dX6_copy_10 : decode cX6_copy 10 = .ok (.iconst 0, 1) := by decide +kernel
theorem dX6_copy_11 : decode cX6_copy 11 = .ok (.istore_n 3, 1) := by decide +kernel
theorem dX6_copy_12 : decode cX6_copy 12 = .ok (.iload_n 3, 1) := by decide +kernel
theorem dX6_copy_13 : decode cX6_copy 13 = .ok (.iload_n 2, 1) := by decide +kernel
theorem dX6_copy_14 : decode cX6_copy 14 = .ok (.if_icmp .ge 25, 3) := by decide +kernel
theorem dX6_copy_39 : decode cX6_copy 39 = .ok (.return_, 1) := by decide +kernel
theorem dX6_at_0 : decode cX6_at 0 = .ok (.aload_n 0, 1) := by decide +kernel
theorem dX6_at_1 : decode cX6_at 1 = .ok (.invokevirtual 37, 3) := by decide +kernel
theorem dX6_at_4 : decode cX6_at 4 = .ok (.istore_n 3, 1) := by decide +kernel
theorem dX6_at_5 : decode cX6_at 5 = .ok (.iconst 0, 1) := by decide +kernel
theorem dX6_at_6 : decode cX6_at 6 = .ok (.istore 4, 2) := by decide +kernel
theorem dX6_at_8 : decode cX6_at 8 = .ok (.iload 4, 2) := by decide +kernel
theorem dX6_at_10 : decode cX6_at 10 = .ok (.iload_n 3, 1) := by decide +kernel
theorem dX6_at_11 : decode cX6_at 11 = .ok (.if_icmp .ge 29, 3) := by decide +kernel
theorem dX6_at_40 : decode cX6_at 40 = .ok (.lconst 0, 1) := by decide +kernel
theorem dX6_at_41 : decode cX6_at 41 = .ok (.lreturn, 1) := by decide +kernel
theorem dX2_has_0 : decode cX2_has 0 = .ok (.iconst 0, 1) := by decide +kernel
theorem dX2_has_1 : decode cX2_has 1 = .ok (.istore_n 2, 1) := by decide +kernel
theorem dX2_has_2 : decode cX2_has 2 = .ok (.iconst 0, 1) := by decide +kernel
theorem dX2_has_3 : decode cX2_has 3 = .ok (.istore_n 3, 1) := by decide +kernel
theorem dX2_has_4 : decode cX2_has 4 = .ok (.iload_n 3, 1) := by decide +kernel
theorem dX2_has_5 : decode cX2_has 5 = .ok (.aload_n 0, 1) := by decide +kernel
theorem dX2_has_6 : decode cX2_has 6 = .ok (.getfield 12, 3) := by decide +kernel
theorem dX2_has_9 : decode cX2_has 9 = .ok (.invokevirtual 60, 3) := by decide +kernel
theorem dX2_has_12 : decode cX2_has 12 = .ok (.if_icmp .ge 35, 3) := by decide +kernel
theorem dX2_has_47 : decode cX2_has 47 = .ok (.iload_n 2, 1) := by decide +kernel
theorem dX2_has_48 : decode cX2_has 48 = .ok (.ireturn, 1) := by decide +kernel
theorem dX2_order_0 : decode cX2_order 0 = .ok (.aload_n 0, 1) := by decide +kernel
theorem dX2_order_1 : decode cX2_order 1 = .ok (.iconst 5, 1) := by decide +kernel
theorem dX2_order_2 : decode cX2_order 2 = .ok (.invokevirtual 72, 3) := by decide +kernel
theorem dX2_order_5 : decode cX2_order 5 = .ok (.ifCond .eq 7, 3) := by decide +kernel
theorem dX2_order_12 : decode cX2_order 12 = .ok (.aload_n 0, 1) := by decide +kernel
theorem dX2_order_13 : decode cX2_order 13 = .ok (.iconst 4, 1) := by decide +kernel
theorem dX2_order_14 : decode cX2_order 14 = .ok (.invokevirtual 72, 3) := by decide +kernel
theorem dX2_order_17 : decode cX2_order 17 = .ok (.ifCond .eq 7, 3) := by decide +kernel
theorem dX2_order_24 : decode cX2_order 24 = .ok (.aload_n 0, 1) := by decide +kernel
theorem dX2_order_25 : decode cX2_order 25 = .ok (.iconst 3, 1) := by decide +kernel
theorem dX2_order_26 : decode cX2_order 26 = .ok (.invokevirtual 72, 3) := by decide +kernel
theorem dX2_order_29 : decode cX2_order 29 = .ok (.ifCond .eq 7, 3) := by decide +kernel
theorem dX2_order_36 : decode cX2_order 36 = .ok (.iconst 0, 1) := by decide +kernel
theorem dX2_order_37 : decode cX2_order 37 = .ok (.ireturn, 1) := by decide +kernel
theorem dX11_told_0 : decode cX11_told 0 = .ok (.iload_n 1, 1) := by decide +kernel
theorem dX11_told_1 : decode cX11_told 1 = .ok (.iconst 2, 1) := by decide +kernel
theorem dX11_told_2 : decode cX11_told 2 = .ok (.invokestatic 180, 3) := by decide +kernel
theorem dX11_told_5 : decode cX11_told 5 = .ok (.iload_n 1, 1) := by decide +kernel
theorem dX11_told_6 : decode cX11_told 6 = .ok (.ifCond .ne 11, 3) := by decide +kernel
theorem dX11_told_17 : decode cX11_told 17 = .ok (.iload_n 1, 1) := by decide +kernel
theorem dX11_told_18 : decode cX11_told 18 = .ok (.iconst 1, 1) := by decide +kernel
theorem dX11_told_19 : decode cX11_told 19 = .ok (.if_icmp .ne 16, 3) := by decide +kernel
theorem dX11_told_35 : decode cX11_told 35 = .ok (.aload_n 0, 1) := by decide +kernel
theorem dX11_told_36 : decode cX11_told 36 = .ok (.getfield 50, 3) := by decide +kernel
theorem dX11_told_39 : decode cX11_told 39 = .ok (.invokevirtual 183, 3) := by decide +kernel
theorem dX11_told_42 : decode cX11_told 42 = .ok (.ireturn, 1) := by decide +kernel
theorem dX11_told_22 : decode cX11_told 22 = .ok (.aload_n 0, 1) := by decide +kernel
theorem dX11_told_23 : decode cX11_told 23 = .ok (.getfield 50, 3) := by decide +kernel
theorem dX11_told_26 : decode cX11_told 26 = .ok (.getfield 152, 3) := by decide +kernel
theorem dX11_told_29 : decode cX11_told 29 = .ok (.invokevirtual 155, 3) := by decide +kernel
theorem dX11_told_32 : decode cX11_told 32 = .ok (.goto 10, 3) := by decide +kernel
theorem dX11_told_9 : decode cX11_told 9 = .ok (.aload_n 0, 1) := by decide +kernel
theorem dX11_told_10 : decode cX11_told 10 = .ok (.getfield 50, 3) := by decide +kernel
theorem dX11_told_13 : decode cX11_told 13 = .ok (.getfield 162, 3) := by decide +kernel
theorem dX11_told_16 : decode cX11_told 16 = .ok (.ireturn, 1) := by decide +kernel
theorem dX11_unit_0 : decode cX11_unit 0 = .ok (.lconst 1, 1) := by decide +kernel
theorem dX11_unit_1 : decode cX11_unit 1 = .ok (.bipush 7, 2) := by decide +kernel
theorem dX11_unit_3 : decode cX11_unit 3 = .ok (.iload_n 0, 1) := by decide +kernel
theorem dX11_unit_4 : decode cX11_unit 4 = .ok (.imul, 1) := by decide +kernel
theorem dX11_unit_5 : decode cX11_unit 5 = .ok (.lshl, 1) := by decide +kernel
theorem dX11_unit_6 : decode cX11_unit 6 = .ok (.lreturn, 1) := by decide +kernel
theorem dX11_keyOf_0 : decode cX11_keyOf 0 = .ok (.lconst 0, 1) := by decide +kernel
theorem dX11_keyOf_1 : decode cX11_keyOf 1 = .ok (.lstore_n 3, 1) := by decide +kernel
theorem dX11_keyOf_2 : decode cX11_keyOf 2 = .ok (.iload_n 0, 1) := by decide +kernel
theorem dX11_keyOf_3 : decode cX11_keyOf 3 = .ok (.istore 5, 2) := by decide +kernel
theorem dX11_keyOf_5 : decode cX11_keyOf 5 = .ok (.iload_n 1, 1) := by decide +kernel
theorem dX11_keyOf_6 : decode cX11_keyOf 6 = .ok (.iconst 1, 1) := by decide +kernel
theorem dX11_keyOf_7 : decode cX11_keyOf 7 = .ok (.isub, 1) := by decide +kernel
theorem dX11_keyOf_8 : decode cX11_keyOf 8 = .ok (.istore 6, 2) := by decide +kernel
theorem dX11_keyOf_10 : decode cX11_keyOf 10 = .ok (.iload 6, 2) := by decide +kernel
theorem dX11_keyOf_12 : decode cX11_keyOf 12 = .ok (.ifCond .lt 33, 3) := by decide +kernel
theorem dX11_keyOf_15 : decode cX11_keyOf 15 = .ok (.lload_n 3, 1) := by decide +kernel
theorem dX11_keyOf_16 : decode cX11_keyOf 16 = .ok (.iload 5, 2) := by decide +kernel
theorem dX11_keyOf_18 : decode cX11_keyOf 18 = .ok (.bipush 10, 2) := by decide +kernel
theorem dX11_keyOf_20 : decode cX11_keyOf 20 = .ok (.irem, 1) := by decide +kernel
theorem dX11_keyOf_21 : decode cX11_keyOf 21 = .ok (.i2l, 1) := by decide +kernel
theorem dX11_keyOf_22 : decode cX11_keyOf 22 = .ok (.iload_n 2, 1) := by decide +kernel
theorem dX11_keyOf_23 : decode cX11_keyOf 23 = .ok (.iload 6, 2) := by decide +kernel
theorem dX11_keyOf_25 : decode cX11_keyOf 25 = .ok (.iadd, 1) := by decide +kernel
theorem dX11_keyOf_26 : decode cX11_keyOf 26 = .ok (.invokestatic 225, 3) := by decide +kernel
theorem dX11_keyOf_29 : decode cX11_keyOf 29 = .ok (.lmul, 1) := by decide +kernel
theorem dX11_keyOf_30 : decode cX11_keyOf 30 = .ok (.ladd, 1) := by decide +kernel
theorem dX11_keyOf_31 : decode cX11_keyOf 31 = .ok (.lstore_n 3, 1) := by decide +kernel
theorem dX11_keyOf_32 : decode cX11_keyOf 32 = .ok (.iload 5, 2) := by decide +kernel
theorem dX11_keyOf_34 : decode cX11_keyOf 34 = .ok (.bipush 10, 2) := by decide +kernel
theorem dX11_keyOf_36 : decode cX11_keyOf 36 = .ok (.idiv, 1) := by decide +kernel
theorem dX11_keyOf_37 : decode cX11_keyOf 37 = .ok (.istore 5, 2) := by decide +kernel
theorem dX11_keyOf_39 : decode cX11_keyOf 39 = .ok (.iinc 6 (-1), 3) := by decide +kernel
theorem dX11_keyOf_42 : decode cX11_keyOf 42 = .ok (.goto (-32), 3) := by decide +kernel
theorem dX11_keyOf_45 : decode cX11_keyOf 45 = .ok (.lload_n 3, 1) := by decide +kernel
theorem dX11_keyOf_46 : decode cX11_keyOf 46 = .ok (.lreturn, 1) := by decide +kernel
theorem dX11_needDigits_0 : decode cX11_needDigits 0 = .ok (.iload_n 0, 1) := by decide +kernel
theorem dX11_needDigits_1 : decode cX11_needDigits 1 = .ok (.istore_n 3, 1) := by decide +kernel
theorem dX11_needDigits_2 : decode cX11_needDigits 2 = .ok (.iload_n 0, 1) := by decide +kernel
theorem dX11_needDigits_3 : decode cX11_needDigits 3 = .ok (.ifCond .lt 7, 3) := by decide +kernel
theorem dX11_needDigits_10 : decode cX11_needDigits 10 = .ok (.iconst 0, 1) := by decide +kernel
theorem dX11_needDigits_11 : decode cX11_needDigits 11 = .ok (.istore 4, 2) := by decide +kernel
theorem dX11_needDigits_13 : decode cX11_needDigits 13 = .ok (.iconst 0, 1) := by decide +kernel
theorem dX11_needDigits_14 : decode cX11_needDigits 14 = .ok (.istore 5, 2) := by decide +kernel
theorem dX11_needDigits_16 : decode cX11_needDigits 16 = .ok (.iload 5, 2) := by decide +kernel
theorem dX11_needDigits_18 : decode cX11_needDigits 18 = .ok (.iload_n 1, 1) := by decide +kernel
theorem dX11_needDigits_19 : decode cX11_needDigits 19 = .ok (.if_icmp .ge 34, 3) := by decide +kernel
theorem dX11_needDigits_22 : decode cX11_needDigits 22 = .ok (.iload 4, 2) := by decide +kernel
theorem dX11_needDigits_24 : decode cX11_needDigits 24 = .ok (.ifCond .eq 15, 3) := by decide +kernel
theorem dX11_needDigits_39 : decode cX11_needDigits 39 = .ok (.iconst 0, 1) := by decide +kernel
theorem dX11_needDigits_40 : decode cX11_needDigits 40 = .ok (.istore 4, 2) := by decide +kernel
theorem dX11_needDigits_42 : decode cX11_needDigits 42 = .ok (.iload_n 3, 1) := by decide +kernel
theorem dX11_needDigits_43 : decode cX11_needDigits 43 = .ok (.bipush 10, 2) := by decide +kernel
theorem dX11_needDigits_45 : decode cX11_needDigits 45 = .ok (.idiv, 1) := by decide +kernel
theorem dX11_needDigits_46 : decode cX11_needDigits 46 = .ok (.istore_n 3, 1) := by decide +kernel
theorem dX11_needDigits_47 : decode cX11_needDigits 47 = .ok (.iinc 5 1, 3) := by decide +kernel
theorem dX11_needDigits_50 : decode cX11_needDigits 50 = .ok (.goto (-34), 3) := by decide +kernel
theorem dX11_needDigits_53 : decode cX11_needDigits 53 = .ok (.iload 4, 2) := by decide +kernel
theorem dX11_needDigits_55 : decode cX11_needDigits 55 = .ok (.ifCond .eq 7, 3) := by decide +kernel
theorem dX11_needDigits_62 : decode cX11_needDigits 62 = .ok (.new 218, 3) := by decide +kernel
theorem dX11_needDigits_65 : decode cX11_needDigits 65 = .ok (.dup, 1) := by decide +kernel
theorem dX11_needDigits_66 : decode cX11_needDigits 66 = .ok (.ldc_w 289, 3) := by decide +kernel
theorem dX11_needDigits_69 : decode cX11_needDigits 69 = .ok (.invokespecial 222, 3) := by decide +kernel
theorem dX11_needDigits_72 : decode cX11_needDigits 72 = .ok (.athrow, 1) := by decide +kernel
theorem dX11_needDigits_6 : decode cX11_needDigits 6 = .ok (.iconst 1, 1) := by decide +kernel
theorem dX11_needDigits_7 : decode cX11_needDigits 7 = .ok (.goto 4, 3) := by decide +kernel
theorem dX11_needDigits_27 : decode cX11_needDigits 27 = .ok (.iload_n 3, 1) := by decide +kernel
theorem dX11_needDigits_28 : decode cX11_needDigits 28 = .ok (.bipush 10, 2) := by decide +kernel
theorem dX11_needDigits_30 : decode cX11_needDigits 30 = .ok (.irem, 1) := by decide +kernel
theorem dX11_needDigits_31 : decode cX11_needDigits 31 = .ok (.iload_n 2, 1) := by decide +kernel
theorem dX11_needDigits_32 : decode cX11_needDigits 32 = .ok (.if_icmp .gt 7, 3) := by decide +kernel
theorem dX11_needDigits_35 : decode cX11_needDigits 35 = .ok (.iconst 1, 1) := by decide +kernel
theorem dX11_needDigits_36 : decode cX11_needDigits 36 = .ok (.goto 4, 3) := by decide +kernel
theorem dX11_needDigits_58 : decode cX11_needDigits 58 = .ok (.iload_n 3, 1) := by decide +kernel
theorem dX11_needDigits_59 : decode cX11_needDigits 59 = .ok (.ifCond .eq 14, 3) := by decide +kernel
theorem dX11_needDigits_73 : decode cX11_needDigits 73 = .ok (.return_, 1) := by decide +kernel
theorem dX11_term_0 : decode cX11_term 0 = .ok (.iload_n 1, 1) := by decide +kernel
theorem dX11_term_1 : decode cX11_term 1 = .ok (.bipush 6, 2) := by decide +kernel
theorem dX11_term_3 : decode cX11_term 3 = .ok (.iconst 4, 1) := by decide +kernel
theorem dX11_term_4 : decode cX11_term 4 = .ok (.invokestatic 186, 3) := by decide +kernel
theorem dX11_term_7 : decode cX11_term 7 = .ok (.aload_n 0, 1) := by decide +kernel
theorem dX11_term_8 : decode cX11_term 8 = .ok (.getfield 50, 3) := by decide +kernel
theorem dX11_term_11 : decode cX11_term 11 = .ok (.getfield 152, 3) := by decide +kernel
theorem dX11_term_14 : decode cX11_term 14 = .ok (.iload_n 1, 1) := by decide +kernel
theorem dX11_term_15 : decode cX11_term 15 = .ok (.bipush 6, 2) := by decide +kernel
theorem dX11_term_17 : decode cX11_term 17 = .ok (.iconst 0, 1) := by decide +kernel
theorem dX11_term_18 : decode cX11_term 18 = .ok (.invokestatic 190, 3) := by decide +kernel
theorem dX11_term_21 : decode cX11_term 21 = .ok (.invokevirtual 194, 3) := by decide +kernel
theorem dX11_term_24 : decode cX11_term 24 = .ok (.l2i, 1) := by decide +kernel
theorem dX11_term_25 : decode cX11_term 25 = .ok (.ireturn, 1) := by decide +kernel
theorem dX11_takeTape_0 : decode cX11_takeTape 0 = .ok (.iload_n 1, 1) := by decide +kernel
theorem dX11_takeTape_1 : decode cX11_takeTape 1 = .ok (.ifCond .lt 11, 3) := by decide +kernel
theorem dX11_takeTape_12 : decode cX11_takeTape 12 = .ok (.new 218, 3) := by decide +kernel
theorem dX11_takeTape_15 : decode cX11_takeTape 15 = .ok (.dup, 1) := by decide +kernel
theorem dX11_takeTape_16 : decode cX11_takeTape 16 = .ok (.ldc_w 318, 3) := by decide +kernel
theorem dX11_takeTape_19 : decode cX11_takeTape 19 = .ok (.invokespecial 222, 3) := by decide +kernel
theorem dX11_takeTape_22 : decode cX11_takeTape 22 = .ok (.athrow, 1) := by decide +kernel
theorem dX11_takeTape_4 : decode cX11_takeTape 4 = .ok (.iload_n 1, 1) := by decide +kernel
theorem dX11_takeTape_5 : decode cX11_takeTape 5 = .ok (.aload_n 0, 1) := by decide +kernel
theorem dX11_takeTape_6 : decode cX11_takeTape 6 = .ok (.getfield 112, 3) := by decide +kernel
theorem dX11_takeTape_9 : decode cX11_takeTape 9 = .ok (.if_icmp .le 14, 3) := by decide +kernel
theorem dX11_takeTape_23 : decode cX11_takeTape 23 = .ok (.aload_n 0, 1) := by decide +kernel
theorem dX11_takeTape_24 : decode cX11_takeTape 24 = .ok (.iconst 0, 1) := by decide +kernel
theorem dX11_takeTape_25 : decode cX11_takeTape 25 = .ok (.putfield 112, 3) := by decide +kernel
theorem dX11_takeTape_28 : decode cX11_takeTape 28 = .ok (.return_, 1) := by decide +kernel
theorem dJ0_coder_7d493_0 : decode cJ0_coder_7d493 0 = .ok (.getstatic 38, 3) := by decide +kernel
theorem dJ0_coder_7d493_3 : decode cJ0_coder_7d493 3 = .ok (.ifCond .eq 10, 3) := by decide +kernel
theorem dJ0_coder_7d493_6 : decode cJ0_coder_7d493 6 = .ok (.aload_n 0, 1) := by decide +kernel
theorem dJ0_coder_7d493_7 : decode cJ0_coder_7d493 7 = .ok (.getfield 15, 3) := by decide +kernel
theorem dJ0_coder_7d493_10 : decode cJ0_coder_7d493 10 = .ok (.goto 4, 3) := by decide +kernel
theorem dJ0_coder_7d493_14 : decode cJ0_coder_7d493 14 = .ok (.ireturn, 1) := by decide +kernel
theorem dJ0_length_8abf5_0 : decode cJ0_length_8abf5 0 = .ok (.aload_n 0, 1) := by decide +kernel
theorem dJ0_length_8abf5_1 : decode cJ0_length_8abf5 1 = .ok (.getfield 9, 3) := by decide +kernel
theorem dJ0_length_8abf5_4 : decode cJ0_length_8abf5 4 = .ok (.arraylength, 1) := by decide +kernel
theorem dJ0_length_8abf5_5 : decode cJ0_length_8abf5 5 = .ok (.aload_n 0, 1) := by decide +kernel
theorem dJ0_length_8abf5_6 : decode cJ0_length_8abf5 6 = .ok (.invokevirtual 335, 3) := by decide +kernel
theorem dJ0_length_8abf5_9 : decode cJ0_length_8abf5 9 = .ok (.ishr, 1) := by decide +kernel
theorem dJ0_length_8abf5_10 : decode cJ0_length_8abf5 10 = .ok (.ireturn, 1) := by decide +kernel
theorem dX7_look_0 : decode cX7_look 0 = .ok (.aload_n 0, 1) := by decide +kernel
theorem dX7_look_1 : decode cX7_look 1 = .ok (.getfield 80, 3) := by decide +kernel
theorem dX7_look_4 : decode cX7_look 4 = .ok (.ifCond .lt 53, 3) := by decide +kernel
theorem dX7_look_7 : decode cX7_look 7 = .ok (.aload_n 0, 1) := by decide +kernel
theorem dX7_look_8 : decode cX7_look 8 = .ok (.getfield 80, 3) := by decide +kernel
theorem dX7_look_11 : decode cX7_look 11 = .ok (.aload_n 0, 1) := by decide +kernel
theorem dX7_look_12 : decode cX7_look 12 = .ok (.getfield 110, 3) := by decide +kernel
theorem dX7_look_15 : decode cX7_look 15 = .ok (.if_icmp .ge 42, 3) := by decide +kernel
theorem dX7_look_57 : decode cX7_look 57 = .ok (.aload_n 0, 1) := by decide +kernel
theorem dX7_look_58 : decode cX7_look 58 = .ok (.getfield 80, 3) := by decide +kernel
theorem dX7_look_61 : decode cX7_look 61 = .ok (.ifCond .lt 42, 3) := by decide +kernel
theorem dX7_look_64 : decode cX7_look 64 = .ok (.aload_n 0, 1) := by decide +kernel
theorem dX7_look_65 : decode cX7_look 65 = .ok (.getfield 80, 3) := by decide +kernel
theorem dX7_look_68 : decode cX7_look 68 = .ok (.aload_n 0, 1) := by decide +kernel
theorem dX7_look_69 : decode cX7_look 69 = .ok (.getfield 110, 3) := by decide +kernel
theorem dX7_look_72 : decode cX7_look 72 = .ok (.if_icmp .ge 31, 3) := by decide +kernel
theorem dX7_look_103 : decode cX7_look 103 = .ok (.iconst (-1), 1) := by decide +kernel
theorem dX7_look_104 : decode cX7_look 104 = .ok (.ireturn, 1) := by decide +kernel
theorem dX7_wordLength_0 : decode cX7_wordLength 0 = .ok (.aload_n 0, 1) := by decide +kernel
theorem dX7_wordLength_1 : decode cX7_wordLength 1 = .ok (.invokevirtual 72, 3) := by decide +kernel
theorem dX7_wordLength_4 : decode cX7_wordLength 4 = .ok (.pop, 1) := by decide +kernel
theorem dX7_wordLength_5 : decode cX7_wordLength 5 = .ok (.iconst 0, 1) := by decide +kernel
theorem dX7_wordLength_6 : decode cX7_wordLength 6 = .ok (.istore_n 1, 1) := by decide +kernel
theorem dX7_wordLength_7 : decode cX7_wordLength 7 = .ok (.aload_n 0, 1) := by decide +kernel
theorem dX7_wordLength_8 : decode cX7_wordLength 8 = .ok (.getfield 80, 3) := by decide +kernel
theorem dX7_wordLength_11 : decode cX7_wordLength 11 = .ok (.ifCond .lt 53, 3) := by decide +kernel
theorem dX7_wordLength_14 : decode cX7_wordLength 14 = .ok (.aload_n 0, 1) := by decide +kernel
theorem dX7_wordLength_15 : decode cX7_wordLength 15 = .ok (.getfield 80, 3) := by decide +kernel
theorem dX7_wordLength_18 : decode cX7_wordLength 18 = .ok (.iload_n 1, 1) := by decide +kernel
theorem dX7_wordLength_19 : decode cX7_wordLength 19 = .ok (.iadd, 1) := by decide +kernel
theorem dX7_wordLength_20 : decode cX7_wordLength 20 = .ok (.aload_n 0, 1) := by decide +kernel
theorem dX7_wordLength_21 : decode cX7_wordLength 21 = .ok (.getfield 110, 3) := by decide +kernel
theorem dX7_wordLength_24 : decode cX7_wordLength 24 = .ok (.if_icmp .ge 40, 3) := by decide +kernel
theorem dX7_wordLength_64 : decode cX7_wordLength 64 = .ok (.iload_n 1, 1) := by decide +kernel
theorem dX7_wordLength_65 : decode cX7_wordLength 65 = .ok (.ireturn, 1) := by decide +kernel
theorem dX7_eatWord_0 : decode cX7_eatWord 0 = .ok (.aload_n 0, 1) := by decide +kernel
theorem dX7_eatWord_1 : decode cX7_eatWord 1 = .ok (.invokevirtual 123, 3) := by decide +kernel
theorem dX7_eatWord_4 : decode cX7_eatWord 4 = .ok (.istore_n 2, 1) := by decide +kernel
theorem dX7_eatWord_5 : decode cX7_eatWord 5 = .ok (.iload_n 2, 1) := by decide +kernel
theorem dX7_eatWord_6 : decode cX7_eatWord 6 = .ok (.aload_n 1, 1) := by decide +kernel
theorem dX7_eatWord_7 : decode cX7_eatWord 7 = .ok (.invokevirtual 126, 3) := by decide +kernel
theorem dX7_eatWord_10 : decode cX7_eatWord 10 = .ok (.if_icmp .eq 5, 3) := by decide +kernel
theorem dX7_eatWord_13 : decode cX7_eatWord 13 = .ok (.iconst 0, 1) := by decide +kernel
theorem dX7_eatWord_14 : decode cX7_eatWord 14 = .ok (.ireturn, 1) := by decide +kernel
theorem dX7_fail_0 : decode cX7_fail 0 = .ok (.aload_n 0, 1) := by decide +kernel
theorem dX7_fail_1 : decode cX7_fail 1 = .ok (.getfield 69, 3) := by decide +kernel
theorem dX7_fail_4 : decode cX7_fail 4 = .ok (.ifCond .ne 16, 3) := by decide +kernel
theorem dX7_fail_7 : decode cX7_fail 7 = .ok (.aload_n 0, 1) := by decide +kernel
theorem dX7_fail_8 : decode cX7_fail 8 = .ok (.iload_n 1, 1) := by decide +kernel
theorem dX7_fail_9 : decode cX7_fail 9 = .ok (.putfield 69, 3) := by decide +kernel
theorem dX7_fail_12 : decode cX7_fail 12 = .ok (.aload_n 0, 1) := by decide +kernel
theorem dX7_fail_13 : decode cX7_fail 13 = .ok (.aload_n 0, 1) := by decide +kernel
theorem dX7_fail_14 : decode cX7_fail 14 = .ok (.getfield 80, 3) := by decide +kernel
theorem dX7_fail_17 : decode cX7_fail 17 = .ok (.putfield 22, 3) := by decide +kernel
theorem dX7_fail_20 : decode cX7_fail 20 = .ok (.return_, 1) := by decide +kernel
theorem dX7_start_0 : decode cX7_start 0 = .ok (.aload_n 0, 1) := by decide +kernel
theorem dX7_start_1 : decode cX7_start 1 = .ok (.iload_n 1, 1) := by decide +kernel
theorem dX7_start_2 : decode cX7_start 2 = .ok (.aload_n 0, 1) := by decide +kernel
theorem dX7_start_3 : decode cX7_start 3 = .ok (.getfield 26, 3) := by decide +kernel
theorem dX7_start_6 : decode cX7_start 6 = .ok (.arraylength, 1) := by decide +kernel
theorem dX7_start_7 : decode cX7_start 7 = .ok (.invokestatic 104, 3) := by decide +kernel
theorem dX7_start_10 : decode cX7_start 10 = .ok (.putfield 110, 3) := by decide +kernel
theorem dX7_start_13 : decode cX7_start 13 = .ok (.aload_n 0, 1) := by decide +kernel
theorem dX7_start_14 : decode cX7_start 14 = .ok (.iconst 0, 1) := by decide +kernel
theorem dX7_start_15 : decode cX7_start 15 = .ok (.putfield 80, 3) := by decide +kernel
theorem dX7_start_18 : decode cX7_start 18 = .ok (.aload_n 0, 1) := by decide +kernel
theorem dX7_start_19 : decode cX7_start 19 = .ok (.iconst 0, 1) := by decide +kernel
theorem dX7_start_20 : decode cX7_start 20 = .ok (.putfield 69, 3) := by decide +kernel
theorem dX7_start_23 : decode cX7_start 23 = .ok (.aload_n 0, 1) := by decide +kernel
theorem dX7_start_24 : decode cX7_start 24 = .ok (.iconst (-1), 1) := by decide +kernel
theorem dX7_start_25 : decode cX7_start 25 = .ok (.putfield 22, 3) := by decide +kernel
theorem dX7_start_28 : decode cX7_start 28 = .ok (.aload_n 0, 1) := by decide +kernel
theorem dX7_start_29 : decode cX7_start 29 = .ok (.getfield 18, 3) := by decide +kernel
theorem dX7_start_32 : decode cX7_start 32 = .ok (.invokevirtual 112, 3) := by decide +kernel
theorem dX7_start_35 : decode cX7_start 35 = .ok (.return_, 1) := by decide +kernel
theorem dX7_row_0 : decode cX7_row 0 = .ok (.iload_n 1, 1) := by decide +kernel
theorem dX7_row_1 : decode cX7_row 1 = .ok (.iconst 4, 1) := by decide +kernel
theorem dX7_row_2 : decode cX7_row 2 = .ok (.imul, 1) := by decide +kernel
theorem dX7_row_3 : decode cX7_row 3 = .ok (.iload_n 2, 1) := by decide +kernel
theorem dX7_row_4 : decode cX7_row 4 = .ok (.iadd, 1) := by decide +kernel
theorem dX7_row_5 : decode cX7_row 5 = .ok (.istore_n 3, 1) := by decide +kernel
theorem dX7_row_6 : decode cX7_row 6 = .ok (.aload_n 0, 1) := by decide +kernel
theorem dX7_row_7 : decode cX7_row 7 = .ok (.getfield 13, 3) := by decide +kernel
theorem dX7_row_10 : decode cX7_row 10 = .ok (.iload_n 3, 1) := by decide +kernel
theorem dX7_row_11 : decode cX7_row 11 = .ok (.ifCond .lt 16, 3) := by decide +kernel
theorem dX7_row_14 : decode cX7_row 14 = .ok (.iload_n 3, 1) := by decide +kernel
theorem dX7_row_15 : decode cX7_row 15 = .ok (.aload_n 0, 1) := by decide +kernel
theorem dX7_row_16 : decode cX7_row 16 = .ok (.getfield 13, 3) := by decide +kernel
theorem dX7_row_19 : decode cX7_row 19 = .ok (.arraylength, 1) := by decide +kernel
theorem dX7_row_20 : decode cX7_row 20 = .ok (.if_icmp .ge 7, 3) := by decide +kernel
theorem dX7_row_23 : decode cX7_row 23 = .ok (.iload_n 3, 1) := by decide +kernel
theorem dX7_row_24 : decode cX7_row 24 = .ok (.goto 4, 3) := by decide +kernel
theorem dX7_row_28 : decode cX7_row 28 = .ok (.aaload, 1) := by decide +kernel
theorem dX7_row_29 : decode cX7_row 29 = .ok (.areturn, 1) := by decide +kernel
theorem dX7_eat_0 : decode cX7_eat 0 = .ok (.aload_n 0, 1) := by decide +kernel
theorem dX7_eat_1 : decode cX7_eat 1 = .ok (.getfield 69, 3) := by decide +kernel
theorem dX7_eat_4 : decode cX7_eat 4 = .ok (.ifCond .ne 11, 3) := by decide +kernel
theorem dX7_eat_15 : decode cX7_eat 15 = .ok (.iconst 0, 1) := by decide +kernel
theorem dX7_eat_16 : decode cX7_eat 16 = .ok (.ireturn, 1) := by decide +kernel
theorem dX7_needEnd_0 : decode cX7_needEnd 0 = .ok (.aload_n 0, 1) := by decide +kernel
theorem dX7_needEnd_1 : decode cX7_needEnd 1 = .ok (.getfield 69, 3) := by decide +kernel
theorem dX7_needEnd_4 : decode cX7_needEnd 4 = .ok (.ifCond .ne 16, 3) := by decide +kernel
theorem dX7_needEnd_20 : decode cX7_needEnd 20 = .ok (.return_, 1) := by decide +kernel
theorem dX7_readSum_0 : decode cX7_readSum 0 = .ok (.aload_n 0, 1) := by decide +kernel
theorem dX7_readSum_1 : decode cX7_readSum 1 = .ok (.iload_n 1, 1) := by decide +kernel
theorem dX7_readSum_2 : decode cX7_readSum 2 = .ok (.iconst 0, 1) := by decide +kernel
theorem dX7_readSum_3 : decode cX7_readSum 3 = .ok (.invokevirtual 52, 3) := by decide +kernel
theorem dX7_readSum_6 : decode cX7_readSum 6 = .ok (.astore_n 2, 1) := by decide +kernel
theorem dX7_readSum_7 : decode cX7_readSum 7 = .ok (.aload_n 0, 1) := by decide +kernel
theorem dX7_readSum_8 : decode cX7_readSum 8 = .ok (.bipush 45, 2) := by decide +kernel
theorem dX7_readSum_10 : decode cX7_readSum 10 = .ok (.invokevirtual 115, 3) := by decide +kernel
theorem dX7_readSum_13 : decode cX7_readSum 13 = .ok (.ifCond .eq 7, 3) := by decide +kernel
theorem dX7_readSum_20 : decode cX7_readSum 20 = .ok (.iconst 1, 1) := by decide +kernel
theorem dX7_readSum_21 : decode cX7_readSum 21 = .ok (.istore_n 3, 1) := by decide +kernel
theorem dX7_readSum_22 : decode cX7_readSum 22 = .ok (.aload_n 2, 1) := by decide +kernel
theorem dX7_readSum_23 : decode cX7_readSum 23 = .ok (.invokevirtual 112, 3) := by decide +kernel
theorem dX7_readSum_26 : decode cX7_readSum 26 = .ok (.iconst 0, 1) := by decide +kernel
theorem dX7_readSum_27 : decode cX7_readSum 27 = .ok (.istore 4, 2) := by decide +kernel
theorem dX7_readSum_29 : decode cX7_readSum 29 = .ok (.iload 4, 2) := by decide +kernel
theorem dX7_readSum_31 : decode cX7_readSum 31 = .ok (.sipush 200, 3) := by decide +kernel
theorem dX7_readSum_34 : decode cX7_readSum 34 = .ok (.if_icmp .gt 65, 3) := by decide +kernel
theorem dX7_readSum_37 : decode cX7_readSum 37 = .ok (.iload_n 3, 1) := by decide +kernel
theorem dX7_readSum_38 : decode cX7_readSum 38 = .ok (.ifCond .eq 61, 3) := by decide +kernel
theorem dX7_readSum_41 : decode cX7_readSum 41 = .ok (.aload_n 0, 1) := by decide +kernel
theorem dX7_readSum_42 : decode cX7_readSum 42 = .ok (.getfield 69, 3) := by decide +kernel
theorem dX7_readSum_45 : decode cX7_readSum 45 = .ok (.ifCond .ne 54, 3) := by decide +kernel
theorem dX7_readSum_99 : decode cX7_readSum 99 = .ok (.return_, 1) := by decide +kernel
theorem dX7_readPolynomial_0 : decode cX7_readPolynomial 0 = .ok (.aload_n 0, 1) := by decide +kernel
theorem dX7_readPolynomial_1 : decode cX7_readPolynomial 1 = .ok (.iload_n 1, 1) := by decide +kernel
theorem dX7_readPolynomial_2 : decode cX7_readPolynomial 2 = .ok (.putfield 142, 3) := by decide +kernel
theorem dX7_readPolynomial_5 : decode cX7_readPolynomial 5 = .ok (.aload_n 0, 1) := by decide +kernel
theorem dX7_readPolynomial_6 : decode cX7_readPolynomial 6 = .ok (.iconst 0, 1) := by decide +kernel
theorem dX7_readPolynomial_7 : decode cX7_readPolynomial 7 = .ok (.putfield 145, 3) := by decide +kernel
theorem dX7_readPolynomial_10 : decode cX7_readPolynomial 10 = .ok (.aload_n 0, 1) := by decide +kernel
theorem dX7_readPolynomial_11 : decode cX7_readPolynomial 11 = .ok (.iconst 0, 1) := by decide +kernel
theorem dX7_readPolynomial_12 : decode cX7_readPolynomial 12 = .ok (.invokevirtual 149, 3) := by decide +kernel
theorem dX7_readPolynomial_15 : decode cX7_readPolynomial 15 = .ok (.aload_n 0, 1) := by decide +kernel
theorem dX7_readPolynomial_16 : decode cX7_readPolynomial 16 = .ok (.getfield 69, 3) := by decide +kernel
theorem dX7_readPolynomial_19 : decode cX7_readPolynomial 19 = .ok (.ifCond .eq 4, 3) := by decide +kernel
theorem dX7_readPolynomial_22 : decode cX7_readPolynomial 22 = .ok (.return_, 1) := by decide +kernel
theorem dX7_readEquation_0 : decode cX7_readEquation 0 = .ok (.aload_n 0, 1) := by decide +kernel
theorem dX7_readEquation_1 : decode cX7_readEquation 1 = .ok (.iload_n 1, 1) := by decide +kernel
theorem dX7_readEquation_2 : decode cX7_readEquation 2 = .ok (.invokevirtual 34, 3) := by decide +kernel
theorem dX7_readEquation_5 : decode cX7_readEquation 5 = .ok (.aload_n 0, 1) := by decide +kernel
theorem dX7_readEquation_6 : decode cX7_readEquation 6 = .ok (.ldc 38, 2) := by decide +kernel
theorem dX7_readEquation_8 : decode cX7_readEquation 8 = .ok (.invokevirtual 40, 3) := by decide +kernel
theorem dX7_readEquation_11 : decode cX7_readEquation 11 = .ok (.ifCond .eq 7, 3) := by decide +kernel
theorem dX7_readEquation_18 : decode cX7_readEquation 18 = .ok (.aload_n 0, 1) := by decide +kernel
theorem dX7_readEquation_19 : decode cX7_readEquation 19 = .ok (.ldc 44, 2) := by decide +kernel
theorem dX7_readEquation_21 : decode cX7_readEquation 21 = .ok (.invokevirtual 40, 3) := by decide +kernel
theorem dX7_readEquation_24 : decode cX7_readEquation 24 = .ok (.ifCond .eq 7, 3) := by decide +kernel
theorem dX7_readEquation_31 : decode cX7_readEquation 31 = .ok (.iconst 0, 1) := by decide +kernel
theorem dX7_readEquation_32 : decode cX7_readEquation 32 = .ok (.istore_n 2, 1) := by decide +kernel
theorem dX7_readEquation_33 : decode cX7_readEquation 33 = .ok (.iload_n 2, 1) := by decide +kernel
theorem dX7_readEquation_34 : decode cX7_readEquation 34 = .ok (.ifCond .ne 8, 3) := by decide +kernel
theorem dX7_readEquation_37 : decode cX7_readEquation 37 = .ok (.aload_n 0, 1) := by decide +kernel
theorem dX7_readEquation_38 : decode cX7_readEquation 38 = .ok (.iconst 1, 1) := by decide +kernel
theorem dX7_readEquation_39 : decode cX7_readEquation 39 = .ok (.invokevirtual 46, 3) := by decide +kernel
theorem dX7_readEquation_42 : decode cX7_readEquation 42 = .ok (.aload_n 0, 1) := by decide +kernel
theorem dX7_readEquation_43 : decode cX7_readEquation 43 = .ok (.iload_n 2, 1) := by decide +kernel
theorem dX7_readEquation_44 : decode cX7_readEquation 44 = .ok (.iconst 1, 1) := by decide +kernel
theorem dX7_readEquation_45 : decode cX7_readEquation 45 = .ok (.if_icmp .ne 8, 3) := by decide +kernel
theorem dX7_readEquation_53 : decode cX7_readEquation 53 = .ok (.bipush 13, 2) := by decide +kernel
theorem dX7_readEquation_55 : decode cX7_readEquation 55 = .ok (.invokevirtual 49, 3) := by decide +kernel
theorem dX7_readEquation_58 : decode cX7_readEquation 58 = .ok (.aload_n 0, 1) := by decide +kernel
theorem dX7_readEquation_59 : decode cX7_readEquation 59 = .ok (.getfield 18, 3) := by decide +kernel
theorem dX7_readEquation_62 : decode cX7_readEquation 62 = .ok (.aload_n 0, 1) := by decide +kernel
theorem dX7_readEquation_63 : decode cX7_readEquation 63 = .ok (.iconst 0, 1) := by decide +kernel
theorem dX7_readEquation_64 : decode cX7_readEquation 64 = .ok (.iconst 0, 1) := by decide +kernel
theorem dX7_readEquation_65 : decode cX7_readEquation 65 = .ok (.invokevirtual 52, 3) := by decide +kernel
theorem dX7_readEquation_68 : decode cX7_readEquation 68 = .ok (.invokevirtual 56, 3) := by decide +kernel
theorem dX7_readEquation_71 : decode cX7_readEquation 71 = .ok (.aload_n 0, 1) := by decide +kernel
theorem dX7_readEquation_72 : decode cX7_readEquation 72 = .ok (.invokevirtual 60, 3) := by decide +kernel
theorem dX7_readEquation_75 : decode cX7_readEquation 75 = .ok (.iload_n 2, 1) := by decide +kernel
theorem dX7_readEquation_76 : decode cX7_readEquation 76 = .ok (.ireturn, 1) := by decide +kernel
theorem dX11_equation_0 : decode cX11_equation 0 = .ok (.aload_n 0, 1) := by decide +kernel
theorem dX11_equation_1 : decode cX11_equation 1 = .ok (.iload_n 1, 1) := by decide +kernel
theorem dX11_equation_2 : decode cX11_equation 2 = .ok (.invokevirtual 119, 3) := by decide +kernel
theorem dX11_equation_5 : decode cX11_equation 5 = .ok (.aload_n 0, 1) := by decide +kernel
theorem dX11_equation_6 : decode cX11_equation 6 = .ok (.getfield 41, 3) := by decide +kernel
theorem dX11_equation_9 : decode cX11_equation 9 = .ok (.iload_n 1, 1) := by decide +kernel
theorem dX11_equation_10 : decode cX11_equation 10 = .ok (.invokevirtual 122, 3) := by decide +kernel
theorem dX11_equation_13 : decode cX11_equation 13 = .ok (.istore_n 2, 1) := by decide +kernel
theorem dX11_equation_14 : decode cX11_equation 14 = .ok (.aload_n 0, 1) := by decide +kernel
theorem dX11_equation_15 : decode cX11_equation 15 = .ok (.aload_n 0, 1) := by decide +kernel
theorem dX11_equation_16 : decode cX11_equation 16 = .ok (.getfield 41, 3) := by decide +kernel
theorem dX11_equation_19 : decode cX11_equation 19 = .ok (.getfield 126, 3) := by decide +kernel
theorem dX11_equation_22 : decode cX11_equation 22 = .ok (.putfield 13, 3) := by decide +kernel
theorem dX11_equation_25 : decode cX11_equation 25 = .ok (.aload_n 0, 1) := by decide +kernel
theorem dX11_equation_26 : decode cX11_equation 26 = .ok (.getfield 41, 3) := by decide +kernel
theorem dX11_equation_29 : decode cX11_equation 29 = .ok (.getfield 129, 3) := by decide +kernel
theorem dX11_equation_32 : decode cX11_equation 32 = .ok (.ifCond .eq 14, 3) := by decide +kernel
theorem dX11_equation_35 : decode cX11_equation 35 = .ok (.aload_n 0, 1) := by decide +kernel
theorem dX11_equation_36 : decode cX11_equation 36 = .ok (.getfield 41, 3) := by decide +kernel
theorem dX11_equation_39 : decode cX11_equation 39 = .ok (.getfield 129, 3) := by decide +kernel
theorem dX11_equation_42 : decode cX11_equation 42 = .ok (.bipush 10, 2) := by decide +kernel
theorem dX11_equation_44 : decode cX11_equation 44 = .ok (.isub, 1) := by decide +kernel
theorem dX11_equation_45 : decode cX11_equation 45 = .ok (.ireturn, 1) := by decide +kernel
theorem dX11_image_0 : decode cX11_image 0 = .ok (.aload_n 0, 1) := by decide +kernel
theorem dX11_image_1 : decode cX11_image 1 = .ok (.getfield 146, 3) := by decide +kernel
theorem dX11_image_4 : decode cX11_image 4 = .ok (.ifCond .lt 11, 3) := by decide +kernel
theorem dX11_image_7 : decode cX11_image 7 = .ok (.aload_n 0, 1) := by decide +kernel
theorem dX11_image_8 : decode cX11_image 8 = .ok (.getfield 146, 3) := by decide +kernel
theorem dX11_image_11 : decode cX11_image 11 = .ok (.iconst 3, 1) := by decide +kernel
theorem dX11_image_12 : decode cX11_image 12 = .ok (.if_icmp .lt 5, 3) := by decide +kernel
theorem dX11_image_17 : decode cX11_image 17 = .ok (.aload_n 0, 1) := by decide +kernel
theorem dX11_image_18 : decode cX11_image 18 = .ok (.getfield 95, 3) := by decide +kernel
theorem dX11_image_21 : decode cX11_image 21 = .ok (.aload_n 0, 1) := by decide +kernel
theorem dX11_image_22 : decode cX11_image 22 = .ok (.getfield 146, 3) := by decide +kernel
theorem dX11_image_25 : decode cX11_image 25 = .ok (.aaload, 1) := by decide +kernel
theorem dX11_image_26 : decode cX11_image 26 = .ok (.aload_n 0, 1) := by decide +kernel
theorem dX11_image_27 : decode cX11_image 27 = .ok (.getfield 88, 3) := by decide +kernel
theorem dX11_image_30 : decode cX11_image 30 = .ok (.invokevirtual 169, 3) := by decide +kernel
theorem dX11_image_33 : decode cX11_image 33 = .ok (.aload_n 0, 1) := by decide +kernel
theorem dX11_image_34 : decode cX11_image 34 = .ok (.getfield 99, 3) := by decide +kernel
theorem dX11_image_37 : decode cX11_image 37 = .ok (.aload_n 0, 1) := by decide +kernel
theorem dX11_image_38 : decode cX11_image 38 = .ok (.getfield 146, 3) := by decide +kernel
theorem dX11_image_41 : decode cX11_image 41 = .ok (.aaload, 1) := by decide +kernel
theorem dX11_image_42 : decode cX11_image 42 = .ok (.aload_n 0, 1) := by decide +kernel
theorem dX11_image_43 : decode cX11_image 43 = .ok (.getfield 92, 3) := by decide +kernel
theorem dX11_image_46 : decode cX11_image 46 = .ok (.invokevirtual 169, 3) := by decide +kernel
theorem dX11_image_49 : decode cX11_image 49 = .ok (.aload_n 0, 1) := by decide +kernel
theorem dX11_image_50 : decode cX11_image 50 = .ok (.dup, 1) := by decide +kernel
theorem dX11_image_51 : decode cX11_image 51 = .ok (.getfield 146, 3) := by decide +kernel
theorem dX11_image_54 : decode cX11_image 54 = .ok (.iconst 1, 1) := by decide +kernel
theorem dX11_image_55 : decode cX11_image 55 = .ok (.iadd, 1) := by decide +kernel
theorem dX11_image_56 : decode cX11_image 56 = .ok (.putfield 146, 3) := by decide +kernel
theorem dX11_image_59 : decode cX11_image 59 = .ok (.aload_n 0, 1) := by decide +kernel
theorem dX11_image_60 : decode cX11_image 60 = .ok (.getfield 146, 3) := by decide +kernel
theorem dX11_image_63 : decode cX11_image 63 = .ok (.ireturn, 1) := by decide +kernel
theorem dX11_push_0 : decode cX11_push 0 = .ok (.bipush 24, 2) := by decide +kernel
theorem dX11_push_2 : decode cX11_push 2 = .ok (.istore_n 2, 1) := by decide +kernel
theorem dX11_push_3 : decode cX11_push 3 = .ok (.iload_n 2, 1) := by decide +kernel
theorem dX11_push_4 : decode cX11_push 4 = .ok (.ifCond .lt 49, 3) := by decide +kernel
theorem dX11_push_7 : decode cX11_push 7 = .ok (.aload_n 0, 1) := by decide +kernel
theorem dX11_push_8 : decode cX11_push 8 = .ok (.getfield 112, 3) := by decide +kernel
theorem dX11_push_11 : decode cX11_push 11 = .ok (.ifCond .lt 36, 3) := by decide +kernel
theorem dX11_push_14 : decode cX11_push 14 = .ok (.aload_n 0, 1) := by decide +kernel
theorem dX11_push_15 : decode cX11_push 15 = .ok (.getfield 112, 3) := by decide +kernel
theorem dX11_push_18 : decode cX11_push 18 = .ok (.sipush 200, 3) := by decide +kernel
theorem dX11_push_21 : decode cX11_push 21 = .ok (.if_icmp .ge 26, 3) := by decide +kernel
theorem dX11_push_24 : decode cX11_push 24 = .ok (.aload_n 0, 1) := by decide +kernel
theorem dX11_push_25 : decode cX11_push 25 = .ok (.getfield 9, 3) := by decide +kernel
theorem dX11_push_28 : decode cX11_push 28 = .ok (.aload_n 0, 1) := by decide +kernel
theorem dX11_push_29 : decode cX11_push 29 = .ok (.getfield 112, 3) := by decide +kernel
theorem dX11_push_32 : decode cX11_push 32 = .ok (.iload_n 1, 1) := by decide +kernel
theorem dX11_push_33 : decode cX11_push 33 = .ok (.iload_n 2, 1) := by decide +kernel
theorem dX11_push_34 : decode cX11_push 34 = .ok (.ishr, 1) := by decide +kernel
theorem dX11_push_35 : decode cX11_push 35 = .ok (.i2b, 1) := by decide +kernel
theorem dX11_push_36 : decode cX11_push 36 = .ok (.bastore, 1) := by decide +kernel
theorem dX11_push_37 : decode cX11_push 37 = .ok (.aload_n 0, 1) := by decide +kernel
theorem dX11_push_38 : decode cX11_push 38 = .ok (.dup, 1) := by decide +kernel
theorem dX11_push_39 : decode cX11_push 39 = .ok (.getfield 112, 3) := by decide +kernel
theorem dX11_push_42 : decode cX11_push 42 = .ok (.iconst 1, 1) := by decide +kernel
theorem dX11_push_43 : decode cX11_push 43 = .ok (.iadd, 1) := by decide +kernel
theorem dX11_push_44 : decode cX11_push 44 = .ok (.putfield 112, 3) := by decide +kernel
theorem dX11_push_47 : decode cX11_push 47 = .ok (.iinc 2 (-8), 3) := by decide +kernel
theorem dX11_push_50 : decode cX11_push 50 = .ok (.goto (-47), 3) := by decide +kernel
theorem dX11_push_53 : decode cX11_push 53 = .ok (.return_, 1) := by decide +kernel
theorem dX11_feed_0 : decode cX11_feed 0 = .ok (.aload_n 0, 1) := by decide +kernel
theorem dX11_feed_1 : decode cX11_feed 1 = .ok (.getfield 112, 3) := by decide +kernel
theorem dX11_feed_4 : decode cX11_feed 4 = .ok (.bipush 20, 2) := by decide +kernel
theorem dX11_feed_6 : decode cX11_feed 6 = .ok (.iadd, 1) := by decide +kernel
theorem dX11_feed_7 : decode cX11_feed 7 = .ok (.sipush 200, 3) := by decide +kernel
theorem dX11_feed_10 : decode cX11_feed 10 = .ok (.if_icmp .le 5, 3) := by decide +kernel
theorem dX11_feed_15 : decode cX11_feed 15 = .ok (.aload_n 0, 1) := by decide +kernel
theorem dX11_feed_16 : decode cX11_feed 16 = .ok (.iload_n 1, 1) := by decide +kernel
theorem dX11_feed_17 : decode cX11_feed 17 = .ok (.invokevirtual 115, 3) := by decide +kernel
theorem dX11_feed_20 : decode cX11_feed 20 = .ok (.aload_n 0, 1) := by decide +kernel
theorem dX11_feed_21 : decode cX11_feed 21 = .ok (.iload_n 2, 1) := by decide +kernel
theorem dX11_feed_22 : decode cX11_feed 22 = .ok (.invokevirtual 115, 3) := by decide +kernel
theorem dX11_feed_25 : decode cX11_feed 25 = .ok (.aload_n 0, 1) := by decide +kernel
theorem dX11_feed_26 : decode cX11_feed 26 = .ok (.iload_n 3, 1) := by decide +kernel
theorem dX11_feed_27 : decode cX11_feed 27 = .ok (.invokevirtual 115, 3) := by decide +kernel
theorem dX11_feed_30 : decode cX11_feed 30 = .ok (.aload_n 0, 1) := by decide +kernel
theorem dX11_feed_31 : decode cX11_feed 31 = .ok (.iload 4, 2) := by decide +kernel
theorem dX11_feed_33 : decode cX11_feed 33 = .ok (.invokevirtual 115, 3) := by decide +kernel
theorem dX11_feed_36 : decode cX11_feed 36 = .ok (.aload_n 0, 1) := by decide +kernel
theorem dX11_feed_37 : decode cX11_feed 37 = .ok (.iload 5, 2) := by decide +kernel
theorem dX11_feed_39 : decode cX11_feed 39 = .ok (.invokevirtual 115, 3) := by decide +kernel
theorem dX11_feed_42 : decode cX11_feed 42 = .ok (.aload_n 0, 1) := by decide +kernel
theorem dX11_feed_43 : decode cX11_feed 43 = .ok (.getfield 112, 3) := by decide +kernel
theorem dX11_feed_46 : decode cX11_feed 46 = .ok (.ireturn, 1) := by decide +kernel
theorem hv_J0_coder_7d493 : yJ0_coder_7d493.cls = RJ0 ∧ yJ0_coder_7d493.cls ≠ "java/lang/invoke/MethodHandle" ∧ yJ0_coder_7d493.cls ≠ "java/lang/invoke/VarHandle" ∧ (parseMethodDescriptor yJ0_coder_7d493.desc).map (fun d => d.parameters.length) = some 0 := by decide +kernel
theorem hv_J0_length_8abf5 : yJ0_length_8abf5.cls = RJ0 ∧ yJ0_length_8abf5.cls ≠ "java/lang/invoke/MethodHandle" ∧ yJ0_length_8abf5.cls ≠ "java/lang/invoke/VarHandle" ∧ (parseMethodDescriptor yJ0_length_8abf5.desc).map (fun d => d.parameters.length) = some 0 := by decide +kernel
theorem hv_X11_baseOf : yX11_baseOf.cls = RX11 ∧ yX11_baseOf.cls ≠ "java/lang/invoke/MethodHandle" ∧ yX11_baseOf.cls ≠ "java/lang/invoke/VarHandle" ∧ (parseMethodDescriptor yX11_baseOf.desc).map (fun d => d.parameters.length) = some 1 := by decide +kernel
theorem hv_X11_needDensities : yX11_needDensities.cls = RX11 ∧ yX11_needDensities.cls ≠ "java/lang/invoke/MethodHandle" ∧ yX11_needDensities.cls ≠ "java/lang/invoke/VarHandle" ∧ (parseMethodDescriptor yX11_needDensities.desc).map (fun d => d.parameters.length) = some 1 := by decide +kernel
theorem hv_X11_needEquation : yX11_needEquation.cls = RX11 ∧ yX11_needEquation.cls ≠ "java/lang/invoke/MethodHandle" ∧ yX11_needEquation.cls ≠ "java/lang/invoke/VarHandle" ∧ (parseMethodDescriptor yX11_needEquation.desc).map (fun d => d.parameters.length) = some 0 := by decide +kernel
theorem hv_X11_push : yX11_push.cls = RX11 ∧ yX11_push.cls ≠ "java/lang/invoke/MethodHandle" ∧ yX11_push.cls ≠ "java/lang/invoke/VarHandle" ∧ (parseMethodDescriptor yX11_push.desc).map (fun d => d.parameters.length) = some 1 := by decide +kernel
theorem hv_X11_takeTape : yX11_takeTape.cls = RX11 ∧ yX11_takeTape.cls ≠ "java/lang/invoke/MethodHandle" ∧ yX11_takeTape.cls ≠ "java/lang/invoke/VarHandle" ∧ (parseMethodDescriptor yX11_takeTape.desc).map (fun d => d.parameters.length) = some 1 := by decide +kernel
theorem hv_X2_has : yX2_has.cls = RX2 ∧ yX2_has.cls ≠ "java/lang/invoke/MethodHandle" ∧ yX2_has.cls ≠ "java/lang/invoke/VarHandle" ∧ (parseMethodDescriptor yX2_has.desc).map (fun d => d.parameters.length) = some 1 := by decide +kernel
theorem hv_X2_order : yX2_order.cls = RX2 ∧ yX2_order.cls ≠ "java/lang/invoke/MethodHandle" ∧ yX2_order.cls ≠ "java/lang/invoke/VarHandle" ∧ (parseMethodDescriptor yX2_order.desc).map (fun d => d.parameters.length) = some 0 := by decide +kernel
theorem hv_X6_at : yX6_at.cls = RX6 ∧ yX6_at.cls ≠ "java/lang/invoke/MethodHandle" ∧ yX6_at.cls ≠ "java/lang/invoke/VarHandle" ∧ (parseMethodDescriptor yX6_at.desc).map (fun d => d.parameters.length) = some 1 := by decide +kernel
theorem hv_X6_clear : yX6_clear.cls = RX6 ∧ yX6_clear.cls ≠ "java/lang/invoke/MethodHandle" ∧ yX6_clear.cls ≠ "java/lang/invoke/VarHandle" ∧ (parseMethodDescriptor yX6_clear.desc).map (fun d => d.parameters.length) = some 0 := by decide +kernel
theorem hv_X6_copy : yX6_copy.cls = RX6 ∧ yX6_copy.cls ≠ "java/lang/invoke/MethodHandle" ∧ yX6_copy.cls ≠ "java/lang/invoke/VarHandle" ∧ (parseMethodDescriptor yX6_copy.desc).map (fun d => d.parameters.length) = some 1 := by decide +kernel
theorem hv_X6_length : yX6_length.cls = RX6 ∧ yX6_length.cls ≠ "java/lang/invoke/MethodHandle" ∧ yX6_length.cls ≠ "java/lang/invoke/VarHandle" ∧ (parseMethodDescriptor yX6_length.desc).map (fun d => d.parameters.length) = some 0 := by decide +kernel
theorem hv_X7_eat : yX7_eat.cls = RX7 ∧ yX7_eat.cls ≠ "java/lang/invoke/MethodHandle" ∧ yX7_eat.cls ≠ "java/lang/invoke/VarHandle" ∧ (parseMethodDescriptor yX7_eat.desc).map (fun d => d.parameters.length) = some 1 := by decide +kernel
theorem hv_X7_eatWord : yX7_eatWord.cls = RX7 ∧ yX7_eatWord.cls ≠ "java/lang/invoke/MethodHandle" ∧ yX7_eatWord.cls ≠ "java/lang/invoke/VarHandle" ∧ (parseMethodDescriptor yX7_eatWord.desc).map (fun d => d.parameters.length) = some 1 := by decide +kernel
theorem hv_X7_fail : yX7_fail.cls = RX7 ∧ yX7_fail.cls ≠ "java/lang/invoke/MethodHandle" ∧ yX7_fail.cls ≠ "java/lang/invoke/VarHandle" ∧ (parseMethodDescriptor yX7_fail.desc).map (fun d => d.parameters.length) = some 1 := by decide +kernel
theorem hv_X7_look : yX7_look.cls = RX7 ∧ yX7_look.cls ≠ "java/lang/invoke/MethodHandle" ∧ yX7_look.cls ≠ "java/lang/invoke/VarHandle" ∧ (parseMethodDescriptor yX7_look.desc).map (fun d => d.parameters.length) = some 0 := by decide +kernel
theorem hv_X7_needEnd : yX7_needEnd.cls = RX7 ∧ yX7_needEnd.cls ≠ "java/lang/invoke/MethodHandle" ∧ yX7_needEnd.cls ≠ "java/lang/invoke/VarHandle" ∧ (parseMethodDescriptor yX7_needEnd.desc).map (fun d => d.parameters.length) = some 0 := by decide +kernel
theorem hv_X7_readEquation : yX7_readEquation.cls = RX7 ∧ yX7_readEquation.cls ≠ "java/lang/invoke/MethodHandle" ∧ yX7_readEquation.cls ≠ "java/lang/invoke/VarHandle" ∧ (parseMethodDescriptor yX7_readEquation.desc).map (fun d => d.parameters.length) = some 1 := by decide +kernel
theorem hv_X7_readPolynomial : yX7_readPolynomial.cls = RX7 ∧ yX7_readPolynomial.cls ≠ "java/lang/invoke/MethodHandle" ∧ yX7_readPolynomial.cls ≠ "java/lang/invoke/VarHandle" ∧ (parseMethodDescriptor yX7_readPolynomial.desc).map (fun d => d.parameters.length) = some 1 := by decide +kernel
theorem hv_X7_readSum : yX7_readSum.cls = RX7 ∧ yX7_readSum.cls ≠ "java/lang/invoke/MethodHandle" ∧ yX7_readSum.cls ≠ "java/lang/invoke/VarHandle" ∧ (parseMethodDescriptor yX7_readSum.desc).map (fun d => d.parameters.length) = some 1 := by decide +kernel
theorem hv_X7_row : yX7_row.cls = RX7 ∧ yX7_row.cls ≠ "java/lang/invoke/MethodHandle" ∧ yX7_row.cls ≠ "java/lang/invoke/VarHandle" ∧ (parseMethodDescriptor yX7_row.desc).map (fun d => d.parameters.length) = some 2 := by decide +kernel
theorem hv_X7_start : yX7_start.cls = RX7 ∧ yX7_start.cls ≠ "java/lang/invoke/MethodHandle" ∧ yX7_start.cls ≠ "java/lang/invoke/VarHandle" ∧ (parseMethodDescriptor yX7_start.desc).map (fun d => d.parameters.length) = some 1 := by decide +kernel
theorem hv_X7_wordLength : yX7_wordLength.cls = RX7 ∧ yX7_wordLength.cls ≠ "java/lang/invoke/MethodHandle" ∧ yX7_wordLength.cls ≠ "java/lang/invoke/VarHandle" ∧ (parseMethodDescriptor yX7_wordLength.desc).map (fun d => d.parameters.length) = some 0 := by decide +kernel
