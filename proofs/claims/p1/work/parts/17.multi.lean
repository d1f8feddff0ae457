section WMU
variable {p : Program} {l : Launch} {e : Env} {R : Room} {s : State} {m : MethodId} {args : Array Value} {below : List Frame} {meth : Method} {c : Code} {T : State} {locs : List Loc} {cells slots : Nat}
/-- the outer array of a grid of three dimensions, filled up to i: a layer takes w cells -/
def wm_out (c : ClassId) (N h0 w : Nat) : Nat → Cell
  | 0 => { cls := c, slots := Array.replicate N .null, vm := .none }
  | i + 1 => (wm_out c N h0 w i).setSlot i (.ref (h0 + 1 + i * w))
def wm_fill (s : State) (c comp cc : ClassId) (N M K : Nat) (dv : Value) : Nat → State
  | 0 => s.pushCell (wm_out c N s.heap.size (1 + M) 0)
  | i + 1 => (Jvm.Free.Multi.fill (wm_fill s c comp cc N M K dv i) comp cc M K dv M).setCell s.heap.size (wm_out c N s.heap.size (1 + M) (i + 1))
theorem wm_out_facts (c : ClassId) (N h0 w : Nat) : ∀ i, (wm_out c N h0 w i).cls = c ∧ (wm_out c N h0 w i).vm = .none ∧ (wm_out c N h0 w i).slots.size = N
  | 0 => ⟨rfl, rfl, by simp [wm_out]⟩
  | i + 1 => by
    obtain ⟨a, b, d⟩ := wm_out_facts c N h0 w i
    exact ⟨by simp [wm_out, Cell.setSlot, a], by simp [wm_out, Cell.setSlot, b], by simp [wm_out, Cell.setSlot, d]⟩
theorem wm_facts (s : State) (c comp cc : ClassId) (N M K : Nat) (dv : Value) : ∀ i, (wm_fill s c comp cc N M K dv i).heap.size = s.heap.size + 1 + i * (1 + M) ∧ (wm_fill s c comp cc N M K dv i).heap[s.heap.size]? = some (wm_out c N s.heap.size (1 + M) i) ∧
    (wm_fill s c comp cc N M K dv i).vm = s.vm ∧ (wm_fill s c comp cc N M K dv i).slotsUsed = s.slotsUsed + N + i * (M + M * K)
  | 0 => ⟨by simp [wm_fill], by simp [wm_fill], rfl, by simp [wm_fill, wm_out]⟩
  | i + 1 => by
    obtain ⟨a, b, d, u⟩ := wm_facts s c comp cc N M K dv i
    obtain ⟨f1, f2, f3, f4⟩ := Jvm.Free.Multi.fill_facts (wm_fill s c comp cc N M K dv i) comp cc M K dv M
    have hlt : s.heap.size < (wm_fill s c comp cc N M K dv i).heap.size := by omega
    have hb' : (Jvm.Free.Multi.fill (wm_fill s c comp cc N M K dv i) comp cc M K dv M).heap[s.heap.size]? = some (wm_out c N s.heap.size (1 + M) i) := by rw [Jvm.Free.Multi.fill_old _ _ _ _ _ _ hlt]; exact b
    refine ⟨?_, State.heap_setCell_self hb', by simp [wm_fill, f3, d], ?_⟩
    · simp only [wm_fill, State.setCell, Array.size_setIfInBounds, f1, a, Nat.succ_mul]; omega
    · show (Jvm.Free.Multi.fill (wm_fill s c comp cc N M K dv i) comp cc M K dv M).slotsUsed = _
      rw [f4, u, Nat.succ_mul]; omega
theorem wm_setTop (s : State) (f : JFrame) (c comp cc : ClassId) (N M K : Nat) (dv : Value) : ∀ i, wm_fill (s.setTop f) c comp cc N M K dv i = (wm_fill s c comp cc N M K dv i).setTop f
  | 0 => rfl
  | i + 1 => by simp only [wm_fill, wm_setTop s f c comp cc N M K dv i, Jvm.Free.Multi.fill_setTop, State.heap_setTop, State.setCell_setTop]
theorem wm_old (s : State) (c comp cc : ClassId) (N M K : Nat) (dv : Value) {a : Addr} (ha : a < s.heap.size) : ∀ i, (wm_fill s c comp cc N M K dv i).heap[a]? = s.heap[a]?
  | 0 => State.heap_pushCell_of_lt _ _ ha
  | i + 1 => by
    have f1 := (wm_facts s c comp cc N M K dv i).1
    have hlt : a < (wm_fill s c comp cc N M K dv i).heap.size := Nat.lt_of_lt_of_le ha (by rw [f1]; omega)
    show ((Jvm.Free.Multi.fill (wm_fill s c comp cc N M K dv i) comp cc M K dv M).setCell s.heap.size _).heap[a]? = _
    rw [State.heap_setCell_other (Nat.ne_of_gt ha), Jvm.Free.Multi.fill_old _ _ _ _ _ _ hlt]
    exact wm_old s c comp cc N M K dv ha i
theorem wm_filled (X : Stand p l e R s m args below meth c T locs cells slots) (cA comp cc : ClassId) (N M K : Nat) (dv : Value) :
    ∀ i, ∃ J : List Loc, (∀ x ∈ J, s.heap.size ≤ x.base) ∧ Stand p l e R s m args below meth c (wm_fill T cA comp cc N M K dv i) (locs ++ J) (cells + 1 + i * (1 + M)) (slots + N + i * (M + M * K))
  | 0 => by
    have h := X.pushed (wm_out cA N T.heap.size (1 + M) 0)
    rw [(wm_out_facts cA N T.heap.size (1 + M) 0).2.2] at h
    exact ⟨[], by simp, by simpa [wm_fill] using h⟩
  | i + 1 => by
    obtain ⟨J, hJ, Xi⟩ := wm_filled X cA comp cc N M K dv i
    obtain ⟨f1, f2, f3, f4⟩ := wm_facts T cA comp cc N M K dv i
    have hlt0 : T.heap.size < (wm_fill T cA comp cc N M K dv i).heap.size := by rw [f1]; omega
    have hcell : (Jvm.Free.Multi.fill (wm_fill T cA comp cc N M K dv i) comp cc M K dv M).heap[T.heap.size]? = some (wm_out cA N T.heap.size (1 + M) i) := by rw [Jvm.Free.Multi.fill_old _ _ _ _ _ _ hlt0]; exact f2
    have h := (Xi.filled comp cc M K dv M).stored hcell i (.ref (T.heap.size + 1 + i * (1 + M)))
    have hg : s.heap.size ≤ T.heap.size := X.heapGrown
    refine ⟨J ++ ((List.range M).map fun j => (⟨(wm_fill T cA comp cc N M K dv i).heap.size, j⟩ : Loc)) ++ [⟨T.heap.size, i⟩], ?_, ?_⟩
    · intro x hx
      rcases List.mem_append.mp hx with hx | hx
      · rcases List.mem_append.mp hx with hx | hx
        · exact hJ x hx
        · obtain ⟨j, -, rfl⟩ := List.mem_map.mp hx
          show s.heap.size ≤ (wm_fill T cA comp cc N M K dv i).heap.size
          omega
      · have := List.mem_singleton.mp hx
        subst this
        exact hg
    · have e3 : slots + N + (i + 1) * (M + M * K) = slots + N + i * (M + M * K) + M + M * K := by rw [Nat.succ_mul]; omega
      have e4 : cells + 1 + (i + 1) * (1 + M) = cells + 1 + i * (1 + M) + 1 + M := by rw [Nat.succ_mul]; omega
      rw [e3, e4]
      simpa [List.append_assoc] using h
end WMU
section WMP
variable {E : CtlPost} {e : Env} {d : Bool} {acts : List Action} {s : State}
theorem wm_make {c comp cc ct : ClassId} {k kc kd : Class} {t0 t1 type : FieldType} {n m q : Int32} (hk : s.vm.classes[c]? = some k) (hkind : k.kind = .array comp t0) (href : t0.isReference = true)
    (hkc : s.vm.classes[comp]? = some kc) (hkindc : kc.kind = .array cc t1) (href1 : t1.isReference = true) (hkd : s.vm.classes[cc]? = some kd) (hkindd : kd.kind = .array ct type) (hn : ¬ n < 0) (hm : ¬ m < 0) (hq0 : ¬ q < 0)
    (hl1 : ¬ n.toNatClampNeg > e.platform.arrayLengthLimit) (hh1 : ¬ n.toNatClampNeg * componentBytes t0 > e.platform.maxHeapBytes)
    (hl2 : ¬ m.toNatClampNeg > e.platform.arrayLengthLimit) (hh2 : ¬ m.toNatClampNeg * componentBytes t1 > e.platform.maxHeapBytes)
    (hl3 : ¬ q.toNatClampNeg > e.platform.arrayLengthLimit) (hh3 : ¬ q.toNatClampNeg * componentBytes type > e.platform.maxHeapBytes)
    (hdf : fits type (defaultValue type) = true) (hdd : (defaultValue type).isDefault = true)
    (hc : s.heap.size + 1 + n.toNatClampNeg * (1 + m.toNatClampNeg) ≤ e.platform.maxCells) (hs : s.slotsUsed + n.toNatClampNeg + n.toNatClampNeg * (m.toNatClampNeg + m.toNatClampNeg * q.toNatClampNeg) ≤ e.platform.maxSlots)
    {Q : Addr → Pre} (hq : ∀ d' acts', Q s.heap.size d' acts' (wm_fill s c comp cc n.toNatClampNeg m.toNatClampNeg q.toNatClampNeg (defaultValue type) n.toNatClampNeg)) :
    wp (multianewarray.make c [n, m, q]) Q E e d acts s := by
  have hfind : ([m, q].find? (· < 0)) = none := by simp [hm, hq0]
  rw [multianewarray.make]
  simp only [wp_bind', W.ite, hn, if_false, wp_pure', W.theClass, hk, hkind, Option.some.injEq, exists_eq_left']
  refine Jvm.Free.Multi.wp_newArray hk hkind hl1 hh1 (Jvm.Free.Multi.refFits href _ (Or.inl rfl)) rfl (by omega) (by have := Nat.zero_le (n.toNatClampNeg * (m.toNatClampNeg + m.toNatClampNeg * q.toNatClampNeg)); omega) ?_
  simp only [hfind]
  rw [ite_self, wp_bind', Std.Legacy.Range.forIn_eq_forIn_range']
  have hsz : ([:n.toNatClampNeg] : Std.Legacy.Range).size = n.toNatClampNeg := by simp [Std.Legacy.Range.size]
  rw [hsz]
  show wp (forIn (List.range' 0 n.toNatClampNeg 1) PUnit.unit _) _ E e d acts _
  refine wp_forIn_inv (fun rest s' => ∃ i, i ≤ n.toNatClampNeg ∧ rest = List.range' i (n.toNatClampNeg - i) ∧ s' = wm_fill s c comp cc n.toNatClampNeg m.toNatClampNeg q.toNatClampNeg (defaultValue type) i) _ _ ⟨0, Nat.zero_le _, rfl, rfl⟩ ?_ ?_
  · rintro x rest s' d' acts' Q' ⟨i, hi, hl, rfl⟩ hnext
    have hlt : i < n.toNatClampNeg := by
      rcases Nat.lt_or_ge i n.toNatClampNeg with h | h
      · exact h
      · rw [show n.toNatClampNeg - i = 0 from by omega] at hl; simp at hl
    obtain ⟨rfl, hrest⟩ : x = i ∧ rest = List.range' (i + 1) (n.toNatClampNeg - (i + 1)) := by
      rw [show n.toNatClampNeg - i = (n.toNatClampNeg - (i + 1)) + 1 from by omega, List.range'_succ] at hl
      exact ⟨(List.cons.inj hl).1, (List.cons.inj hl).2⟩
    obtain ⟨f1, f2, f3, f4⟩ := wm_facts s c comp cc n.toNatClampNeg m.toNatClampNeg q.toNatClampNeg (defaultValue type) x
    obtain ⟨o1, o2, o3⟩ := wm_out_facts c n.toNatClampNeg s.heap.size (1 + m.toNatClampNeg) x
    obtain ⟨g1, g2, g3, g4⟩ := Jvm.Free.Multi.fill_facts (wm_fill s c comp cc n.toNatClampNeg m.toNatClampNeg q.toNatClampNeg (defaultValue type) x) comp cc m.toNatClampNeg q.toNatClampNeg (defaultValue type) m.toNatClampNeg
    have hmul : x * (1 + m.toNatClampNeg) + (1 + m.toNatClampNeg) ≤ n.toNatClampNeg * (1 + m.toNatClampNeg) := by
      have := Nat.mul_le_mul_right (1 + m.toNatClampNeg) (show x + 1 ≤ n.toNatClampNeg from hlt)
      rw [Nat.succ_mul] at this; exact this
    have hmul2 : x * (m.toNatClampNeg + m.toNatClampNeg * q.toNatClampNeg) + (m.toNatClampNeg + m.toNatClampNeg * q.toNatClampNeg) ≤ n.toNatClampNeg * (m.toNatClampNeg + m.toNatClampNeg * q.toNatClampNeg) := by
      have := Nat.mul_le_mul_right (m.toNatClampNeg + m.toNatClampNeg * q.toNatClampNeg) (show x + 1 ≤ n.toNatClampNeg from hlt)
      rw [Nat.succ_mul] at this; exact this
    simp only [wp_bind']
    refine Jvm.Free.Multi.wp_make2 (t0 := t1) (type := type) (by rw [f3]; exact hkc) hkindc href1 (by rw [f3]; exact hkd) hkindd hm hq0 hl2 hh2 hl3 hh3 hdf hdd (by rw [f1]; omega) (by rw [f4]; omega) (fun d1 acts1 => ?_)
    have hlt0 : s.heap.size < (wm_fill s c comp cc n.toNatClampNeg m.toNatClampNeg q.toNatClampNeg (defaultValue type) x).heap.size := by rw [f1]; omega
    simp only [wp_bind', W.writeLoc, wp_pure']
    refine ⟨wm_out c n.toNatClampNeg s.heap.size (1 + m.toNatClampNeg) x, by rw [Jvm.Free.Multi.fill_old _ _ _ _ _ _ hlt0]; exact f2, by rw [o2]; simp, by rw [o3]; exact hlt, ?_, hnext _ _ _ ⟨x + 1, hlt, hrest, ?_⟩⟩
    · rw [o1, o2]
      simp [State.fitsSlot, State.slotType?, g3, f3, hk, hkind, Jvm.Free.Multi.refFits href _ (Or.inr ⟨_, rfl⟩)]
    · rw [f1]; rfl
  · rintro s' d' acts' ⟨i, hi, hl, rfl⟩
    have hiN : i = n.toNatClampNeg := by
      rcases Nat.lt_or_ge i n.toNatClampNeg with h | h
      · rw [show n.toNatClampNeg - i = (n.toNatClampNeg - (i + 1)) + 1 from by omega, List.range'_succ] at hl; cases hl
      · omega
    subst hiN
    simp only [wp_pure']
    exact hq _ _
end WMP
