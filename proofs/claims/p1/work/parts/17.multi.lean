section WMU
variable {p : Program} {l : Launch} {e : Env} {R : Room} {s : State} {m : MethodId} {args : Array Value} {below : List Frame} {meth : Method} {c : Code} {T : State} {locs : List Loc} {cells slots : Nat}
/-- the outer array of a grid of three dimensions, filled up to i: a layer takes w cells -/
def wm_out (c : ClassId) (N h0 w : Nat) : Nat → Cell
  | 0 => { cls := c, slots := Array.replicate N .null, vm := .none }
  | i + 1 => (wm_out c N h0 w i).setSlot i (.ref (h0 + 1 + i * w))
def wm_fill (s : State) (c comp cc : ClassId) (N M K : Nat) (dv : Value) : Nat → State
  | 0 => s.pushCell (wm_out c N s.heap.size (1 + M) 0)
  | i + 1 => (Jvm.Free.Multi.fill (wm_fill s c comp cc N M K dv i) comp cc M K dv M).setCell s.heap.size (wm_out c N s.heap.size (1 + M) (i + 1))
theorem wm_out_facts (c : ClassId) (N h0 w : Nat) : ∀ i, (wm_out c N h0 w i).cls = c ∧ (wm_out c N h0 w i).vm = .none ∧ (wm_out c N h0 w i).slots.size = N
  | 0 => ⟨rfl, rfl, by simp [wm_out]⟩
  | i + 1 => by
    obtain ⟨a, b, d⟩ := wm_out_facts c N h0 w i
    exact ⟨by simp [wm_out, Cell.setSlot, a], by simp [wm_out, Cell.setSlot, b], by simp [wm_out, Cell.setSlot, d]⟩
theorem wm_facts (s : State) (c comp cc : ClassId) (N M K : Nat) (dv : Value) : ∀ i, (wm_fill s c comp cc N M K dv i).heap.size = s.heap.size + 1 + i * (1 + M) ∧ (wm_fill s c comp cc N M K dv i).heap[s.heap.size]? = some (wm_out c N s.heap.size (1 + M) i) ∧
    (wm_fill s c comp cc N M K dv i).vm = s.vm ∧ (wm_fill s c comp cc N M K dv i).slotsUsed = s.slotsUsed + N + i * (M + M * K)
  | 0 => ⟨by simp [wm_fill], by simp [wm_fill], rfl, by simp [wm_fill, wm_out]⟩
  | i + 1 => by
    obtain ⟨a, b, d, u⟩ := wm_facts s c comp cc N M K dv i
    obtain ⟨f1, f2, f3, f4⟩ := Jvm.Free.Multi.fill_facts (wm_fill s c comp cc N M K dv i) comp cc M K dv M
    have hlt : s.heap.size < (wm_fill s c comp cc N M K dv i).heap.size := by omega
    have hb' : (Jvm.Free.Multi.fill (wm_fill s c comp cc N M K dv i) comp cc M K dv M).heap[s.heap.size]? = some (wm_out c N s.heap.size (1 + M) i) := by rw [Jvm.Free.Multi.fill_old _ _ _ _ _ _ hlt]; exact b
    refine ⟨?_, State.heap_setCell_self hb', by simp [wm_fill, f3, d], ?_⟩
    · simp only [wm_fill, State.setCell, Array.size_setIfInBounds, f1, a, Nat.succ_mul]; omega
    · show (Jvm.Free.Multi.fill (wm_fill s c comp cc N M K dv i) comp cc M K dv M).slotsUsed = _
      rw [f4, u, Nat.succ_mul]; omega
theorem wm_setTop (s : State) (f : JFrame) (c comp cc : ClassId) (N M K : Nat) (dv : Value) : ∀ i, wm_fill (s.setTop f) c comp cc N M K dv i = (wm_fill s c comp cc N M K dv i).setTop f
  | 0 => rfl
  | i + 1 => by simp only [wm_fill, wm_setTop s f c comp cc N M K dv i, Jvm.Free.Multi.fill_setTop, State.heap_setTop, State.setCell_setTop]
theorem wm_old (s : State) (c comp cc : ClassId) (N M K : Nat) (dv : Value) {a : Addr} (ha : a < s.heap.size) : ∀ i, (wm_fill s c comp cc N M K dv i).heap[a]? = s.heap[a]?
  | 0 => State.heap_pushCell_of_lt _ _ ha
  | i + 1 => by
    have f1 := (wm_facts s c comp cc N M K dv i).1
    have hlt : a < (wm_fill s c comp cc N M K dv i).heap.size := Nat.lt_of_lt_of_le ha (by rw [f1]; omega)
    show ((Jvm.Free.Multi.fill (wm_fill s c comp cc N M K dv i) comp cc M K dv M).setCell s.heap.size _).heap[a]? = _
    rw [State.heap_setCell_other (Nat.ne_of_gt ha), Jvm.Free.Multi.fill_old _ _ _ _ _ _ hlt]
    exact wm_old s c comp cc N M K dv ha i
theorem wm_filled (X : Stand p l e R s m args below meth c T locs cells slots) (cA comp cc : ClassId) (N M K : Nat) (dv : Value) :
    ∀ i, ∃ J : List Loc, (∀ x ∈ J, s.heap.size ≤ x.base) ∧ Stand p l e R s m args below meth c (wm_fill T cA comp cc N M K dv i) (locs ++ J) (cells + 1 + i * (1 + M)) (slots + N + i * (M + M * K))
  | 0 => by
    have h := X.pushed (wm_out cA N T.heap.size (1 + M) 0)
    rw [(wm_out_facts cA N T.heap.size (1 + M) 0).2.2] at h
    exact ⟨[], by simp, by simpa [wm_fill] using h⟩
  | i + 1 => by
    obtain ⟨J, hJ, Xi⟩ := wm_filled X cA comp cc N M K dv i
    obtain ⟨f1, f2, f3, f4⟩ := wm_facts T cA comp cc N M K dv i
    have hlt0 : T.heap.size < (wm_fill T cA comp cc N M K dv i).heap.size := by rw [f1]; omega
    have hcell : (Jvm.Free.Multi.fill (wm_fill T cA comp cc N M K dv i) comp cc M K dv M).heap[T.heap.size]? = some (wm_out cA N T.heap.size (1 + M) i) := by rw [Jvm.Free.Multi.fill_old _ _ _ _ _ _ hlt0]; exact f2
    have h := (Xi.filled comp cc M K dv M).stored hcell i (.ref (T.heap.size + 1 + i * (1 + M)))
    have hg : s.heap.size ≤ T.heap.size := X.heapGrown
    refine ⟨J ++ ((List.range M).map fun j => (⟨(wm_fill T cA comp cc N M K dv i).heap.size, j⟩ : Loc)) ++ [⟨T.heap.size, i⟩], ?_, ?_⟩
    · intro x hx
      rcases List.mem_append.mp hx with hx | hx
      · rcases List.mem_append.mp hx with hx | hx
        · exact hJ x hx
        · obtain ⟨j, -, rfl⟩ := List.mem_map.mp hx
          show s.heap.size ≤ (wm_fill T cA comp cc N M K dv i).heap.size
          omega
      · have := List.mem_singleton.mp hx
        subst this
        exact hg
    · have e3 : slots + N + (i + 1) * (M + M * K) = slots + N + i * (M + M * K) + M + M * K := by rw [Nat.succ_mul]; omega
      have e4 : cells + 1 + (i + 1) * (1 + M) = cells + 1 + i * (1 + M) + 1 + M := by rw [Nat.succ_mul]; omega
      rw [e3, e4]
      simp only [← List.append_assoc]
      exact h
end WMU
section WMP
variable {E : CtlPost} {e : Env} {d : Bool} {acts : List Action} {s : State}
theorem wm_make {c comp cc ct : ClassId} {k kc kd : Class} {t0 t1 type : FieldType} {n m q : Int32} (hk : s.vm.classes[c]? = some k) (hkind : k.kind = .array comp t0) (href : t0.isReference = true)
    (hkc : s.vm.classes[comp]? = some kc) (hkindc : kc.kind = .array cc t1) (href1 : t1.isReference = true) (hkd : s.vm.classes[cc]? = some kd) (hkindd : kd.kind = .array ct type) (hn : ¬ n < 0) (hm : ¬ m < 0) (hq0 : ¬ q < 0)
    (hl1 : ¬ n.toNatClampNeg > e.platform.arrayLengthLimit) (hh1 : ¬ n.toNatClampNeg * componentBytes t0 > e.platform.maxHeapBytes)
    (hl2 : ¬ m.toNatClampNeg > e.platform.arrayLengthLimit) (hh2 : ¬ m.toNatClampNeg * componentBytes t1 > e.platform.maxHeapBytes)
    (hl3 : ¬ q.toNatClampNeg > e.platform.arrayLengthLimit) (hh3 : ¬ q.toNatClampNeg * componentBytes type > e.platform.maxHeapBytes)
    (hdf : fits type (defaultValue type) = true) (hdd : (defaultValue type).isDefault = true)
    (hc : s.heap.size + 1 + n.toNatClampNeg * (1 + m.toNatClampNeg) ≤ e.platform.maxCells) (hs : s.slotsUsed + n.toNatClampNeg + n.toNatClampNeg * (m.toNatClampNeg + m.toNatClampNeg * q.toNatClampNeg) ≤ e.platform.maxSlots)
    {Q : Addr → Pre} (hq : ∀ d' acts', Q s.heap.size d' acts' (wm_fill s c comp cc n.toNatClampNeg m.toNatClampNeg q.toNatClampNeg (defaultValue type) n.toNatClampNeg)) :
    wp (multianewarray.make c [n, m, q]) Q E e d acts s := by
  have hfind : ([m, q].find? (· < 0)) = none := by simp [hm, hq0]
  rw [multianewarray.make]
  simp only [wp_bind', W.ite, hn, if_false, wp_pure', W.theClass, hk, hkind, Option.some.injEq, exists_eq_left']
  refine Jvm.Free.Multi.wp_newArray hk hkind hl1 hh1 (Jvm.Free.Multi.refFits href _ (Or.inl rfl)) rfl (by omega) (by have := Nat.zero_le (n.toNatClampNeg * (m.toNatClampNeg + m.toNatClampNeg * q.toNatClampNeg)); omega) ?_
  simp only [hfind]
  rw [ite_self, wp_bind', Std.Legacy.Range.forIn_eq_forIn_range']
  have hsz : ([:n.toNatClampNeg] : Std.Legacy.Range).size = n.toNatClampNeg := by simp [Std.Legacy.Range.size]
  rw [hsz]
  show wp (forIn (List.range' 0 n.toNatClampNeg 1) PUnit.unit _) _ E e d acts _
  refine wp_forIn_inv (fun rest s' => ∃ i, i ≤ n.toNatClampNeg ∧ rest = List.range' i (n.toNatClampNeg - i) ∧ s' = wm_fill s c comp cc n.toNatClampNeg m.toNatClampNeg q.toNatClampNeg (defaultValue type) i) _ _ ⟨0, Nat.zero_le _, rfl, rfl⟩ ?_ ?_
  · rintro x rest s' d' acts' Q' ⟨i, hi, hl, rfl⟩ hnext
    have hlt : i < n.toNatClampNeg := by
      rcases Nat.lt_or_ge i n.toNatClampNeg with h | h
      · exact h
      · rw [show n.toNatClampNeg - i = 0 from by omega] at hl; simp at hl
    obtain ⟨rfl, hrest⟩ : x = i ∧ rest = List.range' (i + 1) (n.toNatClampNeg - (i + 1)) := by
      rw [show n.toNatClampNeg - i = (n.toNatClampNeg - (i + 1)) + 1 from by omega, List.range'_succ] at hl
      exact ⟨(List.cons.inj hl).1, (List.cons.inj hl).2⟩
    obtain ⟨f1, f2, f3, f4⟩ := wm_facts s c comp cc n.toNatClampNeg m.toNatClampNeg q.toNatClampNeg (defaultValue type) x
    obtain ⟨o1, o2, o3⟩ := wm_out_facts c n.toNatClampNeg s.heap.size (1 + m.toNatClampNeg) x
    obtain ⟨g1, g2, g3, g4⟩ := Jvm.Free.Multi.fill_facts (wm_fill s c comp cc n.toNatClampNeg m.toNatClampNeg q.toNatClampNeg (defaultValue type) x) comp cc m.toNatClampNeg q.toNatClampNeg (defaultValue type) m.toNatClampNeg
    have hmul : x * (1 + m.toNatClampNeg) + (1 + m.toNatClampNeg) ≤ n.toNatClampNeg * (1 + m.toNatClampNeg) := by
      have := Nat.mul_le_mul_right (1 + m.toNatClampNeg) (show x + 1 ≤ n.toNatClampNeg from hlt)
      rw [Nat.succ_mul] at this; exact this
    have hmul2 : x * (m.toNatClampNeg + m.toNatClampNeg * q.toNatClampNeg) + (m.toNatClampNeg + m.toNatClampNeg * q.toNatClampNeg) ≤ n.toNatClampNeg * (m.toNatClampNeg + m.toNatClampNeg * q.toNatClampNeg) := by
      have := Nat.mul_le_mul_right (m.toNatClampNeg + m.toNatClampNeg * q.toNatClampNeg) (show x + 1 ≤ n.toNatClampNeg from hlt)
      rw [Nat.succ_mul] at this; exact this
    simp only [wp_bind']
    refine Jvm.Free.Multi.wp_make2 (t0 := t1) (type := type) (by rw [f3]; exact hkc) hkindc href1 (by rw [f3]; exact hkd) hkindd hm hq0 hl2 hh2 hl3 hh3 hdf hdd (by rw [f1]; omega) (by rw [f4]; omega) (fun d1 acts1 => ?_)
    have hlt0 : s.heap.size < (wm_fill s c comp cc n.toNatClampNeg m.toNatClampNeg q.toNatClampNeg (defaultValue type) x).heap.size := by rw [f1]; omega
    simp only [wp_bind', W.writeLoc, wp_pure']
    refine ⟨wm_out c n.toNatClampNeg s.heap.size (1 + m.toNatClampNeg) x, by rw [Jvm.Free.Multi.fill_old _ _ _ _ _ _ hlt0]; exact f2, by rw [o2]; simp, by rw [o3]; exact hlt, ?_, hnext _ _ _ ⟨x + 1, hlt, hrest, ?_⟩⟩
    · rw [o1, o2]
      simp [State.fitsSlot, State.slotType?, g3, f3, hk, hkind, Jvm.Free.Multi.refFits href _ (Or.inr ⟨_, rfl⟩)]
    · rw [f1]; rfl
  · rintro s' d' acts' ⟨i, hi, hl, rfl⟩
    have hiN : i = n.toNatClampNeg := by
      rcases Nat.lt_or_ge i n.toNatClampNeg with h | h
      · rw [show n.toNatClampNeg - i = (n.toNatClampNeg - (i + 1)) + 1 from by omega, List.range'_succ] at hl; cases hl
      · omega
    subst hiN
    simp only [wp_pure']
    exact hq _ _
end WMP
section WMS
variable {p : Program} {l : Launch} {e : Env} {R : Room} {s : State} {m : MethodId} {args : Array Value} {below : List Frame} {meth : Method} {c : Code} {T : State} {locs : List Loc} {cells slots : Nat}
theorem wm_two (X : Stand p l e R s m args below meth c T locs cells slots) (hexec : p.tables.exec = Jvm.exec) {own nameA : String} {index : Nat} {cA comp cc : ClassId} {kA kC : Class} {t0 type : FieldType}
    (hown : s.vm.findClass own = some m.cls) (hclink : (Cond.classLink own index nameA).before args s = true) (hnameA : s.vm.findClass nameA = some cA)
    (hkA : s.vm.classes[cA]? = some kA) (hkindA : kA.kind = .array comp t0) (href : t0.isReference = true) (hcb : componentBytes t0 = 4) (hkC : s.vm.classes[comp]? = some kC) (hkindC : kC.kind = .array cc type)
    {g : JFrame} (hg : g.method = m) (hdg : decode c.code g.pc = .ok (.multianewarray index 2, 4)) {n k : Int32} {rest : List Value} (hstack : g.stack = .int k :: .int n :: rest)
    (hn : ¬ n < 0) (hk : ¬ k < 0) (hb1 : n.toNatClampNeg * 4 ≤ 536870912) (hb2 : k.toNatClampNeg * componentBytes type ≤ 536870912) (hb3 : k.toNatClampNeg ≤ 536870912)
    (hdf : fits type (defaultValue type) = true) (hdd : (defaultValue type).isDefault = true)
    (hcells : cells + (1 + n.toNatClampNeg) ≤ R.cells) (hslots : slots + (n.toNatClampNeg + n.toNatClampNeg * k.toNatClampNeg) ≤ R.slots) :
    ∃ (vm₁ : Vm), s.WarmedH vm₁ ∧
      Stand p l e R s m args below meth c (Jvm.Free.Multi.fill (T.setVm vm₁) cA comp n.toNatClampNeg k.toNatClampNeg (defaultValue type) n.toNatClampNeg) locs (cells + 1 + n.toNatClampNeg) (slots + n.toNatClampNeg + n.toNatClampNeg * k.toNatClampNeg) ∧
      ∀ target, Steps p.tables e below ((Jvm.Free.Multi.fill (T.setVm vm₁) cA comp n.toNatClampNeg k.toNatClampNeg (defaultValue type) n.toNatClampNeg).setTop { g with pc := g.pc + 4, stack := .ref T.heap.size :: rest }) target →
        Steps p.tables e below (T.setTop g) target := by
  subst hg
  have hpl : e.platform.magicAccessors = ({} : Platform).magicAccessors := by rw [X.admits.platform]
  obtain ⟨c0, hfc0, hcl⟩ := Cond.classLink_spec hown hclink e.platform hpl
  cases hnameA.symm.trans hfc0
  obtain ⟨hg₁, hwarm₁, hready₁⟩ := State.classEntry (e := e) X.warmed hcl
  generalize T.vm.noted g.method.cls index (.cls cA) = vm₁ at hg₁ hwarm₁ hready₁
  have hal : s.vm.Alike vm₁ := hwarm₁.alike
  obtain ⟨kA₁, hkA₁, heA⟩ := hal.2.2 _ _ hkA
  obtain ⟨kC₁, hkC₁, heC⟩ := hal.2.2 _ _ hkC
  have hkindA₁ : kA₁.kind = .array comp t0 := by rw [heA]; exact hkindA
  have hkindC₁ : kC₁.kind = .array cc type := by rw [heC]; exact hkindC
  have X₁ := X.noted hwarm₁
  obtain ⟨hr1, hr2⟩ := X.roomAbove hcells hslots
  have XF := X₁.filled cA comp n.toNatClampNeg k.toNatClampNeg (defaultValue type) n.toNatClampNeg
  refine ⟨vm₁, hwarm₁, XF.dropFresh (fun x hx => ?_), fun target hrest => ?_⟩
  · obtain ⟨j, -, rfl⟩ := List.mem_map.mp hx
    exact X.heapGrown
  have hl1 : ¬ n.toNatClampNeg > e.platform.arrayLengthLimit := by rw [Launch.admits_arrayLengthLimit X.admits]; omega
  have hh1 : ¬ n.toNatClampNeg * componentBytes t0 > e.platform.maxHeapBytes := by
    rw [Launch.admits_maxHeapBytes X.admits, hcb]; omega
  have hl2 : ¬ k.toNatClampNeg > e.platform.arrayLengthLimit := by rw [Launch.admits_arrayLengthLimit X.admits]; omega
  have hh2 : ¬ k.toNatClampNeg * componentBytes type > e.platform.maxHeapBytes := by rw [Launch.admits_maxHeapBytes X.admits]; omega
  jvm_step X.here [hexec, hdg]
  simp only [multianewarray.sem, wp_bind', W.resolveClassAt_links (State.method?_setTop g X.here.top) hg₁]
  rw [W.popN, if_neg (by decide)]
  refine ⟨g, State.topJava?_setTop' (s := T.setVm vm₁) g X.here.top, [.int n, .int k], rest, rfl, hstack, ?_⟩
  simp only [List.mapM_cons, List.mapM_nil, wp_bind', wp_pure']
  refine Jvm.Free.Multi.wp_make2 (k := kA₁) (kc := kC₁) (comp := comp) (cc := cc) (t0 := t0) (type := type) hkA₁ hkindA₁ href hkC₁ hkindC₁ hn hk hl1 hh1 hl2 hh2 hdf hdd (by show T.heap.size + 1 + _ ≤ _; omega) (by show T.slotsUsed + _ + _ ≤ _; omega) (fun d' acts' => ?_)
  have eS : ((T.setTop g).setVm vm₁).setTop { g with stack := rest } = (T.setVm vm₁).setTop { g with stack := rest } := by
    show ((T.setVm vm₁).setTop g).setTop _ = _
    rw [State.setTop_setTop]
  rw [eS, Jvm.Free.Multi.fill_setTop]
  simp only [wp_bind', W.mark, W.pushRef, State.topJava?_setTop' _ XF.here.top, Option.some.injEq, exists_eq_left', State.setTop_setTop, State.heap_setTop]
  intro acts
  simp [jvm, XF.here.top]
  exact hrest
theorem wm_three (X : Stand p l e R s m args below meth c T locs cells slots) (hexec : p.tables.exec = Jvm.exec) {own nameA : String} {index : Nat} {cA comp cc ct : ClassId} {kA kC kD : Class} {t0 t1 type : FieldType}
    (hown : s.vm.findClass own = some m.cls) (hclink : (Cond.classLink own index nameA).before args s = true) (hnameA : s.vm.findClass nameA = some cA)
    (hkA : s.vm.classes[cA]? = some kA) (hkindA : kA.kind = .array comp t0) (href : t0.isReference = true) (hcb : componentBytes t0 = 4) (hkC : s.vm.classes[comp]? = some kC) (hkindC : kC.kind = .array cc t1) (href1 : t1.isReference = true) (hcb1 : componentBytes t1 = 4) (hkD : s.vm.classes[cc]? = some kD) (hkindD : kD.kind = .array ct type)
    {g : JFrame} (hg : g.method = m) (hdg : decode c.code g.pc = .ok (.multianewarray index 3, 4)) {n k q : Int32} {rest : List Value} (hstack : g.stack = .int q :: .int k :: .int n :: rest)
    (hn : ¬ n < 0) (hk : ¬ k < 0) (hq : ¬ q < 0) (hb1 : n.toNatClampNeg * 4 ≤ 536870912) (hb2 : k.toNatClampNeg * 4 ≤ 536870912) (hb3 : q.toNatClampNeg * componentBytes type ≤ 536870912) (hb4 : q.toNatClampNeg ≤ 536870912)
    (hdf : fits type (defaultValue type) = true) (hdd : (defaultValue type).isDefault = true)
    (hcells : cells + (1 + n.toNatClampNeg * (1 + k.toNatClampNeg)) ≤ R.cells) (hslots : slots + (n.toNatClampNeg + n.toNatClampNeg * (k.toNatClampNeg + k.toNatClampNeg * q.toNatClampNeg)) ≤ R.slots) :
    ∃ (vm₁ : Vm), s.WarmedH vm₁ ∧
      Stand p l e R s m args below meth c (wm_fill (T.setVm vm₁) cA comp cc n.toNatClampNeg k.toNatClampNeg q.toNatClampNeg (defaultValue type) n.toNatClampNeg) locs (cells + 1 + n.toNatClampNeg * (1 + k.toNatClampNeg)) (slots + n.toNatClampNeg + n.toNatClampNeg * (k.toNatClampNeg + k.toNatClampNeg * q.toNatClampNeg)) ∧
      ∀ target, Steps p.tables e below ((wm_fill (T.setVm vm₁) cA comp cc n.toNatClampNeg k.toNatClampNeg q.toNatClampNeg (defaultValue type) n.toNatClampNeg).setTop { g with pc := g.pc + 4, stack := .ref T.heap.size :: rest }) target →
        Steps p.tables e below (T.setTop g) target := by
  subst hg
  have hpl : e.platform.magicAccessors = ({} : Platform).magicAccessors := by rw [X.admits.platform]
  obtain ⟨c0, hfc0, hcl⟩ := Cond.classLink_spec hown hclink e.platform hpl
  cases hnameA.symm.trans hfc0
  obtain ⟨hg₁, hwarm₁, hready₁⟩ := State.classEntry (e := e) X.warmed hcl
  generalize T.vm.noted g.method.cls index (.cls cA) = vm₁ at hg₁ hwarm₁ hready₁
  have hal : s.vm.Alike vm₁ := hwarm₁.alike
  obtain ⟨kA₁, hkA₁, heA⟩ := hal.2.2 _ _ hkA
  obtain ⟨kC₁, hkC₁, heC⟩ := hal.2.2 _ _ hkC
  obtain ⟨kD₁, hkD₁, heD⟩ := hal.2.2 _ _ hkD
  have hkindA₁ : kA₁.kind = .array comp t0 := by rw [heA]; exact hkindA
  have hkindC₁ : kC₁.kind = .array cc t1 := by rw [heC]; exact hkindC
  have hkindD₁ : kD₁.kind = .array ct type := by rw [heD]; exact hkindD
  have X₁ := X.noted hwarm₁
  obtain ⟨hr1, hr2⟩ := X.roomAbove hcells hslots
  obtain ⟨J, hJ, XF⟩ := wm_filled X₁ cA comp cc n.toNatClampNeg k.toNatClampNeg q.toNatClampNeg (defaultValue type) n.toNatClampNeg
  refine ⟨vm₁, hwarm₁, XF.dropFresh hJ, fun target hrest => ?_⟩
  have hl1 : ¬ n.toNatClampNeg > e.platform.arrayLengthLimit := by rw [Launch.admits_arrayLengthLimit X.admits]; omega
  have hh1 : ¬ n.toNatClampNeg * componentBytes t0 > e.platform.maxHeapBytes := by
    rw [Launch.admits_maxHeapBytes X.admits, hcb]; omega
  have hl2 : ¬ k.toNatClampNeg > e.platform.arrayLengthLimit := by rw [Launch.admits_arrayLengthLimit X.admits]; omega
  have hh2 : ¬ k.toNatClampNeg * componentBytes t1 > e.platform.maxHeapBytes := by rw [Launch.admits_maxHeapBytes X.admits, hcb1]; omega
  have hl3 : ¬ q.toNatClampNeg > e.platform.arrayLengthLimit := by rw [Launch.admits_arrayLengthLimit X.admits]; omega
  have hh3 : ¬ q.toNatClampNeg * componentBytes type > e.platform.maxHeapBytes := by rw [Launch.admits_maxHeapBytes X.admits]; omega
  jvm_step X.here [hexec, hdg]
  simp only [multianewarray.sem, wp_bind', W.resolveClassAt_links (State.method?_setTop g X.here.top) hg₁]
  rw [W.popN, if_neg (by decide)]
  refine ⟨g, State.topJava?_setTop' (s := T.setVm vm₁) g X.here.top, [.int n, .int k, .int q], rest, rfl, hstack, ?_⟩
  simp only [List.mapM_cons, List.mapM_nil, wp_bind', wp_pure']
  refine wm_make (k := kA₁) (kc := kC₁) (kd := kD₁) (comp := comp) (cc := cc) (ct := ct) (t0 := t0) (t1 := t1) (type := type) hkA₁ hkindA₁ href hkC₁ hkindC₁ href1 hkD₁ hkindD₁ hn hk hq hl1 hh1 hl2 hh2 hl3 hh3 hdf hdd (by show T.heap.size + 1 + _ ≤ _; omega) (by show T.slotsUsed + _ + _ ≤ _; omega) (fun d' acts' => ?_)
  have eS : ((T.setTop g).setVm vm₁).setTop { g with stack := rest } = (T.setVm vm₁).setTop { g with stack := rest } := by
    show ((T.setVm vm₁).setTop g).setTop _ = _
    rw [State.setTop_setTop]
  rw [eS, wm_setTop]
  simp only [wp_bind', W.mark, W.pushRef, State.topJava?_setTop' _ XF.here.top, Option.some.injEq, exists_eq_left', State.setTop_setTop, State.heap_setTop]
  intro acts
  simp [jvm, XF.here.top]
  exact hrest
end WMS
section WMW
variable {p : Program} {l : Launch} {e : Env} {R : Room} {s : State} {m : MethodId} {args : Array Value} {below : List Frame} {meth : Method} {c : Code} {H : Heap} {locs : List Loc} {cells slots : Nat} {Q : State → Prop}
variable {cc : ByteArray} {pc : Nat} {ls : Array Slot} {rest : List Value} {D : va_G} {cl : List vw_C} {A : Nat → Prop} {tys : List (ClassId × FieldType)} {ws : va_W} {H0 : Heap}
/-- new T[n][k], of which nothing but the reference is kept -/
theorem wm_mna2 (hexec : p.tables.exec = Jvm.exec) (hb : c.code = cc) {own nm1 nm2 : String} {index : Nat} {t0 type : FieldType} (hown : s.vm.findClass own = some m.cls) (hclink : (Cond.classLink own index nm2).before args s = true)
    (h1 : wm_A nm1 nm2 t0 s) (h2 : wm_B nm1 type s) (href : t0.isReference = true) (hcb : componentBytes t0 = 4)
    (hP : va_P D cl ws H) (hD : va_D A ws) (hS : va_S A H0 H locs) {n k : Int32} {N' K' : Nat} (hn : ¬ n < 0) (hk : ¬ k < 0) (hN : n.toNatClampNeg = N') (hM : k.toNatClampNeg = K')
    (hb1 : N' * 4 ≤ 536870912) (hb2 : K' * componentBytes type ≤ 536870912) (hb3 : K' ≤ 536870912) (hdf : fits type (defaultValue type) = true) (hdd : (defaultValue type).isDefault = true)
    (hcells : cells + (1 + N') ≤ R.cells) (hslots : slots + (N' + N' * K') ≤ R.slots) (hdg : decode cc pc = .ok (.multianewarray index 2, 4))
    (kk : ∀ (q : Nat) (H1 : Heap), va_P D cl ws H1 → va_D A ws → va_S A H0 H1 locs → W p l e R s m args below meth c H1 locs (cells + 1 + N') (slots + N' + N' * K') Q (F0 m (pc + 4) ls (.ref q :: rest))) :
    W p l e R s m args below meth c H locs cells slots Q (F0 m pc ls (.int k :: .int n :: rest)) := by
  subst hN; subst hM
  obtain ⟨comp, cA, kA, a1, a2, a3, a4⟩ := h1
  obtain ⟨comp2, kC, ct, b4, b2, b3⟩ := h2
  cases Option.some.inj (a1.symm.trans b4)
  intro T hT Xs
  obtain ⟨vm₁, -, X', step⟩ := wm_two Xs hexec hown hclink a4 a2 a3 href hcb b2 b3 (g := F0 m pc ls (.int k :: .int n :: rest)) rfl (by rw [hb]; exact hdg) rfl hn hk hb1 hb2 hb3 hdf hdd hcells hslots
  have hTh : (T.setVm vm₁).heap = H := hT
  have f1 := (Jvm.Free.Multi.fill_facts (T.setVm vm₁) cA comp n.toNatClampNeg k.toNatClampNeg (defaultValue type) n.toNatClampNeg).1
  have hold : ∀ x : Nat, x < H.size → (Jvm.Free.Multi.fill (T.setVm vm₁) cA comp n.toNatClampNeg k.toNatClampNeg (defaultValue type) n.toNatClampNeg).heap[x]? = H[x]? := fun x hx => by
    rw [Jvm.Free.Multi.fill_old (T.setVm vm₁) cA comp n.toNatClampNeg k.toNatClampNeg (defaultValue type) (a := x) (by rw [hTh]; exact hx) n.toNatClampNeg, hTh]
  rw [hTh] at f1
  obtain ⟨t, c1, d1⟩ := kk T.heap.size _ (hP.kept (fun k9 x hx => hold x.1 ((hP k9 x hx).lt))) hD ⟨Nat.le_trans hS.1 (by rw [f1]; omega), fun q h1 h2 => by rw [hold q (Nat.lt_of_lt_of_le h1 hS.1)]; exact hS.2.1 q h1 h2, hS.2.2⟩ _ rfl X'
  exact ⟨t, step t c1, d1⟩
/-- new T[n][k][q], of which nothing but the reference is kept -/
theorem wm_mna3 (hexec : p.tables.exec = Jvm.exec) (hb : c.code = cc) {own nm1 nm2 nm3 : String} {index : Nat} {t0 t1 type : FieldType} (hown : s.vm.findClass own = some m.cls) (hclink : (Cond.classLink own index nm3).before args s = true)
    (h1 : wm_A nm2 nm3 t0 s) (h2 : wm_A nm1 nm2 t1 s) (h3 : wm_B nm1 type s) (href : t0.isReference = true) (hcb : componentBytes t0 = 4) (href1 : t1.isReference = true) (hcb1 : componentBytes t1 = 4)
    (hP : va_P D cl ws H) (hD : va_D A ws) (hS : va_S A H0 H locs) {n k q : Int32} {N' K' M' : Nat} (hn : ¬ n < 0) (hk : ¬ k < 0) (hq : ¬ q < 0) (hN : n.toNatClampNeg = N') (hM : k.toNatClampNeg = K') (hQ : q.toNatClampNeg = M')
    (hb1 : N' * 4 ≤ 536870912) (hb2 : K' * 4 ≤ 536870912) (hb3 : M' * componentBytes type ≤ 536870912) (hb4 : M' ≤ 536870912) (hdf : fits type (defaultValue type) = true) (hdd : (defaultValue type).isDefault = true)
    (hcells : cells + (1 + N' * (1 + K')) ≤ R.cells) (hslots : slots + (N' + N' * (K' + K' * M')) ≤ R.slots) (hdg : decode cc pc = .ok (.multianewarray index 3, 4))
    (kk : ∀ (a : Nat) (H1 : Heap), va_P D cl ws H1 → va_D A ws → va_S A H0 H1 locs → W p l e R s m args below meth c H1 locs (cells + 1 + N' * (1 + K')) (slots + N' + N' * (K' + K' * M')) Q (F0 m (pc + 4) ls (.ref a :: rest))) :
    W p l e R s m args below meth c H locs cells slots Q (F0 m pc ls (.int q :: .int k :: .int n :: rest)) := by
  subst hN; subst hM; subst hQ
  obtain ⟨comp, cA, kA, a1, a2, a3, a4⟩ := h1
  obtain ⟨cd, comp2, kC, b1, b2, b3, b4⟩ := h2
  cases Option.some.inj (a1.symm.trans b4)
  obtain ⟨cd2, kD, ct, g4, g2, g3⟩ := h3
  cases Option.some.inj (b1.symm.trans g4)
  intro T hT Xs
  obtain ⟨vm₁, -, X', step⟩ := wm_three Xs hexec hown hclink a4 a2 a3 href hcb b2 b3 href1 hcb1 g2 g3 (g := F0 m pc ls (.int q :: .int k :: .int n :: rest)) rfl (by rw [hb]; exact hdg) rfl hn hk hq hb1 hb2 hb3 hb4 hdf hdd hcells hslots
  have hTh : (T.setVm vm₁).heap = H := hT
  have f1 := (wm_facts (T.setVm vm₁) cA comp cd n.toNatClampNeg k.toNatClampNeg q.toNatClampNeg (defaultValue type) n.toNatClampNeg).1
  have hold : ∀ x : Nat, x < H.size → (wm_fill (T.setVm vm₁) cA comp cd n.toNatClampNeg k.toNatClampNeg q.toNatClampNeg (defaultValue type) n.toNatClampNeg).heap[x]? = H[x]? := fun x hx => by
    rw [wm_old (T.setVm vm₁) cA comp cd n.toNatClampNeg k.toNatClampNeg q.toNatClampNeg (defaultValue type) (a := x) (by rw [hTh]; exact hx) n.toNatClampNeg, hTh]
  rw [hTh] at f1
  obtain ⟨t, c1, d1⟩ := kk T.heap.size _ (hP.kept (fun k9 x hx => hold x.1 ((hP k9 x hx).lt))) hD ⟨Nat.le_trans hS.1 (by rw [f1]; omega), fun q h1 h2 => by rw [hold q (Nat.lt_of_lt_of_le h1 hS.1)]; exact hS.2.1 q h1 h2, hS.2.2⟩ _ rfl X'
  exact ⟨t, step t c1, d1⟩
end WMW
section WMO
variable {p : Program} {l : Launch} {e : Env} {R : Room} {s : State} {m : MethodId} {args : Array Value} {below : List Frame} {meth : Method} {c : Code} {H : Heap} {locs : List Loc} {cells slots : Nat} {Q : State → Prop}
variable {cc : ByteArray} {pc : Nat} {ls : Array Slot} {rest : List Value} {D : va_G} {cl : List vw_C} {A : Nat → Prop} {a : Nat} {tys : List (ClassId × FieldType)} {ws : va_W} {H0 : Heap}
theorem wm_outer (c : ClassId) (N h0 : Nat) : ∀ i : Nat, Jvm.Free.Multi.outerC c N h0 i = arrV c N (fun j => va_rf (if j < i then some (h0 + 1 + j) else none))
  | 0 => by
    show ({ cls := c, slots := Array.replicate N .null, vm := .none } : Cell) = _
    rw [arrV_new]
    refine congrArg (arrV c N) (funext fun j => ?_)
    simp [va_rf]
  | i + 1 => by
    show (Jvm.Free.Multi.outerC c N h0 i).setSlot i (.ref (h0 + 1 + i)) = _
    rw [wm_outer c N h0 i, arrV_store]
    refine congrArg (arrV c N) (funext fun j => ?_)
    by_cases e : j = i
    · subst e
      simp [updV, va_rf]
    · by_cases h : j < i
      · simp [updV, e, h, Nat.lt_succ_of_lt h]
      · simp [updV, e, h, show ¬ j < i + 1 by omega]
theorem wm_subP {X X' pl : va_W} {H1 : Heap} (h : va_P D cl (X ++ pl) H1) (is : List Nat) (hs : is.filterMap (fun i => X[i]?) = X') : va_P D cl (X' ++ pl) H1 := by
  have hX : va_P D cl X H1 := fun k q hk => h k q (by rw [List.getElem?_append_left (List.getElem?_eq_some_iff.mp hk).1]; exact hk)
  have hp : va_P D cl pl H1 := fun k q hk => h (X.length + k) q (by rw [List.getElem?_append_right (Nat.le_add_right _ _), Nat.add_sub_cancel_left]; exact hk)
  exact (hX.sub is hs).app hp
theorem wm_subD {X X' pl : va_W} {A1 : Nat → Prop} (h : va_D A1 (X ++ pl)) (is : List Nat) (hn : va_nd is = true) (hs : is.map (fun i => X[i]?) = X'.map some) : va_D A1 (X' ++ pl) := by
  have hX : va_D A1 X := ⟨fun i j p q hi hj => h.1 i j p q (by rw [List.getElem?_append_left (List.getElem?_eq_some_iff.mp hi).1]; exact hi) (by rw [List.getElem?_append_left (List.getElem?_eq_some_iff.mp hj).1]; exact hj), fun k q hk => h.2 k q (by rw [List.getElem?_append_left (List.getElem?_eq_some_iff.mp hk).1]; exact hk)⟩
  have hp : va_D A1 pl := ⟨fun i j p q hi hj he => by
      have := h.1 (X.length + i) (X.length + j) p q (by rw [List.getElem?_append_right (Nat.le_add_right _ _), Nat.add_sub_cancel_left]; exact hi) (by rw [List.getElem?_append_right (Nat.le_add_right _ _), Nat.add_sub_cancel_left]; exact hj) he
      omega, fun k q hk => h.2 (X.length + k) q (by rw [List.getElem?_append_right (Nat.le_add_right _ _), Nat.add_sub_cancel_left]; exact hk)⟩
  refine (hX.sub is hn hs).app hp (fun i j p q hi hj he => ?_)
  have h1 : (X'.map some)[i]? = some (some p) := by rw [List.getElem?_map, hi]; rfl
  rw [← hs, List.getElem?_map] at h1
  obtain ⟨k, hk, hk2⟩ := Option.map_eq_some_iff.mp h1
  have hlt := (List.getElem?_eq_some_iff.mp hk2).1
  have := h.1 k (X.length + j) p q (by rw [List.getElem?_append_left hlt]; exact hk2) (by rw [List.getElem?_append_right (Nat.le_add_right _ _), Nat.add_sub_cancel_left]; exact hj) he
  omega
/-- a row out of a grid: the outer array's place i -/
theorem wm_ald (hexec : p.tables.exec = Jvm.exec) (hb : c.code = cc) (hK : va_K D cl tys s) (hP : va_P D cl ws H) (q0 t0 : Nat) {cA : ClassId} {t : FieldType} {n : Nat} {f : Nat → Option Nat} (ha : ws[q0]? = some (a, .inl (cA, n, .inr (.inr (.inr (.inr f)))))) (ht : tys[t0]? = some (cA, .array t)) {i : Int32} (hin : vp_in i n) {y : Nat} (hy : f i.toNatClampNeg = some y) (hdg : decode cc pc = .ok (.aaload, 1))
    (kk : W p l e R s m args below meth c H locs cells slots Q (F0 m (pc + 1) ls (.ref y :: rest))) : W p l e R s m args below meth c H locs cells slots Q (F0 m pc ls (.int i :: .ref a :: rest)) := by
  have hlt : i.toNatClampNeg < n := Nat.not_le.mp fun q => hin (Or.inr q)
  exact W.aald (v := .ref y) (ty := .array t) hexec hb (hP q0 _ ha) ((hK.2 t0 _ ht).1 n (fun j => va_rf (f j))) rfl (fun q => by cases q) (by show ¬ (i < 0 ∨ (arrV _ _ _).slots.size ≤ _); rw [arrV_size]; exact hin) (by show (arrV _ _ _).slots[_]? = _; rw [arrV_read _ _ hlt, hy]; rfl) rfl rfl hdg kk
/-- new C[n][k]: the outer array a place of the world, the inner ones a pool behind it -/
theorem wm_mnaO (hexec : p.tables.exec = Jvm.exec) (hb : c.code = cc) {own C nm1 nm2 : String} {index : Nat} (hnm : "[" ++ (FieldType.object C).toString = nm1) (hname : "[" ++ (FieldType.array (.object C)).toString = nm2) (hown : s.vm.findClass own = some m.cls) (hclink : (Cond.classLink own index nm2).before args s = true)
    (h1 : wm_A nm1 nm2 (.array (.object C)) s) (h2 : va_AO C s)
    (hK : va_K D cl tys s) (hP : va_P D cl ws H) (hD : va_D A ws) (hS : va_S A H0 H locs) (hA : ∀ q, H0.size ≤ q → A q) {n k : Int32} {N' K' : Nat} (hn : ¬ n < 0) (hk : ¬ k < 0) (hN : n.toNatClampNeg = N') (hM : k.toNatClampNeg = K')
    (hb1 : N' * 4 ≤ 536870912) (hb2 : K' * 4 ≤ 536870912) (hcells : cells + (1 + N') ≤ R.cells) (hslots : slots + (N' + N' * K') ≤ R.slots) (hdg : decode cc pc = .ok (.multianewarray index 2, 4))
    (kk : ∀ (q : Nat) (cA cy : ClassId) (H1 : Heap), va_K D cl (tys ++ [(cA, .array (.object C)), (cy, .object C)]) s →
      va_P D cl ((ws ++ [(q, .inl (cA, N', .inr (.inr (.inr (.inr (fun i => if i < N' then some (q + 1 + i) else none))))))]) ++ va_pl ((List.range N').map (fun i => q + 1 + i)) (fun _ => .inl (cy, K', .inr (.inr (.inr (.inr (fun _ => none))))))) H1 →
      va_D A ((ws ++ [(q, .inl (cA, N', .inr (.inr (.inr (.inr (fun i => if i < N' then some (q + 1 + i) else none))))))]) ++ va_pl ((List.range N').map (fun i => q + 1 + i)) (fun _ => .inl (cy, K', .inr (.inr (.inr (.inr (fun _ => none))))))) →
      va_S A H0 H1 locs → W p l e R s m args below meth c H1 locs (cells + 1 + N') (slots + N' + N' * K') Q (F0 m (pc + 4) ls (.ref q :: rest))) :
    W p l e R s m args below meth c H locs cells slots Q (F0 m pc ls (.int k :: .int n :: rest)) := by
  subst hN; subst hM
  obtain ⟨comp, cA, kA, a1, a2, a3, a4⟩ := h1
  obtain ⟨ct, comp2, kC, b1, -, b2, b3, b4⟩ := Cond.arrayOver_spec h2
  rw [hnm] at b4
  cases Option.some.inj (a1.symm.trans b4)
  intro T hT Xs
  obtain ⟨vm₁, -, X', step⟩ := wm_two Xs hexec hown hclink a4 a2 a3 rfl rfl b2 b3 (g := F0 m pc ls (.int k :: .int n :: rest)) rfl (by rw [hb]; exact hdg) rfl hn hk hb1 hb2 (by omega) rfl rfl hcells hslots
  have hTh : (T.setVm vm₁).heap = H := hT
  generalize hF : Jvm.Free.Multi.fill (T.setVm vm₁) cA comp n.toNatClampNeg k.toNatClampNeg (defaultValue (.object C)) n.toNatClampNeg = F at X' step
  obtain ⟨f1, f2, -, -⟩ := Jvm.Free.Multi.fill_facts (T.setVm vm₁) cA comp n.toNatClampNeg k.toNatClampNeg (defaultValue (.object C)) n.toNatClampNeg
  rw [hF, hTh] at f1 f2
  have hold : ∀ x : Nat, x < H.size → F.heap[x]? = H[x]? := fun x hx => by
    have := Jvm.Free.Multi.fill_old (T.setVm vm₁) cA comp n.toNatClampNeg k.toNatClampNeg (defaultValue (.object C)) (a := x) (by rw [hTh]; exact hx) n.toNatClampNeg
    rw [hF, hTh] at this
    exact this
  have hrow : ∀ j : Nat, j < n.toNatClampNeg → F.heap[H.size + 1 + j]? = some (vp_cell comp (k.toNatClampNeg, .inr (.inr (.inr (.inr (fun _ => none)))))) := fun j hj => by
    have := Jvm.Free.Multi.fill_inner (T.setVm vm₁) cA comp n.toNatClampNeg k.toNatClampNeg (defaultValue (.object C)) n.toNatClampNeg j hj
    rw [hF, hTh] at this
    rw [this]
    show some ({ cls := comp, slots := Array.replicate k.toNatClampNeg .null, vm := .none } : Cell) = _
    rw [arrV_new]
    rfl
  rw [wm_outer] at f2
  have hS1 : va_S A H0 F.heap locs := ⟨Nat.le_trans hS.1 (by rw [f1]; omega), fun q h1 h2 => by rw [hold q (Nat.lt_of_lt_of_le h1 hS.1)]; exact hS.2.1 q h1 h2, hS.2.2⟩
  have hge : H0.size ≤ H.size := hS.1
  have hPnew : va_P D cl [(H.size, .inl (cA, n.toNatClampNeg, .inr (.inr (.inr (.inr (fun i => if i < n.toNatClampNeg then some (H.size + 1 + i) else none))))))] F.heap := fun k9 q hq => by
    cases k9 with
    | zero => cases hq; exact f2
    | succ k9 => cases hq
  have hPpl : va_P D cl (va_pl ((List.range n.toNatClampNeg).map (fun i => H.size + 1 + i)) (fun _ => .inl (comp, k.toNatClampNeg, .inr (.inr (.inr (.inr (fun _ => none))))))) F.heap := fun k9 q hq => by
    obtain ⟨b, hbm, rfl⟩ := List.mem_map.mp (List.mem_of_getElem? hq)
    obtain ⟨j, hj, rfl⟩ := List.mem_map.mp hbm
    exact hrow j (List.mem_range.mp hj)
  have hP0 : va_P D cl ws F.heap := hP.kept (fun k9 x hx => hold x.1 ((hP k9 x hx).lt))
  have hDnew : va_D A [(H.size, .inl (cA, n.toNatClampNeg, .inr (.inr (.inr (.inr (fun i => if i < n.toNatClampNeg then some (H.size + 1 + i) else none))))))] := ⟨fun i j p9 q hi hj _ => by
      have h1 := (List.getElem?_eq_some_iff.mp hi).1
      have h2 := (List.getElem?_eq_some_iff.mp hj).1
      simp at h1 h2
      omega, fun k9 q hq => by
      have := List.mem_singleton.mp (List.mem_of_getElem? hq)
      subst this
      exact hA _ hge⟩
  have hDpl : va_D A (va_pl ((List.range n.toNatClampNeg).map (fun i => H.size + 1 + i)) (fun _ => (.inl (comp, k.toNatClampNeg, .inr (.inr (.inr (.inr (fun _ => none))))) : va_E))) := ⟨fun i j p9 q hi hj he => by
      simp only [va_pl, List.getElem?_map] at hi hj
      obtain ⟨x, hx, rfl⟩ := Option.map_eq_some_iff.mp hi
      obtain ⟨y, hy, rfl⟩ := Option.map_eq_some_iff.mp hj
      obtain ⟨x2, hx2, rfl⟩ := Option.map_eq_some_iff.mp hx
      obtain ⟨y2, hy2, rfl⟩ := Option.map_eq_some_iff.mp hy
      obtain ⟨hx3, hx4⟩ := List.getElem?_eq_some_iff.mp hx2
      obtain ⟨hy3, hy4⟩ := List.getElem?_eq_some_iff.mp hy2
      rw [List.getElem_range] at hx4 hy4
      have : H.size + 1 + x2 = H.size + 1 + y2 := he
      omega, fun k9 q hq => by
      obtain ⟨b, hbm, rfl⟩ := List.mem_map.mp (List.mem_of_getElem? hq)
      obtain ⟨j, hj, rfl⟩ := List.mem_map.mp hbm
      exact hA _ (by show H0.size ≤ H.size + 1 + j; omega)⟩
  have hlt : ∀ (i : Nat) (q : Nat × va_E), ws[i]? = some q → q.1 < H.size := fun i q hq => (hP i q hq).lt
  have hD1 : va_D A (ws ++ [(H.size, .inl (cA, n.toNatClampNeg, .inr (.inr (.inr (.inr (fun i => if i < n.toNatClampNeg then some (H.size + 1 + i) else none))))))]) := hD.app hDnew (fun i j p9 q hi hj he => by
    have h1 := hlt i p9 hi
    have := List.mem_singleton.mp (List.mem_of_getElem? hj)
    subst this
    have : p9.1 = H.size := he
    omega)
  have hD2 := hD1.app hDpl (fun i j p9 q hi hj he => by
    have h1 : p9.1 ≤ H.size := by
      rcases List.mem_append.mp (List.mem_of_getElem? hi) with h | h
      · obtain ⟨i9, h9⟩ := List.getElem?_of_mem h
        exact Nat.le_of_lt (hlt i9 p9 h9)
      · have := List.mem_singleton.mp h
        subst this
        exact Nat.le_refl _
    obtain ⟨b, hbm, rfl⟩ := List.mem_map.mp (List.mem_of_getElem? hj)
    obtain ⟨j2, hj2, rfl⟩ := List.mem_map.mp hbm
    have : p9.1 = H.size + 1 + j2 := he
    omega)
  have hKn : va_K D cl (tys ++ [(cA, .array (.object C)), (comp, .object C)]) s := hK.app ⟨hK.1, fun k9 q hq => by
    match k9, hq with
    | 0, hq =>
      cases hq
      exact ⟨fun n9 z => ⟨fun x => by simp [arrV], kA, a2, comp, a3⟩, by show s.vm.findClass ("[" ++ _) = some cA; rw [hname]; exact a4⟩
    | 1, hq =>
      cases hq
      exact ⟨fun n9 z => ⟨fun x => by simp [arrV], kC, b2, ct, b3⟩, kC, ct, b2, b3, b1, by rw [hnm]; exact b4⟩
    | k9 + 2, hq => simp at hq⟩
  obtain ⟨t, c1, d1⟩ := kk H.size cA comp F.heap hKn ((hP0.app hPnew).app hPpl) hD2 hS1 F rfl X'
  refine ⟨t, step t ?_, d1⟩
  rw [hT]
  exact c1
/-- an object into a row of the pool -/
theorem wm_ast {X : va_W} {L : List Nat} {f : Nat → va_E} (hexec : p.tables.exec = Jvm.exec) (hb : c.code = cc) (hK : va_K D cl tys s) (hP : va_P D cl (X ++ va_pl L f) H) (hD : va_D A (X ++ va_pl L f)) (hS : va_S A H0 H locs) (t0 qk ci : Nat) {cA : ClassId} {r : vw_C} {n v : Nat} {vs : List Value} (hmem : a ∈ L)
    (hf : ∀ b ∈ L, ∃ g : Nat → Option Nat, f b = .inl (cA, n, .inr (.inr (.inr (.inr g))))) (ht : tys[t0]? = some (cA, .object r.1)) (hv : X[qk]? = some (v, .inr (ci, vs))) (hc : cl[ci]? = some r) {i : Int32} (hin : vp_in i n) (hdg : decode cc pc = .ok (.aastore, 1))
    (kk : ∀ (f1 : Nat → va_E) (H1 : Heap) (locs1 : List Loc), (∀ b ∈ L, ∃ g : Nat → Option Nat, f1 b = .inl (cA, n, .inr (.inr (.inr (.inr g))))) → va_P D cl (X ++ va_pl L f1) H1 → va_D A (X ++ va_pl L f1) → va_S A H0 H1 locs1 → W p l e R s m args below meth c H1 locs1 cells slots Q (F0 m (pc + 1) ls rest)) : W p l e R s m args below meth c H locs cells slots Q (F0 m pc ls (.ref v :: .int i :: .ref a :: rest)) := by
  obtain ⟨k, hk⟩ := va_pl_get (X := X) (f := f) hmem
  obtain ⟨g, hg⟩ := hf a hmem
  have hset := fun e : va_E => va_pl_set (e := e) hD hmem hk
  rw [hg] at hk
  refine va_astq hexec hb hK hP hD hS k t0 qk ci hk ht (by rw [List.getElem?_append_left (List.getElem?_eq_some_iff.mp hv).1]; exact hv) hc hin hdg (fun H1 locs1 h1 h2 h3 => ?_)
  rw [hset] at h1 h2
  refine kk _ H1 locs1 (fun b hb9 => ?_) h1 h2 h3
  by_cases e : b = a
  · subst e
    exact ⟨_, va_up_self _ _ _⟩
  · obtain ⟨g2, hg2⟩ := hf b hb9
    exact ⟨g2, by rw [va_up_ne _ _ e]; exact hg2⟩
end WMO
theorem wm_layP {X pl a b : va_W} {D : va_G} {cl : List vw_C} {H : Heap} (h : va_P D cl (((X ++ pl) ++ a) ++ b) H) : va_P D cl ((X ++ (a ++ b)) ++ pl) H := by
  rw [List.append_assoc (X ++ pl)] at h
  exact va_P.swap h
theorem wm_layD {X pl a b : va_W} {A : Nat → Prop} (h : va_D A (((X ++ pl) ++ a) ++ b)) : va_D A ((X ++ (a ++ b)) ++ pl) := by
  rw [List.append_assoc (X ++ pl)] at h
  exact va_D.swap h
