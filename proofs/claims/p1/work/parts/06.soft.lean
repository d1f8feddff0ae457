def mF (n : Nat) (L : List (Nat × Value)) (fs : List Value) : Prop := fs.length = n ∧ ∀ (i k : Nat) (v : Value), L[i]? = some (k, v) → fs[k]? = some v
theorem mF.get {n : Nat} {L : List (Nat × Value)} {fs : List Value} (h : mF n L fs) (i : Nat) {k : Nat} {v : Value} (hi : L[i]? = some (k, v)) : fs[k]? = some v := h.2 i k v hi
theorem mF.lt {n : Nat} {L : List (Nat × Value)} {fs : List Value} (h : mF n L fs) {k : Nat} (hk : k < n) : k < fs.length := by rw [h.1]; exact hk
theorem mF.pass {n : Nat} {L : List (Nat × Value)} {fs : List Value} (h : mF n L fs) (k : Nat) (v : Value) (_hk : k < n) (hL : (L.map Prod.fst).contains k = false) : mF n L (fs.set k v) := by
  refine ⟨by rw [List.length_set]; exact h.1, fun i j w hi => ?_⟩
  have hne : k ≠ j := by
    intro e
    subst e
    have hm : k ∈ L.map Prod.fst := List.mem_map.mpr ⟨(k, w), List.mem_of_getElem? hi, rfl⟩
    rw [List.contains_eq_mem, decide_eq_false_iff_not] at hL
    exact hL hm
  rw [List.getElem?_set_ne hne]
  exact h.2 i j w hi
theorem mF.put {n : Nat} {L : List (Nat × Value)} {fs : List Value} (h : mF n L fs) (k : Nat) (v : Value) (hk : k < n) (hL : (L.map Prod.fst).contains k = false) : mF n ((k, v) :: L) (fs.set k v) := by
  have h1 := h.pass k v hk hL
  refine ⟨h1.1, fun i j w hi => ?_⟩
  cases i with
  | zero =>
    have e : (k, v) = (j, w) := Option.some.inj hi
    cases e
    exact List.getElem?_set_self (h.lt hk)
  | succ i => exact h1.2 i j w hi
theorem mF.sub {n : Nat} {L L' : List (Nat × Value)} {fs : List Value} (h : mF n L fs) (is : List Nat) (hs : is.filterMap (fun i => L[i]?) = L') : mF n L' fs := by
  refine ⟨h.1, fun i k v hi => ?_⟩
  subst hs
  obtain ⟨a, -, ha⟩ := List.mem_filterMap.mp (List.mem_of_getElem? hi)
  exact h.2 a k v ha
theorem mF.mk {n : Nat} {L : List (Nat × Value)} {fs : List Value} (h1 : fs.length = n) (h2 : L.map (fun p => fs[p.1]?) = L.map (fun p => some p.2)) : mF n L fs := by
  refine ⟨h1, fun i k v hi => ?_⟩
  have e : (L.map (fun p => fs[p.1]?))[i]? = (L.map (fun p => some p.2))[i]? := by rw [h2]
  rw [List.getElem?_map, List.getElem?_map, hi] at e
  exact Option.some.inj e
