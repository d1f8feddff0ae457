theorem hd_X13_adds : yX13_adds.cls ≠ "java/lang/invoke/MethodHandle" ∧ yX13_adds.cls ≠ "java/lang/invoke/VarHandle" ∧ (parseMethodDescriptor yX13_adds.desc).map (fun d => d.parameters.length) = some 2 := by decide +kernel
theorem hd_X13_clear : yX13_clear.cls ≠ "java/lang/invoke/MethodHandle" ∧ yX13_clear.cls ≠ "java/lang/invoke/VarHandle" ∧ (parseMethodDescriptor yX13_clear.desc).map (fun d => d.parameters.length) = some 0 := by decide +kernel
theorem hd_X13_of : yX13_of.cls ≠ "java/lang/invoke/MethodHandle" ∧ yX13_of.cls ≠ "java/lang/invoke/VarHandle" ∧ (parseMethodDescriptor yX13_of.desc).map (fun d => d.parameters.length) = some 1 := by decide +kernel
theorem hd_X13_terms : yX13_terms.cls ≠ "java/lang/invoke/MethodHandle" ∧ yX13_terms.cls ≠ "java/lang/invoke/VarHandle" ∧ (parseMethodDescriptor yX13_terms.desc).map (fun d => d.parameters.length) = some 0 := by decide +kernel
theorem hd_X15_copies : yX15_copies.cls ≠ "java/lang/invoke/MethodHandle" ∧ yX15_copies.cls ≠ "java/lang/invoke/VarHandle" ∧ (parseMethodDescriptor yX15_copies.desc).map (fun d => d.parameters.length) = some 2 := by decide +kernel
theorem hd_X15_in : yX15_in.cls ≠ "java/lang/invoke/MethodHandle" ∧ yX15_in.cls ≠ "java/lang/invoke/VarHandle" ∧ (parseMethodDescriptor yX15_in.desc).map (fun d => d.parameters.length) = some 3 := by decide +kernel
theorem hd_X15_isLetter : yX15_isLetter.cls ≠ "java/lang/invoke/MethodHandle" ∧ yX15_isLetter.cls ≠ "java/lang/invoke/VarHandle" ∧ (parseMethodDescriptor yX15_isLetter.desc).map (fun d => d.parameters.length) = some 1 := by decide +kernel
theorem hd_X15_keyOf : yX15_keyOf.cls ≠ "java/lang/invoke/MethodHandle" ∧ yX15_keyOf.cls ≠ "java/lang/invoke/VarHandle" ∧ (parseMethodDescriptor yX15_keyOf.desc).map (fun d => d.parameters.length) = some 3 := by decide +kernel
theorem hd_X15_one : yX15_one.cls ≠ "java/lang/invoke/MethodHandle" ∧ yX15_one.cls ≠ "java/lang/invoke/VarHandle" ∧ (parseMethodDescriptor yX15_one.desc).map (fun d => d.parameters.length) = some 1 := by decide +kernel
def kIn (v lo hi : Int32) : Prop := ¬ v < lo ∧ ¬ hi < v
theorem kIn_0 {v : Int32} (h : kIn v 0 0) : v = 0 := Int32.le_antisymm (Int32.not_lt.mp h.2) (Int32.not_lt.mp h.1)
theorem kWhat_in {v : Int32} : kWhat v ↔ kIn v 0 2 := ⟨fun h => ⟨h.1, Int32.not_lt.mpr h.2⟩, fun h => ⟨h.1, Int32.not_lt.mp h.2⟩⟩
theorem kTape_in {v : Int32} : kTape v ↔ kIn v 0 0 := ⟨fun h => ⟨h.1, Int32.not_lt.mpr h.2⟩, fun h => ⟨h.1, Int32.not_lt.mp h.2⟩⟩
def kKey (x0 : Int32) : Prop := x0 - x0 / 10 * 10 ≤ 4 ∧ x0 / 10 - x0 / 10 / 10 * 10 ≤ 4 ∧ x0 / 10 / 10 - x0 / 10 / 10 / 10 * 10 ≤ 4 ∧ x0 / 10 / 10 / 10 - x0 / 10 / 10 / 10 / 10 * 10 ≤ 4 ∧ x0 / 10 / 10 / 10 / 10 - x0 / 10 / 10 / 10 / 10 / 10 * 10 ≤ 4 ∧ x0 / 10 / 10 / 10 / 10 / 10 - x0 / 10 / 10 / 10 / 10 / 10 / 10 * 10 ≤ 4 ∧ ¬ x0 < 0 ∧ x0 / 10 / 10 / 10 / 10 / 10 / 10 ≤ 0
theorem dig_all {x0 : Int32} (h : ¬ x0 < 0) : ∃ n : Nat, n < 2 ^ 31 ∧ x0 = nI n ∧ x0 / 10 = nI (n / 10) ∧ x0 / 10 / 10 = nI (n / 10 / 10) ∧ x0 / 10 / 10 / 10 = nI (n / 10 / 10 / 10) ∧ x0 / 10 / 10 / 10 / 10 = nI (n / 10 / 10 / 10 / 10) ∧ x0 / 10 / 10 / 10 / 10 / 10 = nI (n / 10 / 10 / 10 / 10 / 10) ∧ x0 / 10 / 10 / 10 / 10 / 10 / 10 = nI (n / 10 / 10 / 10 / 10 / 10 / 10) := by
  obtain ⟨n, hn, rfl⟩ := nI_of h
  have st : ∀ a : Nat, a < 2 ^ 31 → nI a / 10 = nI (a / 10) := fun a ha => pk_div (d := 10) ha (by decide) (by decide)
  have e1 := st n hn
  have e2 := st (n / 10) (by omega)
  have e3 := st (n / 10 / 10) (by omega)
  have e4 := st (n / 10 / 10 / 10) (by omega)
  have e5 := st (n / 10 / 10 / 10 / 10) (by omega)
  have e6 := st (n / 10 / 10 / 10 / 10 / 10) (by omega)
  exact ⟨n, hn, rfl, e1, by rw [e1, e2], by rw [e1, e2, e3], by rw [e1, e2, e3, e4], by rw [e1, e2, e3, e4, e5], by rw [e1, e2, e3, e4, e5, e6]⟩
theorem kDig_key {x0 : Int32} : kDig x0 ↔ kKey x0 := by
  unfold kDig kKey
  simp only [Int32.not_lt]
  constructor
  · rintro ⟨a, b1, b2, b3, b4, b5, b6, b7⟩
    exact ⟨b1, b2, b3, b4, b5, b6, a, by rw [b7]; decide⟩
  · rintro ⟨b1, b2, b3, b4, b5, b6, a, b7⟩
    refine ⟨a, b1, b2, b3, b4, b5, b6, ?_⟩
    obtain ⟨n, hn, -, -, -, -, -, -, e6⟩ := dig_all (Int32.not_lt.mpr a)
    rw [e6] at b7 ⊢
    have h0 : nI (n / 10 / 10 / 10 / 10 / 10 / 10) ≤ nI 0 := b7
    rw [nI_leI (by omega) (by decide)] at h0
    rw [show n / 10 / 10 / 10 / 10 / 10 / 10 = 0 by omega]
    rfl
theorem key_num {k1 k2 k3 k4 k5 k6 : Nat} (h1 : k1 < 10) (h2 : k2 < 10) (h3 : k3 < 10) (h4 : k4 < 10) (h5 : k5 < 10) (h6 : k6 < 10) : ¬ (((((((0 : Int64) + (nI k1).toInt64 * 1073741824) + (nI k2).toInt64 * 16777216) + (nI k3).toInt64 * 262144) + (nI k4).toInt64 * 4096) + (nI k5).toInt64 * 64) + (nI k6).toInt64 * 1) = (-1) := by
  rw [nI_l (by omega), nI_l (by omega), nI_l (by omega), nI_l (by omega), nI_l (by omega), nI_l (by omega)]
  rw [show (1073741824 : Int64) = lN 1073741824 from rfl, show (16777216 : Int64) = lN 16777216 from rfl, show (262144 : Int64) = lN 262144 from rfl, show (4096 : Int64) = lN 4096 from rfl, show (64 : Int64) = lN 64 from rfl, show (1 : Int64) = lN 1 from rfl, show (0 : Int64) = lN 0 from rfl]
  rw [lN_mul, lN_mul, lN_mul, lN_mul, lN_mul, lN_mul, lN_add, lN_add, lN_add, lN_add, lN_add, lN_add]
  intro h
  have h9 := congrArg Int64.toInt h
  rw [pk_lT (by omega)] at h9
  have e : (-1 : Int64).toInt = -1 := by decide
  rw [show (-lN 1 : Int64).toInt = -1 by decide] at h9
  omega
theorem key_ok {x0 : Int32} (h : kKey x0) : ¬ (((((((0 : Int64) + (x0 - x0 / 10 * 10).toInt64 * 1073741824) + (x0 / 10 - x0 / 10 / 10 * 10).toInt64 * 16777216) + (x0 / 10 / 10 - x0 / 10 / 10 / 10 * 10).toInt64 * 262144) + (x0 / 10 / 10 / 10 - x0 / 10 / 10 / 10 / 10 * 10).toInt64 * 4096) + (x0 / 10 / 10 / 10 / 10 - x0 / 10 / 10 / 10 / 10 / 10 * 10).toInt64 * 64) + (x0 / 10 / 10 / 10 / 10 / 10 - x0 / 10 / 10 / 10 / 10 / 10 / 10 * 10).toInt64 * 1) = (-1) ∧ kKey x0 := by
  refine ⟨?_, h⟩
  obtain ⟨-, -, -, -, -, -, a, -⟩ := h
  obtain ⟨n, hn, rfl, e1, e2, e3, e4, e5, e6⟩ := dig_all a
  rw [e6, e5, e4, e3, e2, e1]
  have rm : ∀ a b : Nat, a < 2 ^ 31 → b = a / 10 → nI a - nI b * 10 = nI (a % 10) := fun a b ha hb => by
    subst hb
    have h1 := pk_rem (d := 10) ha (by decide) (by decide)
    have h2 : nI a / nI 10 = nI (a / 10) := pk_div ha (by decide) (by decide)
    rw [h2] at h1
    exact h1
  rw [rm n _ hn rfl, rm (n / 10) _ (by omega) rfl, rm (n / 10 / 10) _ (by omega) rfl, rm (n / 10 / 10 / 10) _ (by omega) rfl, rm (n / 10 / 10 / 10 / 10) _ (by omega) rfl, rm (n / 10 / 10 / 10 / 10 / 10) _ (by omega) rfl]
  exact key_num (by omega) (by omega) (by omega) (by omega) (by omega) (by omega)

