/-! ===== phase 2: tokens ===== -/
def WC (w : Nat) : Int64 := nL (bb 256 (kc w) (slen w))
theorem kept_w : ∀ w : Fin 43, ∃ w' : Fin 22, 1 ≤ w'.1 ∧ slen w'.1 = slen w.1 ∧ ∀ i : Fin 8, i.1 < slen w.1 → kc w'.1 i.1 = kc w.1 i.1 := by decide +kernel
theorem wc_lt : ∀ w : Fin 43, bb 256 (kc w.1) (slen w.1) < 2 ^ 63 := by decide +kernel
theorem isKept_l {x : Int64} : X12_isKept x = true ↔ (x = 1802071652 ∨ x = 7168366 ∨ x = 1668444016 ∨ x = 465726042981 ∨ x = 483006772069 ∨ x = 7364985 ∨ x = 448377677669 ∨ x = 1918989413 ∨ x = 6713202 ∨ x = 1651470187 ∨ x = 1735552887 ∨ x = 448546566771 ∨ x = 1685217655 ∨ x = 439855772532 ∨ x = 126879297138276 ∨ x = 499967947364 ∨ x = 2003133803 ∨ x = 1886154612 ∨ x = 28530 ∨ x = 6385252 ∨ x = 7237492) := by
  have y : ∀ c : Int64, X12_isKept c = true → x = c → X12_isKept x = true := fun c h e => by rw [e]; exact h
  constructor
  · intro h
    refine Decidable.byContradiction fun z => ?_
    simp only [not_or] at z
    obtain ⟨z1, z2, z3, z4, z5, z6, z7, z8, z9, z10, z11, z12, z13, z14, z15, z16, z17, z18, z19, z20, z21⟩ := z
    unfold X12_isKept l1_ at h
    simp only [lgz, z1, z2, z3, z4, z5, z6, z7, z8, z9, z10, z11, z12, z13, z14, z15, z16, z17, z18, z19, z20, z21, if_false, Bool.false_eq_true, if_true] at h
  · intro h
    rcases h with h | h | h | h | h | h | h | h | h | h | h | h | h | h | h | h | h | h | h | h | h
    all_goals exact y _ (by decide) h
theorem kept_l : ∀ v : Fin 22, 1 ≤ v.1 → (WC v.1 = 1802071652 ∨ WC v.1 = 7168366 ∨ WC v.1 = 1668444016 ∨ WC v.1 = 465726042981 ∨ WC v.1 = 483006772069 ∨ WC v.1 = 7364985 ∨ WC v.1 = 448377677669 ∨ WC v.1 = 1918989413 ∨ WC v.1 = 6713202 ∨ WC v.1 = 1651470187 ∨ WC v.1 = 1735552887 ∨ WC v.1 = 448546566771 ∨ WC v.1 = 1685217655 ∨ WC v.1 = 439855772532 ∨ WC v.1 = 126879297138276 ∨ WC v.1 = 499967947364 ∨ WC v.1 = 2003133803 ∨ WC v.1 = 1886154612 ∨ WC v.1 = 28530 ∨ WC v.1 = 6385252 ∨ WC v.1 = 7237492) := by decide +kernel
theorem say_L {tx : Nat → Nat} {n p q w : Nat} (hW : WRD tx n p q) (hw : w < 43) : SAY tx p q w ↔ nL (bb 256 (fun i => tx (p + i)) (q - p)) = WC w := by
  rw [say_256 hW hw]
  unfold WC
  have h1 : 2 * bb 256 (fun i => tx (p + i)) (q - p) < 256 ^ (q - p) := bb_256 _ (fun i hi => by have := hW.2.2.2 i hi; omega)
  have h2 : 256 ^ (q - p) ≤ 256 ^ 8 := Nat.pow_le_pow_right (by omega) hW.2.2.1
  have h3 := wc_lt ⟨w, hw⟩
  exact (nL_inj (by omega) h3).symm
theorem isKept_c {tx : Nat → Nat} {n p q : Nat} (hW : WRD tx n p q) : X12_isKept (nL (bb 256 (fun i => tx (p + i)) (q - p))) = true ↔ KEPT tx p q := by
  rw [isKept_l]
  have w1 : (1802071652 : Int64) = WC 1 := by decide +kernel
  have w2 : (7168366 : Int64) = WC 2 := by decide +kernel
  have w3 : (1668444016 : Int64) = WC 3 := by decide +kernel
  have w4 : (465726042981 : Int64) = WC 4 := by decide +kernel
  have w5 : (483006772069 : Int64) = WC 5 := by decide +kernel
  have w6 : (7364985 : Int64) = WC 6 := by decide +kernel
  have w7 : (448377677669 : Int64) = WC 7 := by decide +kernel
  have w8 : (1918989413 : Int64) = WC 8 := by decide +kernel
  have w9 : (6713202 : Int64) = WC 9 := by decide +kernel
  have w10 : (1651470187 : Int64) = WC 10 := by decide +kernel
  have w11 : (1735552887 : Int64) = WC 11 := by decide +kernel
  have w12 : (448546566771 : Int64) = WC 12 := by decide +kernel
  have w13 : (1685217655 : Int64) = WC 13 := by decide +kernel
  have w17 : (439855772532 : Int64) = WC 17 := by decide +kernel
  have w18 : (126879297138276 : Int64) = WC 18 := by decide +kernel
  have w19 : (499967947364 : Int64) = WC 19 := by decide +kernel
  have w20 : (2003133803 : Int64) = WC 20 := by decide +kernel
  have w21 : (1886154612 : Int64) = WC 21 := by decide +kernel
  have w14 : (28530 : Int64) = WC 14 := by decide +kernel
  have w15 : (6385252 : Int64) = WC 15 := by decide +kernel
  have w16 : (7237492 : Int64) = WC 16 := by decide +kernel
  rw [w1, w2, w3, w4, w5, w6, w7, w8, w9, w10, w11, w12, w13, w14, w15, w16, w17, w18, w19, w20, w21]
  constructor
  · intro h
    rcases h with h | h | h | h | h | h | h | h | h | h | h | h | h | h | h | h | h | h | h | h | h
    all_goals exact ⟨_, by omega, by omega, (say_L hW (by omega)).mpr h⟩
  · rintro ⟨w, h1, h2, h3⟩
    have h4 := (say_L hW (show w < 43 by omega)).mp h3
    rcases (by omega : w = 1 ∨ w = 2 ∨ w = 3 ∨ w = 4 ∨ w = 5 ∨ w = 6 ∨ w = 7 ∨ w = 8 ∨ w = 9 ∨ w = 10 ∨ w = 11 ∨ w = 12 ∨ w = 13 ∨ w = 14 ∨ w = 15 ∨ w = 16 ∨ w = 17 ∨ w = 18 ∨ w = 19 ∨ w = 20 ∨ w = 21) with rfl | rfl | rfl | rfl | rfl | rfl | rfl | rfl | rfl | rfl | rfl | rfl | rfl | rfl | rfl | rfl | rfl | rfl | rfl | rfl | rfl
    all_goals simp only [h4, true_or, or_true]
