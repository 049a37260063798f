/-! ===== phase 2: the hedge line ===== -/
theorem RM.hedge {X X' V V' : Nat → Nat → Int32} {b mn kd bn hr k m : Nat} (h : RM X 4 V b mn kd bn hr) (hx : ∀ a i, 4 ≤ a → a ≤ 14 → ¬ ((a = 7 ∧ i = m)) → X' a i = X a i) (hv : ∀ a i, 3 ≤ a → a ≤ 29 → ¬ ((a = 13 ∧ i = 5 * b + m) ∨ a = 11 ∨ a = 16 ∨ a = 17 ∨ a = 24 ∨ a = 25) → V' a i = V a i) (hm : m < mn) (e1 : X' 7 m = nI k) (e2 : V' 13 (5 * b + m) = nI k) : RM X' 4 V' b mn kd bn hr := by
  obtain ⟨⟨h1, h2, h3, h4, h5⟩, ⟨m1, m2, m3, m4, m5, m6, m7, m8, m9⟩, d, k1, ⟨mask, q1, q2, q3⟩, hd, r1, r2, r3, r4, r5, u, len, F, D, f1, f2, f3, f4, f5, f6, f8, f9, f10⟩ := h
  refine ⟨⟨h1, h2, h3, h4, h5⟩, ⟨(hx 4 0 (by omega) (by omega) (by omega)).trans m1, (hv 4 b (by omega) (by omega) (by omega)).trans m2, (hx 4 1 (by omega) (by omega) (by omega)).trans m3, (hv 3 b (by omega) (by omega) (by omega)).trans m4, (hx 4 2 (by omega) (by omega) (by omega)).trans m5, (hv 5 b (by omega) (by omega) (by omega)).trans m6, ((hx 4 3 (by omega) (by omega) (by omega)).trans m7).trans (hv 6 b (by omega) (by omega) (by omega)).symm, (hx 4 4 (by omega) (by omega) (by omega)).trans m8, (hv 8 b (by omega) (by omega) (by omega)).trans m9⟩, by rw [hx 4 5 (by omega) (by omega) (by omega), hv 9 b (by omega) (by omega) (by omega)]; exact d, fun i hi => by rw [hx (4 + 1) i (by omega) (by omega) (by omega), hv 12 _ (by omega) (by omega) (by omega)]; exact k1 i hi, ⟨mask, q1, (hv 10 b (by omega) (by omega) (by omega)).trans q2, fun i hi => (hx (4 + 2) i (by omega) (by omega) (by omega)).trans (q3 i hi)⟩, fun i hi => by
    by_cases z : i = m
    · rw [z]; exact e1.trans e2.symm
    · rw [hx (4 + 3) i (by omega) (by omega) (by omega), hv 13 _ (by omega) (by omega) (by omega)]; exact hd i hi, fun i k hi hk => by rw [hx (4 + 4) _ (by omega) (by omega) (by omega), hv 14 _ (by omega) (by omega) (by omega)]; exact r1 i k hi hk, fun j h1 h2 => (hx (4 + 4) j (by omega) (by omega) (by omega)).trans (r2 j h1 h2), fun i k hi hk => by rw [hx (4 + 5) _ (by omega) (by omega) (by omega), hv 15 _ (by omega) (by omega) (by omega)]; exact r3 i k hi hk, fun r hr => by rw [hx (4 + 6) r (by omega) (by omega) (by omega), hx (4 + 7) r (by omega) (by omega) (by omega), hv 18 _ (by omega) (by omega) (by omega), hv 19 _ (by omega) (by omega) (by omega)]; exact r4 r hr, fun i hi => by rw [hx (4 + 8) i (by omega) (by omega) (by omega), hv 20 _ (by omega) (by omega) (by omega)]; exact r5 i hi, u, len, F, D, f1, (hx (4 + 9) 3 (by omega) (by omega) (by omega)).trans f2, (hv 7 b (by omega) (by omega) (by omega)).trans f3, (hx (4 + 9) 2 (by omega) (by omega) (by omega)).trans f4, f5, f6, f8, by rw [hv 23 b (by omega) (by omega) (by omega), hv 21 b (by omega) (by omega) (by omega), hv 22 b (by omega) (by omega) (by omega)]; exact f9, fun i hi => by rw [hx (4 + 9 + 1) i (by omega) (by omega) (by omega), hv 28 _ (by omega) (by omega) (by omega), hv 29 _ (by omega) (by omega) (by omega)]; exact f10 i hi⟩
theorem sbit_fin : ∀ (m : Fin 32) (i : Fin 5), (((nI m.1 >>> (nI i.1 &&& 31)) &&& 1) = 1 ↔ m.1 / 2 ^ i.1 % 2 = 1) := by decide +kernel
theorem sbit_c {m i : Nat} (hm : m < 32) (hi : i < 5) : ((nI m >>> (nI i &&& 31)) &&& 1) = 1 ↔ m / 2 ^ i % 2 = 1 := sbit_fin ⟨m, hm⟩ ⟨i, hi⟩
/-- one more mark -/
theorem MK.put {X X' : Nat → Int32} {v : Int32} {len top i : Nat} (h : MK X v len top) (hi : i < len) (hl : len ≤ 5) (ht : top = 2 ^ len) (h1 : ∀ k, k < len → X' k = if k = i then 1 else X k) : MK X' (v ||| ((1 : Int32) <<< (nI i &&& 31))) len top := by
  obtain ⟨m, m1, rfl, m3⟩ := h
  have hm : m < 32 := by
    have : 2 ^ len ≤ 2 ^ 5 := Nat.pow_le_pow_right (by omega) hl
    omega
  obtain ⟨o1, o2, o3⟩ := omask_fin ⟨m, hm⟩ ⟨i, by omega⟩
  refine ⟨m ||| 2 ^ i, ?_, o1, fun k hk => ?_⟩
  · rw [ht] at m1 ⊢
    exact Nat.or_lt_two_pow m1 (Nat.pow_lt_pow_right (by omega) hi)
  · have q := o3 ⟨k, by omega⟩
    simp only [Fin.mk.injEq] at q
    rw [h1 k hk, m3 k hk]
    by_cases z : k = i
    · rw [if_pos z, q.mpr (Or.inr z)]; rfl
    · rw [if_neg z]
      congr 1
      have a1 : (m ||| 2 ^ i) / 2 ^ k % 2 < 2 := Nat.mod_lt _ (by omega)
      have a2 : m / 2 ^ k % 2 < 2 := Nat.mod_lt _ (by omega)
      by_cases y : m / 2 ^ k % 2 = 1
      · rw [y, q.mpr (Or.inl y)]
      · have : ¬ (m ||| 2 ^ i) / 2 ^ k % 2 = 1 := fun w => (q.mp w).elim y z
        omega
