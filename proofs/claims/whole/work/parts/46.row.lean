/-! ===== phase 2: rows, one behind the other ===== -/
def rkA (a : Nat) : Nat := [0, 45, 81, 109, 130, 145, 155, 161, 164].getD a 0
/-- the place of a row among all of 8 hours at most -/
def rk (a b c : Nat) : Nat := rkA a + (b * (9 - a) - b * (b - 1) / 2) + c
theorem rk_fin : ∀ a b c : Fin 9, a.1 + b.1 + c.1 ≤ 8 → rk a.1 b.1 c.1 ≤ 164 ∧ (a.1 + b.1 + (c.1 + 1) ≤ 8 → rk a.1 b.1 c.1 < rk a.1 b.1 (c.1 + 1)) ∧ (a.1 + (b.1 + 1) ≤ 8 → rk a.1 b.1 c.1 < rk a.1 (b.1 + 1) 0) ∧ (a.1 + 1 ≤ 8 → rk a.1 b.1 c.1 < rk (a.1 + 1) 0 0) := by decide +kernel
theorem rk_step : ∀ a, a < 9 → ∀ b, b < 9 → ∀ c, c < 9 → a + b + c ≤ 8 → rk a b c ≤ 164 ∧ (a + b + (c + 1) ≤ 8 → rk a b c < rk a b (c + 1)) ∧ (a + (b + 1) ≤ 8 → rk a b c < rk a (b + 1) 0) ∧ (a + 1 ≤ 8 → rk a b c < rk (a + 1) 0 0) := fun a ha b hb c hc h => rk_fin ⟨a, ha⟩ ⟨b, hb⟩ ⟨c, hc⟩ h
/-- the next row: limits l, h hours in all -/
def nxt (l : Nat → Nat) (h a b c : Nat) : Option (Nat × Nat × Nat) := if c < l 2 ∧ a + b + c < h then some (a, b, c + 1) else if b < l 1 ∧ a + b < h then some (a, b + 1, 0) else if a < l 0 ∧ a < h then some (a + 1, 0, 0) else none
theorem nxt_some {l : Nat → Nat} {h a b c a' b' c' : Nat} (hh : h ≤ 8) (hs : a + b + c ≤ h) (ha : a ≤ l 0) (hb : b ≤ l 1) (hc : c ≤ l 2) (e : nxt l h a b c = some (a', b', c')) : a' + b' + c' ≤ h ∧ rk a b c < rk a' b' c' ∧ a' ≤ l 0 ∧ b' ≤ l 1 ∧ c' ≤ l 2 := by
  obtain ⟨_, k1, k2, k3⟩ := rk_step a (by omega) b (by omega) c (by omega) (by omega)
  unfold nxt at e
  by_cases h1 : c < l 2 ∧ a + b + c < h
  · rw [if_pos h1] at e
    cases e
    exact ⟨by omega, k1 (by omega), by omega, by omega, by omega⟩
  · rw [if_neg h1] at e
    by_cases h2 : b < l 1 ∧ a + b < h
    · rw [if_pos h2] at e
      cases e
      exact ⟨by omega, k2 (by omega), by omega, by omega, by omega⟩
    · rw [if_neg h2] at e
      by_cases h3 : a < l 0 ∧ a < h
      · rw [if_pos h3] at e
        cases e
        exact ⟨by omega, k3 (by omega), by omega, by omega, by omega⟩
      · rw [if_neg h3] at e
        cases e
def t3 (a b c : Nat) (j : Nat) : Nat := if j = 0 then a else if j = 1 then b else c
/-- the cells of a row of man m of the class -/
def S46 (m a i : Nat) : Prop := a = 46 ∧ 3 * m ≤ i ∧ i < 3 * m + 3
section NX
variable {m q h : Nat} {l : Nat → Nat}
theorem hoursOf_c {M : Mem} {a b c : Nat} (hm : m < 5) (h0 : M.1 46 (3 * m) = nI a) (h1 : M.1 46 (3 * m + 1) = nI b) (h2 : M.1 46 (3 * m + 2) = nI c) : X5_hoursOf (nI m) M = some (nI (a + b + c)) := by
  have hz : zlen zTX 46 = 15 := zlX_46
  unfold X5_hoursOf
  obtain ⟨n, hn⟩ := zFU_s 4 (by omega)
  rw [hn, show n + 4 = n + 3 + 1 from rfl, X5_hoursOf_L1, if_neg (by decide), show nI m * 3 = nI (3 * m) by rw [show nI m * 3 = nI (m * 3) from nI_mul m 3, Nat.mul_comm], show (0 : Int32) = nI 0 from rfl, nI_add, Nat.add_zero, xc_in (by omega), h0, lt_e,
    show n + 3 = n + 2 + 1 from rfl, X5_hoursOf_L1, if_neg (by decide), show nI m * 3 = nI (3 * m) by rw [show nI m * 3 = nI (m * 3) from nI_mul m 3, Nat.mul_comm], show nI 0 + 1 = nI 1 from rfl, show nI (3 * m) + nI 1 = nI (3 * m + 1) from nI_add _ _, xc_in (by omega), h1, lt_e,
    show n + 2 = n + 1 + 1 from rfl, X5_hoursOf_L1, if_neg (by decide), show nI m * 3 = nI (3 * m) by rw [show nI m * 3 = nI (m * 3) from nI_mul m 3, Nat.mul_comm], show nI 1 + 1 = nI 2 from rfl, show nI (3 * m) + nI 2 = nI (3 * m + 2) from nI_add _ _, xc_in (by omega), h2, lt_e,
    X5_hoursOf_L1, if_pos (by decide), b1_s, nI_add, nI_add, nI_add, Nat.zero_add]
/-- a turn of the class's search for the next row that finds it -/
theorem nx_yes {M : Mem} {n j y H : Nat} {H' : Nat} (hm : m < 5) (hj : j < 3) (hz : zlen zTX q = 3) (hq : M.1 q j = nI (l j)) (hl : l j < 1000) (hr : M.1 46 (3 * m + j) = nI y) (hy : y < 1000) (hH : X5_hoursOf (nI m) M = some (nI H)) (hH2 : H < 1000) (hh : H' < 1000) (h1 : y < l j) (h2 : H < H') :
    X5_nextRow_L1 (nI m) q (nI H') (n + 1) (nI j) M = some (true, uI M 46 (3 * m + j) (nI (y + 1))) := by
  have hz2 : zlen zTX 46 = 15 := zlX_46
  rw [X5_nextRow_L1, if_neg (nI_pos (by omega)), show nI m * 3 = nI (3 * m) by rw [show nI m * 3 = nI (m * 3) from nI_mul m 3, Nat.mul_comm], nI_add, xc_in (by omega), lt_e, xc_in (by omega), hq, hr, if_neg (nI_ge h1 (by omega)), hH, bo_s, if_neg (nI_ge h2 (by omega)), b1_s, if_neg (by decide), xp_in (by omega), lt_e, show nI y + 1 = nI (y + 1) from nI_add y 1]
theorem nx_no {M : Mem} {n j y H : Nat} {H' : Nat} (hm : m < 5) (hj : j < 3) (hz : zlen zTX q = 3) (hq : M.1 q j = nI (l j)) (hl : l j < 1000) (hr : M.1 46 (3 * m + j) = nI y) (hy : y < 1000) (hH : X5_hoursOf (nI m) M = some (nI H)) (hH2 : H < 1000) (hh : H' < 1000) (h1 : ¬ (y < l j ∧ H < H')) :
    X5_nextRow_L1 (nI m) q (nI H') (n + 1) (nI j) M = X5_nextRow_L1 (nI m) q (nI H') n (nI j + (-1)) (uI M 46 (3 * m + j) 0) := by
  have hz2 : zlen zTX 46 = 15 := zlX_46
  rw [X5_nextRow_L1, if_neg (nI_pos (by omega)), show nI m * 3 = nI (3 * m) by rw [show nI m * 3 = nI (m * 3) from nI_mul m 3, Nat.mul_comm], nI_add, xc_in (by omega), lt_e, xc_in (by omega), hq, hr]
  by_cases h2 : l j ≤ y
  · rw [if_pos (nI_le h2 (by omega)), b1_s, if_pos rfl, xp_in (by omega), lt_e]
  · rw [if_neg (nI_ge (by omega) (by omega)), hH, bo_s, if_pos (nI_le (by omega) (by omega)), b1_s, if_pos rfl, xp_in (by omega), lt_e]
theorem nx_x {M : Mem} {a b c : Nat} (hm : m < 5) (hq2 : q ≠ 46) (hz : zlen zTX q = 3) (hq : ∀ j, j < 3 → M.1 q j = nI (l j)) (hl : ∀ j, j < 3 → l j < 1000) (hh : h ≤ 8) (hs : a + b + c ≤ h) (h0 : M.1 46 (3 * m) = nI a) (h1 : M.1 46 (3 * m + 1) = nI b) (h2 : M.1 46 (3 * m + 2) = nI c) :
    ∃ ok M', X5_nextRow (nI m) q (nI h) M = some (ok, M') ∧ Fr (S46 m) M M' ∧ ((ok = true ∧ ∃ a' b' c', nxt l h a b c = some (a', b', c') ∧ M'.1 46 (3 * m) = nI a' ∧ M'.1 46 (3 * m + 1) = nI b' ∧ M'.1 46 (3 * m + 2) = nI c') ∨ (ok = false ∧ nxt l h a b c = none ∧ M'.1 46 (3 * m) = nI 0 ∧ M'.1 46 (3 * m + 1) = nI 0 ∧ M'.1 46 (3 * m + 2) = nI 0)) := by
  unfold X5_nextRow nxt
  obtain ⟨n, hn⟩ := zFU_s 4 (by omega)
  rw [hn, show n + 4 = n + 3 + 1 from rfl, show (2 : Int32) = nI 2 from rfl]
  have hH := hoursOf_c hm h0 h1 h2
  have hl0 := hl 0 (by omega)
  have hl1 := hl 1 (by omega)
  have hl2 := hl 2 (by omega)
  by_cases q2 : c < l 2 ∧ a + b + c < h
  · rw [if_pos q2, nx_yes hm (by omega) hz (hq 2 (by omega)) (by omega) h2 (by omega) hH (by omega) (by omega) q2.1 q2.2]
    exact ⟨true, _, rfl, Fr.rf.up _ ⟨rfl, by omega, by omega⟩, Or.inl ⟨rfl, a, b, c + 1, rfl, (uI_ne (by omega)).trans h0, (uI_ne (by omega)).trans h1, uI_eq _ _ _ _⟩⟩
  · rw [if_neg q2, nx_no hm (by omega) hz (hq 2 (by omega)) (by omega) h2 (by omega) hH (by omega) (by omega) q2, show nI 2 + (-1) = nI 1 by decide, show n + 3 = n + 2 + 1 from rfl]
    have g0 : (uI M 46 (3 * m + 2) 0).1 46 (3 * m) = nI a := (uI_ne (by omega)).trans h0
    have g1 : (uI M 46 (3 * m + 2) 0).1 46 (3 * m + 1) = nI b := (uI_ne (by omega)).trans h1
    have g2 : (uI M 46 (3 * m + 2) 0).1 46 (3 * m + 2) = nI 0 := uI_eq _ _ _ _
    have gH := hoursOf_c hm g0 g1 g2
    have gq : ∀ j, (uI M 46 (3 * m + 2) 0).1 q j = M.1 q j := fun j => uI_ne (by omega)
    have f1 : Fr (S46 m) M (uI M 46 (3 * m + 2) 0) := Fr.rf.up _ ⟨rfl, by omega, by omega⟩
    by_cases q1 : b < l 1 ∧ a + b < h
    · rw [if_pos q1, nx_yes (l := l) hm (by omega) hz ((gq 1).trans (hq 1 (by omega))) (by omega) g1 (by omega) gH (by omega) (by omega) q1.1 (by omega)]
      exact ⟨true, _, rfl, f1.up _ ⟨rfl, by omega, by omega⟩, Or.inl ⟨rfl, a, b + 1, 0, rfl, (uI_ne (by omega)).trans g0, uI_eq _ _ _ _, (uI_ne (by omega)).trans g2⟩⟩
    · rw [if_neg q1, nx_no (l := l) hm (by omega) hz ((gq 1).trans (hq 1 (by omega))) (by omega) g1 (by omega) gH (by omega) (by omega) (by omega), show nI 1 + (-1) = nI 0 by decide, show n + 2 = n + 1 + 1 from rfl]
      have k0 : (uI (uI M 46 (3 * m + 2) 0) 46 (3 * m + 1) 0).1 46 (3 * m) = nI a := (uI_ne (by omega)).trans g0
      have k1 : (uI (uI M 46 (3 * m + 2) 0) 46 (3 * m + 1) 0).1 46 (3 * m + 1) = nI 0 := uI_eq _ _ _ _
      have k2 : (uI (uI M 46 (3 * m + 2) 0) 46 (3 * m + 1) 0).1 46 (3 * m + 2) = nI 0 := (uI_ne (by omega)).trans g2
      have kH := hoursOf_c hm k0 k1 k2
      have kq : ∀ j, (uI (uI M 46 (3 * m + 2) 0) 46 (3 * m + 1) 0).1 q j = M.1 q j := fun j => (uI_ne (by omega)).trans (gq j)
      have f2 : Fr (S46 m) M (uI (uI M 46 (3 * m + 2) 0) 46 (3 * m + 1) 0) := f1.up _ ⟨rfl, by omega, by omega⟩
      by_cases q0 : a < l 0 ∧ a < h
      · rw [if_pos q0, nx_yes (l := l) (j := 0) hm (by omega) hz ((kq 0).trans (hq 0 (by omega))) (by omega) k0 (by omega) kH (by omega) (by omega) q0.1 (by omega)]
        exact ⟨true, _, rfl, f2.up _ ⟨rfl, by omega, by omega⟩, Or.inl ⟨rfl, a + 1, 0, 0, rfl, uI_eq _ _ _ _, (uI_ne (by omega)).trans k1, (uI_ne (by omega)).trans k2⟩⟩
      · rw [if_neg q0, nx_no (l := l) (j := 0) hm (by omega) hz ((kq 0).trans (hq 0 (by omega))) (by omega) k0 (by omega) kH (by omega) (by omega) (by omega), X5_nextRow_L1, if_pos (by decide)]
        exact ⟨false, _, rfl, f2.up _ ⟨rfl, by omega, by omega⟩, Or.inr ⟨rfl, rfl, uI_eq _ _ _ _, (uI_ne (by omega)).trans k1, (uI_ne (by omega)).trans k2⟩⟩
/-- the reference's row -/
def S35 (a i : Nat) : Prop := a = 35 ∧ i < 3
theorem my_yes {M : Mem} {n j y s H' : Nat} (hj : j < 3) (hz : zlen zTM q = 3) (hq35 : q ≠ 35) (hq : M.1 q j = nI (l j)) (hl : l j < 1000) (hr : M.1 35 j = nI y) (hy : y < 1000) (hS : ((uI M 35 j (nI (y + 1))).1 35 0 + (uI M 35 j (nI (y + 1))).1 35 1) + (uI M 35 j (nI (y + 1))).1 35 2 = nI (s + 1)) (hs : s < 1000) (hh : H' < 1000) (h1 : y < l j) (h2 : s < H') :
    X12_nextRow_L1 q (nI H') (n + 1) (nI j) M = some (true, uI M 35 j (nI (y + 1))) := by
  rw [X12_nextRow_L1, if_neg (nI_pos (by omega)), gd_in (by omega) (by omega), nI_clamp (by omega), hr, show nI y + 1 = nI (y + 1) from nI_add y 1, lt_e, gd_in (by omega) (by omega), uI_ne (by omega), uI_eq, hq, if_neg (nI_nlt (by omega) (by omega)), hS, if_neg (nI_nlt (by omega) (by omega)), l1_s, if_neg (by decide)]
theorem my_no {M : Mem} {n j y s H' : Nat} (hj : j < 3) (hz : zlen zTM q = 3) (hq35 : q ≠ 35) (hq : M.1 q j = nI (l j)) (hl : l j < 1000) (hr : M.1 35 j = nI y) (hy : y < 1000) (hS : ((uI M 35 j (nI (y + 1))).1 35 0 + (uI M 35 j (nI (y + 1))).1 35 1) + (uI M 35 j (nI (y + 1))).1 35 2 = nI (s + 1)) (hs : s < 1000) (hh : H' < 1000) (h1 : ¬ (y < l j ∧ s < H')) :
    X12_nextRow_L1 q (nI H') (n + 1) (nI j) M = X12_nextRow_L1 q (nI H') n (nI j + (-1)) (uI (uI M 35 j (nI (y + 1))) 35 j 0) := by
  rw [X12_nextRow_L1, if_neg (nI_pos (by omega)), gd_in (by omega) (by omega), nI_clamp (by omega), hr, show nI y + 1 = nI (y + 1) from nI_add y 1, lt_e, gd_in (by omega) (by omega), uI_ne (by omega), uI_eq, hq, hS]
  by_cases h2 : l j < y + 1
  · rw [if_pos (nI_lt h2 (by omega)), l1_s, if_pos rfl, lt_e]
  · rw [if_neg (nI_nlt (by omega) (by omega)), if_pos (nI_lt (by omega) (by omega)), l1_s, if_pos rfl, lt_e]
theorem nx_m {M : Mem} {a b c : Nat} (hz : zlen zTM q = 3) (hq2 : q ≠ 35) (hq : ∀ j, j < 3 → M.1 q j = nI (l j)) (hl : ∀ j, j < 3 → l j < 1000) (hh : h ≤ 8) (hs : a + b + c ≤ h) (h0 : M.1 35 0 = nI a) (h1 : M.1 35 1 = nI b) (h2 : M.1 35 2 = nI c) :
    ∃ ok M', X12_nextRow q (nI h) M = some (ok, M') ∧ Fr S35 M M' ∧ ((ok = true ∧ ∃ a' b' c', nxt l h a b c = some (a', b', c') ∧ M'.1 35 0 = nI a' ∧ M'.1 35 1 = nI b' ∧ M'.1 35 2 = nI c') ∨ (ok = false ∧ nxt l h a b c = none ∧ M'.1 35 0 = nI 0 ∧ M'.1 35 1 = nI 0 ∧ M'.1 35 2 = nI 0)) := by
  unfold X12_nextRow nxt
  obtain ⟨n, hn⟩ := zFU_s 4 (by omega)
  rw [hn, show n + 4 = n + 3 + 1 from rfl, show (2 : Int32) = nI 2 from rfl]
  have hl0 := hl 0 (by omega)
  have hl1 := hl 1 (by omega)
  have hl2 := hl 2 (by omega)
  have hS : ((uI M 35 2 (nI (c + 1))).1 35 0 + (uI M 35 2 (nI (c + 1))).1 35 1) + (uI M 35 2 (nI (c + 1))).1 35 2 = nI (a + b + c + 1) := by
    rw [uI_ne (by omega), uI_ne (by omega), uI_eq, h0, h1, nI_add, nI_add, Nat.add_assoc (a + b)]
  by_cases q2 : c < l 2 ∧ a + b + c < h
  · rw [if_pos q2, my_yes (by omega) hz hq2 (hq 2 (by omega)) (by omega) h2 (by omega) hS (by omega) (by omega) q2.1 q2.2]
    exact ⟨true, _, rfl, Fr.rf.up _ ⟨rfl, by omega⟩, Or.inl ⟨rfl, a, b, c + 1, rfl, (uI_ne (by omega)).trans h0, (uI_ne (by omega)).trans h1, uI_eq _ _ _ _⟩⟩
  · rw [if_neg q2, my_no (by omega) hz hq2 (hq 2 (by omega)) (by omega) h2 (by omega) hS (by omega) (by omega) q2, show nI 2 + (-1) = nI 1 by decide, show n + 3 = n + 2 + 1 from rfl]
    generalize hM1 : uI (uI M 35 2 (nI (c + 1))) 35 2 0 = M1
    have f1 : Fr S35 M M1 := by rw [← hM1]; exact (Fr.rf.up _ ⟨rfl, by omega⟩).up _ ⟨rfl, by omega⟩
    have g0 : M1.1 35 0 = nI a := by rw [← hM1, uI_ne (by omega), uI_ne (by omega), h0]
    have g1 : M1.1 35 1 = nI b := by rw [← hM1, uI_ne (by omega), uI_ne (by omega), h1]
    have g2 : M1.1 35 2 = nI 0 := by rw [← hM1, uI_eq]; rfl
    have gq : ∀ j, M1.1 q j = M.1 q j := fun j => f1.2 q j (by unfold S35; omega)
    have gS : ((uI M1 35 1 (nI (b + 1))).1 35 0 + (uI M1 35 1 (nI (b + 1))).1 35 1) + (uI M1 35 1 (nI (b + 1))).1 35 2 = nI (a + b + 1) := by
      rw [uI_ne (by omega), uI_eq, uI_ne (by omega), g0, g2, nI_add, nI_add, Nat.add_zero, Nat.add_assoc]
    by_cases q1 : b < l 1 ∧ a + b < h
    · rw [if_pos q1, my_yes (l := l) (by omega) hz hq2 ((gq 1).trans (hq 1 (by omega))) (by omega) g1 (by omega) gS (by omega) (by omega) q1.1 q1.2]
      exact ⟨true, _, rfl, f1.up _ ⟨rfl, by omega⟩, Or.inl ⟨rfl, a, b + 1, 0, rfl, (uI_ne (by omega)).trans g0, uI_eq _ _ _ _, (uI_ne (by omega)).trans g2⟩⟩
    · rw [if_neg q1, my_no (l := l) (by omega) hz hq2 ((gq 1).trans (hq 1 (by omega))) (by omega) g1 (by omega) gS (by omega) (by omega) q1, show nI 1 + (-1) = nI 0 by decide, show n + 2 = n + 1 + 1 from rfl]
      generalize hM2 : uI (uI M1 35 1 (nI (b + 1))) 35 1 0 = M2
      have f2 : Fr S35 M M2 := by rw [← hM2]; exact (f1.up _ ⟨rfl, by omega⟩).up _ ⟨rfl, by omega⟩
      have k0 : M2.1 35 0 = nI a := by rw [← hM2, uI_ne (by omega), uI_ne (by omega), g0]
      have k1 : M2.1 35 1 = nI 0 := by rw [← hM2, uI_eq]; rfl
      have k2 : M2.1 35 2 = nI 0 := by rw [← hM2, uI_ne (by omega), uI_ne (by omega), g2]
      have kq : ∀ j, M2.1 q j = M.1 q j := fun j => f2.2 q j (by unfold S35; omega)
      have kS : ((uI M2 35 0 (nI (a + 1))).1 35 0 + (uI M2 35 0 (nI (a + 1))).1 35 1) + (uI M2 35 0 (nI (a + 1))).1 35 2 = nI (a + 1) := by
        rw [uI_eq, uI_ne (by omega), uI_ne (by omega), k1, k2, nI_add, nI_add, Nat.add_zero, Nat.add_zero]
      by_cases q0 : a < l 0 ∧ a < h
      · rw [if_pos q0, my_yes (l := l) (j := 0) (by omega) hz hq2 ((kq 0).trans (hq 0 (by omega))) (by omega) k0 (by omega) kS (by omega) (by omega) q0.1 q0.2]
        exact ⟨true, _, rfl, f2.up _ ⟨rfl, by omega⟩, Or.inl ⟨rfl, a + 1, 0, 0, rfl, uI_eq _ _ _ _, (uI_ne (by omega)).trans k1, (uI_ne (by omega)).trans k2⟩⟩
      · rw [if_neg q0, my_no (l := l) (j := 0) (by omega) hz hq2 ((kq 0).trans (hq 0 (by omega))) (by omega) k0 (by omega) kS (by omega) (by omega) q0, X12_nextRow_L1, if_pos (by decide)]
        exact ⟨false, _, rfl, (f2.up _ ⟨rfl, by omega⟩).up _ ⟨rfl, by omega⟩, Or.inr ⟨rfl, rfl, uI_eq _ _ _ _, ((uI_ne (by omega)).trans (uI_ne (by omega))).trans k1, ((uI_ne (by omega)).trans (uI_ne (by omega))).trans k2⟩⟩
end NX
