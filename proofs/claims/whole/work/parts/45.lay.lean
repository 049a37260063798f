/-! ===== phase 2: hours laid over the plots (reference) ===== -/
def upd2 (r : Nat → Nat → Int32) (m k : Nat) (n : Int32) : Nat → Nat → Int32 := fun p j => if p = m ∧ j = k then n else r p j
theorem upd2_eq {r : Nat → Nat → Int32} {m k : Nat} {n : Int32} : upd2 r m k n m k = n := if_pos ⟨rfl, rfl⟩
theorem upd2_ne {r : Nat → Nat → Int32} {m k p j : Nat} {n : Int32} (h : ¬ (p = m ∧ j = k)) : upd2 r m k n p j = r p j := if_neg h
/-- over plot p, kind k: what is told there, and by the rows r -/
def ov (hd : Nat → Int32) (mn : Nat) (base r : Nat → Nat → Int32) (p k : Nat) : Int32 := base p k + (if 0 < p then lk (hd (p - 1)) (r (p - 1) k) else 0) + r p k + (if p + 1 < mn then lk (hd p) (r (p + 1) k) else 0)
def OV (MM : Mem) (b mn : Nat) (base r : Nat → Nat → Int32) : Prop := ∀ p k, p < mn → k < 3 → MM.1 33 (20 + 3 * p + k) = ov (fun q => MM.1 13 (5 * b + q)) mn base r p k
/-- over the plots of the mill -/
def SO (mn a i : Nat) : Prop := a = 33 ∧ 20 ≤ i ∧ i < 20 + 3 * mn
section LAY
variable {MM : Mem} {b mn m k : Nat} {n way : Int32}
theorem lay_v (hb : MM.1 0 41 = nI b) (b1 : b ≤ 1) (h4 : MM.1 4 b = nI mn) (hmn : mn ≤ 5) (hm : m < mn) (hk : k < 3) : ∃ MM', X12_lay (nI m) (nI k) n way MM = some MM' ∧ Fr (SO mn) MM MM' ∧
    ∀ p j, p < mn → j < 3 → MM'.1 33 (20 + 3 * p + j) = MM.1 33 (20 + 3 * p + j) + (if j = k then (if p = m then way * n else if p + 1 = m then way * lk (MM.1 13 (5 * b + p)) n else if p = m + 1 then way * lk (MM.1 13 (5 * b + m)) n else 0) else 0) := by
  have e0 : (20 : Int32) + 3 * nI m + nI k = nI (20 + 3 * m + k) := by simp only [nlit, nI_mul, nI_add]
  have e2 : (20 : Int32) + 3 * (nI m + 1) + nI k = nI (20 + 3 * (m + 1) + k) := by simp only [nlit, nI_mul, nI_add]
  have e3 : nI m + 1 = nI (m + 1) := nI_add m 1
  -- the second step: the plot below
  have second : ∀ M2 : Mem, Fr (SO mn) MM M2 → ∃ M7, (
      if nI m ≤ 0 then
        some M2
      else
      gd_ (inb ((20 + (3 * (nI m - 1))) + nI k) (42) = true) (
      bo_ (X12_leakTo (nI m - 1) n M2) fun v5 =>
      lt_ (uI M2 33 (((20 + (3 * (nI m - 1))) + nI k).toNatClampNeg) ((M2.1 33 (((20 + (3 * (nI m - 1))) + nI k).toNatClampNeg)) + (way * v5))) fun M6 =>
      some M6)) = some M7 ∧ Fr (SO mn) MM M7 ∧ ∀ p j, p < mn → j < 3 → M7.1 33 (20 + 3 * p + j) = M2.1 33 (20 + 3 * p + j) + (if j = k ∧ p + 1 = m then way * lk (MM.1 13 (5 * b + p)) n else 0) := by
    intro M2 f
    by_cases h0 : m = 0
    · subst h0
      refine ⟨M2, by rw [if_pos (by decide)], f, fun p j hp hj => ?_⟩
      rw [if_neg (by omega), Int32.add_zero]
    · have e1 : nI m - 1 = nI (m - 1) := nI_sub (b := 1) (by omega)
      have e4 : (20 : Int32) + 3 * nI (m - 1) + nI k = nI (20 + 3 * (m - 1) + k) := by simp only [nlit, nI_mul, nI_add]
      have hb' : M2.1 0 41 = nI b := (f.2 0 41 (by unfold SO; omega)).trans hb
      refine ⟨uI M2 33 (20 + 3 * (m - 1) + k) (M2.1 33 (20 + 3 * (m - 1) + k) + way * lk (MM.1 13 (5 * b + (m - 1))) n), ?_, f.up _ ⟨rfl, by omega, by omega⟩, fun p j hp hj => ?_⟩
      · rw [if_neg (nI_nle (by omega) (by omega)), e1, e4, gd_in (by omega) (by omega), nI_clamp (by omega), leakTo_c hb' b1 (by omega), bo_s, lt_e, f.2 13 _ (by unfold SO; omega)]
      · rw [uI_g]
        by_cases hj1 : j = k ∧ p + 1 = m
        · obtain ⟨rfl, rfl⟩ := hj1
          rw [if_pos ⟨rfl, by omega⟩, if_pos ⟨rfl, rfl⟩, Nat.add_sub_cancel]
        · rw [if_neg (by omega), if_neg hj1, Int32.add_zero]
  have f1 : Fr (SO mn) MM (uI MM 33 (20 + 3 * m + k) (MM.1 33 (20 + 3 * m + k) + way * n)) := Fr.rf.up _ ⟨rfl, by omega, by omega⟩
  obtain ⟨M7, g1, g2, g3⟩ := second _ f1
  have hb7 : M7.1 0 41 = nI b := (g2.2 0 41 (by unfold SO; omega)).trans hb
  have h47 : M7.1 4 b = nI mn := (g2.2 4 b (by unfold SO; omega)).trans h4
  have hun : X12_lay (nI m) (nI k) n way MM = (if nI mn ≤ nI (m + 1) then some M7 else
      gd_ (inb (nI (20 + 3 * (m + 1) + k)) (42) = true) (
      bo_ (X12_leakTo (nI m) n M7) fun v11 =>
      lt_ (uI M7 33 (nI (20 + 3 * (m + 1) + k)).toNatClampNeg ((M7.1 33 (nI (20 + 3 * (m + 1) + k)).toNatClampNeg) + (way * v11))) fun M12 =>
      some M12)) := by
    unfold X12_lay
    rw [e0, gd_in (by omega) (by omega), nI_clamp (by omega), lt_e]
    rw [g1, b1_s, many_c hb7 b1 h47, bo_s, e2, e3]
  rw [hun]
  by_cases h5 : m + 1 < mn
  · refine ⟨uI M7 33 (20 + 3 * (m + 1) + k) (M7.1 33 (20 + 3 * (m + 1) + k) + way * lk (MM.1 13 (5 * b + m)) n), ?_, g2.up _ ⟨rfl, by omega, by omega⟩, fun p j hp hj => ?_⟩
    · rw [if_neg (nI_ge h5 (by omega)), gd_in (by omega) (by omega), nI_clamp (by omega), leakTo_c hb7 b1 (by omega), bo_s, lt_e, g2.2 13 _ (by unfold SO; omega)]
    · rw [uI_g]
      by_cases hj1 : j = k
      · subst hj1
        rw [if_pos rfl]
        by_cases h6 : p = m + 1
        · subst h6
          rw [if_pos ⟨rfl, rfl⟩, g3 _ _ hp hj, if_neg (by omega), if_neg (by omega), if_neg (by omega), if_pos rfl, uI_ne (by omega), Int32.add_zero]
        · rw [if_neg (by omega), g3 _ _ hp hj, if_neg h6]
          by_cases h7 : p = m
          · subst h7
            rw [if_neg (by omega), if_pos rfl, uI_eq, Int32.add_zero]
          · rw [uI_ne (by omega), if_neg h7]
            by_cases h8 : p + 1 = m
            · rw [if_pos ⟨rfl, h8⟩, if_pos h8]
            · rw [if_neg (by omega), if_neg h8]
      · rw [if_neg (by omega), if_neg hj1, g3 _ _ hp hj, if_neg (by omega), uI_ne (by omega), Int32.add_zero]
  · refine ⟨M7, by rw [if_pos (nI_le (by omega) (by omega))], g2, fun p j hp hj => ?_⟩
    rw [g3 _ _ hp hj]
    by_cases hj1 : j = k
    · subst hj1
      rw [if_pos rfl]
      by_cases h7 : p = m
      · subst h7
        rw [if_neg (by omega), if_pos rfl, uI_eq, Int32.add_zero]
      · rw [uI_ne (by omega), if_neg h7]
        by_cases h8 : p + 1 = m
        · rw [if_pos ⟨rfl, h8⟩, if_pos h8]
        · rw [if_neg (by omega), if_neg h8, if_neg (by omega)]
    · rw [if_neg hj1, if_neg (by omega), uI_ne (by omega), Int32.add_zero]
theorem lay_c {base r : Nat → Nat → Int32} {u u' : Int32} (hb : MM.1 0 41 = nI b) (b1 : b ≤ 1) (h4 : MM.1 4 b = nI mn) (hmn : mn ≤ 5) (hm : m < mn) (hk : k < 3) (hO : OV MM b mn base r) (hu : r m k = u) (h1 : u + way * n = u') (h2 : ∀ h, lk h u + way * lk h n = lk h u') : ∃ MM', X12_lay (nI m) (nI k) n way MM = some MM' ∧ Fr (SO mn) MM MM' ∧ OV MM' b mn base (upd2 r m k u') := by
  obtain ⟨MM', e, f, v⟩ := lay_v (n := n) (way := way) hb b1 h4 hmn hm hk
  have f13 : ∀ i, MM'.1 13 i = MM.1 13 i := fun i => f.2 13 i (by unfold SO; omega)
  refine ⟨MM', e, f, fun p j hp hj => ?_⟩
  rw [v p j hp hj, hO p j hp hj]
  unfold ov
  simp only [f13]
  by_cases hj1 : j = k
  · subst hj1
    rw [if_pos rfl]
    by_cases h7 : p = m
    · subst h7
      rw [if_pos rfl, upd2_eq, upd2_ne (show ¬ (p + 1 = p ∧ j = j) by omega), hu, ← h1]
      have hA : (if 0 < p then lk (MM.1 13 (5 * b + (p - 1))) (upd2 r p j (u + way * n) (p - 1) j) else 0) = (if 0 < p then lk (MM.1 13 (5 * b + (p - 1))) (r (p - 1) j) else 0) := by
        by_cases h0 : 0 < p
        · rw [if_pos h0, if_pos h0, upd2_ne (by omega)]
        · rw [if_neg h0, if_neg h0]
      rw [hA]
      ac_rfl
    · rw [if_neg h7, upd2_ne (show ¬ (p = m ∧ j = j) by omega)]
      by_cases h8 : p + 1 = m
      · rw [if_pos h8, if_pos (show p + 1 < mn by omega), if_pos (show p + 1 < mn by omega), h8, upd2_eq, hu, ← h2, upd2_ne (show ¬ (p - 1 = m ∧ j = j) by omega)]
        ac_rfl
      · rw [if_neg h8, upd2_ne (show ¬ (p + 1 = m ∧ j = j) by omega)]
        by_cases h9 : p = m + 1
        · subst h9
          rw [if_pos rfl, if_pos (show 0 < m + 1 by omega), if_pos (show 0 < m + 1 by omega), Nat.add_sub_cancel, upd2_eq, hu, ← h2]
          ac_rfl
        · rw [if_neg h9, Int32.add_zero]
          by_cases h0 : 0 < p
          · rw [if_pos h0, if_pos h0, upd2_ne (by omega)]
          · rw [if_neg h0, if_neg h0]
  · rw [if_neg hj1, Int32.add_zero, upd2_ne (by omega), upd2_ne (by omega), upd2_ne (by omega)]
/-- a row of m laid (his place among the rows was empty), or taken away again -/
def upd3 (r : Nat → Nat → Int32) (m : Nat) (w : Nat → Int32) : Nat → Nat → Int32 := fun p j => if p = m ∧ j < 3 then w j else r p j
theorem up_1 (n : Int32) : (0 : Int32) + 1 * n = n := by rw [Int32.zero_add, Int32.one_mul]
theorem up_m (n : Int32) : n + (-1) * n = 0 := by rw [Int32.neg_mul, Int32.one_mul, ← Int32.sub_eq_add_neg, Int32.sub_self]
end LAY
