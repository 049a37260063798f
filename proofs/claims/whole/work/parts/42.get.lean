/-! ===== phase 2: what the accessors say ===== -/
theorem zlX_24 : zlen zTX 24 = 5 := zlen_of aX_24
theorem zlX_25 : zlen zTX 25 = 5 := zlen_of aX_25
theorem zlX_26 : zlen zTX 26 = 5 := zlen_of aX_26
theorem zlX_27 : zlen zTX 27 = 15 := zlen_of aX_27
theorem zlX_28 : zlen zTX 28 = 15 := zlen_of aX_28
theorem zlX_29 : zlen zTX 29 = 9 := zlen_of aX_29
theorem zlX_30 : zlen zTX 30 = 9 := zlen_of aX_30
theorem zlX_31 : zlen zTX 31 = 5 := zlen_of aX_31
theorem zlX_34 : zlen zTX 34 = 32 := zlen_of aX_34
theorem zlX_37 : zlen zTX 37 = 6 := zlen_of aX_37
theorem zlX_38 : zlen zTX 38 = 15 := zlen_of aX_38
theorem zlX_40 : zlen zTX 40 = 1722 := zlen_of aX_40
theorem zlX_43 : zlen zTX 43 = 42 := zlen_of aX_43
theorem zlX_44 : zlen zTX 44 = 6 := zlen_of aX_44
theorem zlX_45 : zlen zTX 45 = 15 := zlen_of aX_45
theorem zlX_46 : zlen zTX 46 = 15 := zlen_of aX_46
theorem zlX_47 : zlen zTX 47 = 15 := zlen_of aX_47
theorem zlX_48 : zlen zTX 48 = 15 := zlen_of aX_48
theorem zlX_49 : zlen zTX 49 = 3 := zlen_of aX_49
theorem zlX_50 : zlen zTX 50 = 3 := zlen_of aX_50
theorem zlX_52 : zlen zTX 52 = 6 := zlen_of aX_52
theorem zlX_60 : zlen zTX 60 = 5 := zlen_of aX_60
theorem zlX_61 : zlen zTX 61 = 5 := zlen_of aX_61
theorem zlX_62 : zlen zTX 62 = 25 := zlen_of aX_62
theorem zlX_63 : zlen zTX 63 = 126 := zlen_of aX_63
theorem zlM_35 : zlen zTM 35 = 3 := zlen_of aM_35
theorem zlM_36 : zlen zTM 36 = 3 := zlen_of aM_36
theorem zlM_38 : zlen zTM 38 = 3 := zlen_of aM_38
theorem zlM_39 : zlen zTM 39 = 3 := zlen_of aM_39
theorem zlM_40 : zlen zTM 40 = 3 := zlen_of aM_40
theorem zlM_41 : zlen zTM 41 = 3 := zlen_of aM_41
theorem ite_some {α : Type} {c : Prop} [Decidable c] {x y : α} : (if c then some x else some y) = some (if c then x else y) := by split <;> rfl
theorem m1_lt {j : Nat} (hj : j < 2 ^ 31) : (-1 : Int32) < nI j := by
  rw [Int32.lt_iff_toInt_lt, nI_toInt hj]
  have h2 : (-1 : Int32).toInt = -1 := by decide
  omega
theorem isIn_lt {j n : Nat} (hj : j < 2 ^ 31) (hn : n < 2 ^ 31) : X12_isIn (nI j) 0 (nI n - 1) = decide (j < n) := by
  unfold X12_isIn
  rw [if_neg (nI_pos hj)]
  rcases Nat.eq_zero_or_pos n with rfl | h
  · have : nI 0 - 1 = -1 := by decide
    rw [this, if_pos (m1_lt hj)]
    simp
  · rw [show nI n - 1 = nI (n - 1) from nI_sub (a := n) (b := 1) h]
    by_cases q : j < n
    · rw [if_neg (nI_nlt (by omega) (by omega))]; simp [q]
    · rw [if_pos (nI_lt (by omega) (by omega))]; simp [q]
theorem isIn_le {j n : Nat} (hj : j < 2 ^ 31) (hn : n < 2 ^ 31) : X12_isIn (nI j) 0 (nI n) = decide (j ≤ n) := by
  unfold X12_isIn
  rw [if_neg (nI_pos hj)]
  by_cases q : j ≤ n
  · rw [if_neg (nI_nlt q hn)]; simp [q]
  · rw [if_pos (nI_lt (by omega) (by omega))]; simp [q]
theorem isIn_neg {x a b : Int32} (h : x < a) : X12_isIn x a b = false := by
  unfold X12_isIn
  rw [if_pos h]
theorem RP.k {X V : Nat → Nat → Int32} {b mn kd bn hr : Nat} (h : RP X V b mn kd bn hr) : b ≤ 1 ∧ mn ≤ 5 ∧ kd ≤ 3 ∧ bn ≤ 5 ∧ 1 ≤ hr ∧ hr ≤ 8 ∧ V 0 41 = nI b ∧ X 23 0 = nI mn ∧ V 4 b = nI mn ∧ X 23 1 = nI kd ∧ V 3 b = nI kd ∧ X 23 2 = nI bn ∧ V 5 b = nI bn ∧ X 23 3 = V 6 b ∧ X 23 4 = nI hr ∧ V 8 b = nI hr := by
  obtain ⟨⟨⟨a1, a2, a3, a4, a5⟩, ⟨b1, b2, b3, b4, b5, b6, b7, b8, b9⟩, _⟩, _, _, _, _, _, _, ⟨_, _, c1, c2, _⟩⟩ := h
  exact ⟨c1, a1, a2, a3, a4, a5, c2, b1, b2, b3, b4, b5, b6, b7, b8, b9⟩
section ACC
variable {MX MM : Mem} {b mn kd bn hr : Nat}
theorem many_c (hb : MM.1 0 41 = nI b) (b1 : b ≤ 1) (h4 : MM.1 4 b = nI mn) : X12_many MM = some (nI mn) := by
  unfold X12_many
  rw [hb, gd_in (by omega) (by omega), nI_clamp (by omega), h4]
theorem man_c (h : RP MX.1 MM.1 b mn kd bn hr) (x : Int32) : (∃ i, i < mn ∧ x = nI i ∧ X3_hasMan 23 x MX = true ∧ X12_isMan x MM = some true) ∨ (X3_hasMan 23 x MX = false ∧ X12_isMan x MM = some false) := by
  obtain ⟨c1, a1, a2, a3, a4, a5, c2, b1, b2, b3, b4, b5, b6, b7, b8, b9⟩ := h.k
  unfold X3_hasMan X12_isMan
  rw [many_c c2 c1 b2, bo_s, b1]
  by_cases h1 : x < 0
  · right
    rw [if_pos h1, isIn_neg h1]
    exact ⟨rfl, rfl⟩
  · rw [if_neg h1]
    obtain ⟨j, hj, rfl⟩ := nI_of h1
    rw [isIn_lt hj (by omega)]
    by_cases q : j < mn
    · left
      refine ⟨j, q, rfl, ?_, ?_⟩
      · rw [if_neg (nI_ge q (by omega))]
      · simp [q]
    · right
      rw [if_pos (nI_le (by omega) hj)]
      simp [q]
theorem kind_c (h : RP MX.1 MM.1 b mn kd bn hr) (x : Int32) : (∃ i, i < kd ∧ x = nI i ∧ X3_hasKind 23 x MX = true ∧ X12_isKind x MM = some true) ∨ (X3_hasKind 23 x MX = false ∧ X12_isKind x MM = some false) := by
  obtain ⟨c1, a1, a2, a3, a4, a5, c2, b1, b2, b3, b4, b5, b6, b7, b8, b9⟩ := h.k
  unfold X3_hasKind X12_isKind
  rw [c2, gd_in (by omega) (by omega), nI_clamp (by omega), b4, b3]
  by_cases h1 : x < 0
  · right
    rw [if_pos h1, isIn_neg h1]
    exact ⟨rfl, rfl⟩
  · rw [if_neg h1]
    obtain ⟨j, hj, rfl⟩ := nI_of h1
    rw [isIn_lt hj (by omega)]
    by_cases q : j < kd
    · left
      refine ⟨j, q, rfl, ?_, ?_⟩
      · rw [if_neg (nI_ge q (by omega))]
      · simp [q]
    · right
      rw [if_pos (nI_le (by omega) hj)]
      simp [q]
theorem inPurse_c {i k : Nat} (hi : i < 5) (hk : k < 3) : X12_inPurse (nI i) (nI k) MM = some (MM.1 33 (3 * i + k)) := by
  unfold X12_inPurse
  simp (disch := omega) only [nlit, nI_mul, nI_add, nI_sub, nI_addm, nI_clamp, gd_in, nI_ltI, nI_leI, nI_eq, Nat.zero_add]
theorem payOf_c {i k : Nat} (hb : MM.1 0 41 = nI b) (b1 : b ≤ 1) (hi : i < 5) (hk : k < 3) : X12_payOf (nI i) (nI k) MM = some (MM.1 15 (3 * (5 * b + i) + k)) := by
  unfold X12_payOf
  simp (disch := omega) only [hb, nlit, nI_mul, nI_add, nI_sub, nI_addm, nI_clamp, gd_in, nI_ltI, nI_leI, nI_eq]
theorem overOf_c {i k : Nat} (hb : MM.1 0 41 = nI b) (b1 : b ≤ 1) (h3 : MM.1 3 b = nI kd) (hkd : kd ≤ 3) (hi : i < 5) (hk : k < 3) : X12_overOf (nI i) (nI k) MM = some (if k < kd then MM.1 33 (20 + 3 * i + k) else 0) := by
  unfold X12_overOf
  simp (disch := omega) only [hb, nlit, nI_mul, nI_add, nI_sub, nI_addm, nI_clamp, gd_in, nI_ltI, nI_leI, nI_eq, h3]
  by_cases q : k < kd
  · rw [if_neg (by omega), if_pos q]
  · rw [if_pos (by omega), if_neg q]
theorem leftOf_c {i : Nat} (hb : MM.1 0 41 = nI b) (b1 : b ≤ 1) (h8 : MM.1 8 b = nI hr) (hi : i < 5) : X12_leftOf (nI i) MM = some (nI hr - MM.1 33 (35 + i)) := by
  unfold X12_leftOf
  simp (disch := omega) only [hb, nlit, nI_mul, nI_add, nI_sub, nI_addm, nI_clamp, gd_in, nI_ltI, nI_leI, nI_eq, h8]
theorem sumOf_c {i : Nat} (hi : i < 5) : X12_sumOf 0 (nI i) MM = some (MM.1 33 (3 * i) + MM.1 33 (3 * i + 1) + MM.1 33 (3 * i + 2)) := by
  unfold X12_sumOf
  simp (disch := omega) only [nlit, nI_mul, nI_add, nI_sub, nI_addm, nI_clamp, gd_in, nI_ltI, nI_leI, nI_eq, Nat.zero_add]
def lk (h n : Int32) : Int32 := n * (10 - h) / 10
theorem leakTo_c {i : Nat} {x : Int32} (hb : MM.1 0 41 = nI b) (b1 : b ≤ 1) (hi : i < 5) : X12_leakTo (nI i) x MM = some (lk (MM.1 13 (5 * b + i)) x) := by
  unfold X12_leakTo lk
  rw [hb, show (5 : Int32) * nI b = nI (5 * b) from nI_mul 5 b, nI_add, gd_in (by omega) (by omega), nI_clamp (by omega)]
theorem purseOf_c {o i k : Nat} (ho : o = 35 ∨ o = 42) (hi : i < 5) (hk : k < 3) : X9_purseOf o (nI i) (nI k) MX = MX.1 (o + 1) (3 * i + k) := by
  unfold X9_purseOf
  have hz : zlen zTX (o + 1) = 42 := by rcases ho with rfl | rfl <;> first | exact zlX_36 | exact zlX_43
  rw [show nI i * 3 = nI (i * 3) from nI_mul i 3, nI_add, xc_in (by omega), Nat.mul_comm]
theorem overAt_c {o i k : Nat} (ho : o = 35 ∨ o = 42) (hi : i < 5) (hk : k < 3) : X9_overAt o (nI i) (nI k) MX = MX.1 (o + 1) (15 + (3 * i + k)) := by
  unfold X9_overAt
  have hz : zlen zTX (o + 1) = 42 := by rcases ho with rfl | rfl <;> first | exact zlX_36 | exact zlX_43
  rw [show nI i * 3 = nI (i * 3) from nI_mul i 3, show (15 : Int32) + nI (i * 3) = nI (15 + i * 3) from nI_add _ _, nI_add, xc_in (by omega), Nat.mul_comm, Nat.add_assoc]
theorem cropOf_c {o i : Nat} (ho : o = 35 ∨ o = 42) (hi : i < 5) : X9_cropOf o (nI i) MX = MX.1 (o + 1) (30 + i) := by
  unfold X9_cropOf
  have hz : zlen zTX (o + 1) = 42 := by rcases ho with rfl | rfl <;> first | exact zlX_36 | exact zlX_43
  rw [show (30 : Int32) + nI i = nI (30 + i) from nI_add _ _, xc_in (by omega)]
theorem spentBy_c {o i : Nat} (ho : o = 35 ∨ o = 42) (hi : i < 5) : X9_spentBy o (nI i) MX = MX.1 (o + 1) (35 + i) := by
  unfold X9_spentBy
  have hz : zlen zTX (o + 1) = 42 := by rcases ho with rfl | rfl <;> first | exact zlX_36 | exact zlX_43
  rw [show (35 : Int32) + nI i = nI (35 + i) from nI_add _ _, xc_in (by omega)]
theorem weekNow_c {o : Nat} (ho : o = 35 ∨ o = 42) : X9_weekNow o MX = MX.1 (o + 1) 40 := by
  unfold X9_weekNow
  have hz : zlen zTX (o + 1) = 42 := by rcases ho with rfl | rfl <;> first | exact zlX_36 | exact zlX_43
  rw [show (40 : Int32) = nI 40 from rfl, xc_in (by omega)]
theorem seedNow_c {o : Nat} (ho : o = 35 ∨ o = 42) : X9_seedNow o MX = MX.1 (o + 1) 41 := by
  unfold X9_seedNow
  have hz : zlen zTX (o + 1) = 42 := by rcases ho with rfl | rfl <;> first | exact zlX_36 | exact zlX_43
  rw [show (41 : Int32) = nI 41 from rfl, xc_in (by omega)]
theorem wageOf_c {i k : Nat} (hi : i < 5) (hk : k < 3) : X3_wageOf 23 (nI i) (nI k) MX = MX.1 28 (3 * i + k) := by
  unfold X3_wageOf
  rw [show nI i * 3 = nI (i * 3) from nI_mul i 3, nI_add, xc_in (by rw [zlX_28]; omega), Nat.mul_comm]
theorem rate_c {i k : Nat} (hi : i < 3) (hk : k < 3) : X3_rateGiven 23 (nI i) (nI k) MX = MX.1 29 (3 * i + k) ∧ X3_rateGot 23 (nI i) (nI k) MX = MX.1 30 (3 * i + k) := by
  unfold X3_rateGiven X3_rateGot
  rw [show nI i * 3 = nI (i * 3) from nI_mul i 3, nI_add, xc_in (by rw [zlX_29]; omega), xc_in (by rw [zlX_30]; omega), Nat.mul_comm]
  exact ⟨rfl, rfl⟩
end ACC
/-! from what the functions say to a step of the law -/
theorem zs_I {f : Mem → Int32} {g : Mem → Option Int32} (h : ∀ MX MM, RR MX MM → g MM = some (f MX)) : zStep RR (fun M => dI M (f M)) (fun M => dO (dI M) (g M)) := fun MX MM hR => ⟨f MX, MX, MM, rfl, by show dO (dI MM) (g MM) = _; rw [h MX MM hR]; rfl, hR⟩
theorem zs_II {f : Mem → Int32} {g : Mem → Int32} (h : ∀ MX MM, RR MX MM → g MM = f MX) : zStep RR (fun M => dI M (f M)) (fun M => dI M (g M)) := fun MX MM hR => ⟨f MX, MX, MM, rfl, by show dI MM (g MM) = _; rw [h MX MM hR]; rfl, hR⟩
theorem zs_OO {f : Mem → Option Int32} {g : Mem → Option Int32} (h : ∀ MX MM, RR MX MM → ∃ v, f MX = some v ∧ g MM = some v) : zStep RR (fun M => dO (dI M) (f M)) (fun M => dO (dI M) (g M)) := fun MX MM hR => by
  obtain ⟨v, h1, h2⟩ := h MX MM hR
  exact ⟨v, MX, MM, by show dO (dI MX) (f MX) = _; rw [h1]; rfl, by show dO (dI MM) (g MM) = _; rw [h2]; rfl, hR⟩
theorem zs_MM {f : Mem → Option (Int32 × Mem)} {g : Mem → Option (Int32 × Mem)} (h : ∀ MX MM, RR MX MM → ∃ v MX' MM', f MX = some (v, MX') ∧ g MM = some (v, MM') ∧ RR MX' MM') : zStep RR (fun M => dO dIM (f M)) (fun M => dO dIM (g M)) := fun MX MM hR => by
  obtain ⟨v, MX', MM', h1, h2, h3⟩ := h MX MM hR
  exact ⟨v, MX', MM', by show dO dIM (f MX) = _; rw [h1]; rfl, by show dO dIM (g MM) = _; rw [h2]; rfl, h3⟩
theorem zs_OM {f : Mem → Option Int32} {g : Mem → Option (Int32 × Mem)} (h : ∀ MX MM, RR MX MM → ∃ v MM', f MX = some v ∧ g MM = some (v, MM') ∧ RR MX MM') : zStep RR (fun M => dO (dI M) (f M)) (fun M => dO dIM (g M)) := fun MX MM hR => by
  obtain ⟨v, MM', h1, h2, h3⟩ := h MX MM hR
  exact ⟨v, MX, MM', by show dO (dI MX) (f MX) = _; rw [h1]; rfl, by show dO dIM (g MM) = _; rw [h2]; rfl, h3⟩
theorem zs_PM {f : Mem → Int32 × Mem} {g : Mem → Option (Int32 × Mem)} (h : ∀ MX MM, RR MX MM → ∃ v MX' MM', f MX = (v, MX') ∧ g MM = some (v, MM') ∧ RR MX' MM') : zStep RR (fun M => dIM (f M)) (fun M => dO dIM (g M)) := fun MX MM hR => by
  obtain ⟨v, MX', MM', h1, h2, h3⟩ := h MX MM hR
  exact ⟨v, MX', MM', by show dIM (f MX) = _; rw [h1]; rfl, by show dO dIM (g MM) = _; rw [h2]; rfl, h3⟩
theorem zs_PP {f g : Mem → Int32 × Mem} (h : ∀ MX MM, RR MX MM → ∃ v MX' MM', f MX = (v, MX') ∧ g MM = (v, MM') ∧ RR MX' MM') : zStep RR (fun M => dIM (f M)) (fun M => dIM (g M)) := fun MX MM hR => by
  obtain ⟨v, MX', MM', h1, h2, h3⟩ := h MX MM hR
  exact ⟨v, MX', MM', by show dIM (f MX) = _; rw [h1]; rfl, by show dIM (g MM) = _; rw [h2]; rfl, h3⟩
theorem zs_ZZ {f : Mem → Option (Bool × Mem)} {g : Mem → Option (Bool × Mem)} (h : ∀ MX MM, RR MX MM → ∃ v MX' MM', f MX = some (v, MX') ∧ g MM = some (v, MM') ∧ RR MX' MM') : zStep RR (fun M => dO dZM (f M)) (fun M => dO dZM (g M)) := fun MX MM hR => by
  obtain ⟨v, MX', MM', h1, h2, h3⟩ := h MX MM hR
  exact ⟨b2i v, MX', MM', by show dO dZM (f MX) = _; rw [h1]; rfl, by show dO dZM (g MM) = _; rw [h2]; rfl, h3⟩
theorem zs_PZ {f : Mem → Bool × Mem} {g : Mem → Option (Bool × Mem)} (h : ∀ MX MM, RR MX MM → ∃ v MX' MM', f MX = (v, MX') ∧ g MM = some (v, MM') ∧ RR MX' MM') : zStep RR (fun M => dZM (f M)) (fun M => dO dZM (g M)) := fun MX MM hR => by
  obtain ⟨v, MX', MM', h1, h2, h3⟩ := h MX MM hR
  exact ⟨b2i v, MX', MM', by show dZM (f MX) = _; rw [h1]; rfl, by show dO dZM (g MM) = _; rw [h2]; rfl, h3⟩
theorem p2_purse (a1 a2 : Int32) : zStep RR (fun M => (dI M) (X11_purse a1 a2 M)) (fun M => (dO (dI M)) (X12_purse a1 a2 M)) := zs_I fun MX MM hR => by
  obtain ⟨b, mn, kd, bn, hr, h⟩ := hR
  obtain ⟨c1, ha1, ha2, a3, a4, a5, c2, b1, b2, b3, b4, b5, b6, b7, b8, b9⟩ := h.k
  rcases man_c h a1 with ⟨i, hi, rfl, e1, e2⟩ | ⟨e1, e2⟩
  · rcases kind_c h a2 with ⟨k, hk, rfl, e3, e4⟩ | ⟨e3, e4⟩
    · obtain ⟨n, _, q1, q2, _⟩ := h.2.1.1 i k (by omega) (by omega)
      simp only [X11_purse, X12_purse, X3_hasPair, e1, e2, e3, e4, bo_s, bp_s, lp_s, b1_s, b2_s, b3_s, l1_s, l2_s, lt_e, Bool.false_eq_true, ↓reduceIte]
      rw [inPurse_c (by omega) (by omega), bo_s, purseOf_c (Or.inl rfl) (by omega) (by omega), q1, q2]
    · simp only [X11_purse, X12_purse, X3_hasPair, e1, e2, e3, e4, bo_s, bp_s, lp_s, b1_s, b2_s, b3_s, l1_s, l2_s, lt_e, Bool.false_eq_true, ↓reduceIte]
  · simp only [X11_purse, X12_purse, X3_hasPair, e1, e2, bo_s, bp_s, lp_s, b1_s, b2_s, b3_s, l1_s, l2_s, lt_e, Bool.false_eq_true, ↓reduceIte]
theorem p2_over (a1 a2 : Int32) : zStep RR (fun M => (dI M) (X11_over a1 a2 M)) (fun M => (dO (dI M)) (X12_over a1 a2 M)) := zs_I fun MX MM hR => by
  obtain ⟨b, mn, kd, bn, hr, h⟩ := hR
  obtain ⟨c1, ha1, ha2, a3, a4, a5, c2, b1, b2, b3, b4, b5, b6, b7, b8, b9⟩ := h.k
  rcases man_c h a1 with ⟨i, hi, rfl, e1, e2⟩ | ⟨e1, e2⟩
  · rcases kind_c h a2 with ⟨k, hk, rfl, e3, e4⟩ | ⟨e3, e4⟩
    · obtain ⟨q1, _⟩ := h.2.1.2.1 i k (by omega) (by omega)
      simp only [X11_over, X12_over, X3_hasPair, e1, e2, e3, e4, bo_s, bp_s, lp_s, b1_s, b2_s, b3_s, l1_s, l2_s, lt_e, Bool.false_eq_true, ↓reduceIte]
      rw [overOf_c c2 c1 b4 ha2 (by omega) (by omega), bo_s, overAt_c (Or.inl rfl) (by omega) (by omega), if_pos hk, q1, Nat.add_assoc]
    · simp only [X11_over, X12_over, X3_hasPair, e1, e2, e3, e4, bo_s, bp_s, lp_s, b1_s, b2_s, b3_s, l1_s, l2_s, lt_e, Bool.false_eq_true, ↓reduceIte]
  · simp only [X11_over, X12_over, X3_hasPair, e1, e2, bo_s, bp_s, lp_s, b1_s, b2_s, b3_s, l1_s, l2_s, lt_e, Bool.false_eq_true, ↓reduceIte]
theorem p2_pay (a1 a2 : Int32) : zStep RR (fun M => (dI M) (X11_pay a1 a2 M)) (fun M => (dO (dI M)) (X12_pay a1 a2 M)) := zs_I fun MX MM hR => by
  obtain ⟨b, mn, kd, bn, hr, h⟩ := hR
  obtain ⟨c1, ha1, ha2, a3, a4, a5, c2, b1, b2, b3, b4, b5, b6, b7, b8, b9⟩ := h.k
  rcases man_c h a1 with ⟨i, hi, rfl, e1, e2⟩ | ⟨e1, e2⟩
  · rcases kind_c h a2 with ⟨k, hk, rfl, e3, e4⟩ | ⟨e3, e4⟩
    · obtain ⟨n, _, q1, q2, _⟩ := h.1.2.2.2.2.2.2.2.2.1 i k hi (by omega)
      simp only [X11_pay, X12_pay, X3_hasPair, e1, e2, e3, e4, bo_s, bp_s, lp_s, b1_s, b2_s, b3_s, l1_s, l2_s, lt_e, Bool.false_eq_true, ↓reduceIte]
      rw [payOf_c c2 c1 (by omega) (by omega), bo_s, wageOf_c (by omega) (by omega), q1, q2]
    · simp only [X11_pay, X12_pay, X3_hasPair, e1, e2, e3, e4, bo_s, bp_s, lp_s, b1_s, b2_s, b3_s, l1_s, l2_s, lt_e, Bool.false_eq_true, ↓reduceIte]
  · simp only [X11_pay, X12_pay, X3_hasPair, e1, e2, bo_s, bp_s, lp_s, b1_s, b2_s, b3_s, l1_s, l2_s, lt_e, Bool.false_eq_true, ↓reduceIte]
theorem p2_left (a1 : Int32) : zStep RR (fun M => (dI M) (X11_left a1 M)) (fun M => (dO (dI M)) (X12_left a1 M)) := zs_I fun MX MM hR => by
  obtain ⟨b, mn, kd, bn, hr, h⟩ := hR
  obtain ⟨c1, ha1, ha2, a3, a4, a5, c2, b1, b2, b3, b4, b5, b6, b7, b8, b9⟩ := h.k
  rcases man_c h a1 with ⟨i, hi, rfl, e1, e2⟩ | ⟨e1, e2⟩
  · obtain ⟨n, _, q1, q2⟩ := h.2.1.2.2.2.1 i (by omega)
    simp only [X11_left, X12_left, e1, e2, X9_leftOf, bo_s, bp_s, lp_s, b1_s, b2_s, b3_s, l1_s, l2_s, lt_e, Bool.false_eq_true, ↓reduceIte]
    rw [leftOf_c c2 c1 b9 (by omega), bo_s, spentBy_c (Or.inl rfl) (by omega), q1, q2, b8]
  · simp only [X11_left, X12_left, e1, e2, bo_s, bp_s, lp_s, b1_s, b2_s, b3_s, l1_s, l2_s, lt_e, Bool.false_eq_true, ↓reduceIte]
theorem p2_fault (a1 : Int32) : zStep RR (fun M => (dI M) (X11_fault a1 M)) (fun M => (dI M) (X12_fault a1 M)) := zs_II fun MX MM hR => by
  obtain ⟨b, mn, kd, bn, hr, h⟩ := hR
  obtain ⟨q1, q2, _⟩ := h.2.2.2.2.2.2.2
  simp only [X11_fault, X12_fault, X4_faultFound, X4_faultPlace, q1, q2]
theorem p2_about (a1 : Int32) : zStep RR (fun M => (dI M) (X11_about a1 M)) (fun M => (dO (dI M)) (X12_about a1 M)) := zs_I fun MX MM hR => by
  obtain ⟨b, mn, kd, bn, hr, h⟩ := hR
  obtain ⟨c1, ha1, ha2, a3, a4, a5, c2, b1, b2, b3, b4, b5, b6, b7, b8, b9⟩ := h.k
  obtain ⟨w, _, w1, w2⟩ := h.2.1.2.2.2.2.1
  obtain ⟨s, _, s1, s2⟩ := h.2.1.2.2.2.2.2
  obtain ⟨f, d, e, _, z1, z2, _, z3, z4, z5, z6, _⟩ := h.2.2.1
  obtain ⟨l, _, l1, l2, _⟩ := h.2.2.2.2.1
  obtain ⟨n, t, _, _, n1, n2, n3, n4, _⟩ := h.2.2.2.2.2.1
  obtain ⟨tp, _, t1, t2, _⟩ := h.2.2.2.2.2.2.1
  obtain ⟨u, len, F, D, _, u1, u2, _⟩ := h.1.2.2.2.2.2.2.2.2.2.2.2
  simp only [X11_about, X12_about, many_c c2 c1 b2, weekNow_c (Or.inl rfl), seedNow_c (Or.inl rfl), X0_undoable, X0_redoable, w1, w2, s1, s2, z3, z4, z5, z6, l1, l2, n1, n2, n3, n4, t1, t2, u1, u2, b1, b3, b5, b7, b8, c2, nI_sub z1, bo_s]
  rw [gd_in (by omega) (by omega), nI_clamp (by omega), b4, gd_in (by omega) (by omega), b6, gd_in (by omega) (by omega), gd_in (by omega) (by omega), b9, gd_in (by omega) (by omega), u2]
  simp only [ite_some]
