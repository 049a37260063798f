/-! ===== phase 2: the draft becomes the mill ===== -/
def SBe (a i : Nat) : Prop := (a = 23 ∧ i < 6) ∨ (24 ≤ a ∧ a ≤ 31) ∨ (a = 32 ∧ (i = 2 ∨ i = 3)) ∨ a = 33
theorem becomeM_c {M : Mem} : ∃ M', X3_become 23 4 M = some M' ∧ Fr SBe M M' ∧ (∀ i, i < 6 → M'.1 23 i = M.1 4 i) ∧ (∀ i, i < 5 → M'.1 24 i = M.1 5 i ∧ M'.1 25 i = M.1 6 i ∧ M'.1 26 i = M.1 7 i ∧ M'.1 31 i = M.1 12 i) ∧ (∀ i, i < 15 → M'.1 27 i = M.1 8 i ∧ M'.1 28 i = M.1 9 i) ∧ (∀ i, i < 9 → M'.1 29 i = M.1 10 i ∧ M'.1 30 i = M.1 11 i) ∧ M'.1 32 2 = M.1 13 2 ∧ M'.1 32 3 = M.1 13 3 ∧ ∀ i, i < 300 → M'.1 33 i = M.1 14 i := by
  obtain ⟨U, hU⟩ : ∃ U, U = uI (uI (uI (uI (uI (uI M 23 0 (M.1 4 0)) 23 1 (M.1 4 1)) 23 2 (M.1 4 2)) 23 3 (M.1 4 3)) 23 4 (M.1 4 4)) 23 5 (M.1 4 5) := ⟨_, rfl⟩
  have uM : ∀ a i, a ≠ 23 → U.1 a i = M.1 a i := fun a i z => by rw [hU, uI_ne (by omega), uI_ne (by omega), uI_ne (by omega), uI_ne (by omega), uI_ne (by omega), uI_ne (by omega)]
  obtain ⟨A1, hA1⟩ : ∃ A, A = uC U 5 24 0 0 5 := ⟨_, rfl⟩
  obtain ⟨A2, hA2⟩ : ∃ A, A = uC A1 6 25 0 0 5 := ⟨_, rfl⟩
  obtain ⟨A3, hA3⟩ : ∃ A, A = uC A2 7 26 0 0 5 := ⟨_, rfl⟩
  obtain ⟨A4, hA4⟩ : ∃ A, A = uC A3 8 27 0 0 15 := ⟨_, rfl⟩
  obtain ⟨A5, hA5⟩ : ∃ A, A = uC A4 9 28 0 0 15 := ⟨_, rfl⟩
  obtain ⟨A6, hA6⟩ : ∃ A, A = uC A5 10 29 0 0 9 := ⟨_, rfl⟩
  obtain ⟨A7, hA7⟩ : ∃ A, A = uC A6 11 30 0 0 9 := ⟨_, rfl⟩
  obtain ⟨A8, hA8⟩ : ∃ A, A = uC A7 12 31 0 0 5 := ⟨_, rfl⟩
  obtain ⟨A9, hA9⟩ : ∃ A, A = uC A8 14 33 0 0 300 := ⟨_, rfl⟩
  have low : ∀ a i, a < 23 → A9.1 a i = M.1 a i ∧ A8.1 a i = M.1 a i ∧ A7.1 a i = M.1 a i ∧ A6.1 a i = M.1 a i ∧ A5.1 a i = M.1 a i ∧ A4.1 a i = M.1 a i ∧ A3.1 a i = M.1 a i ∧ A2.1 a i = M.1 a i ∧ A1.1 a i = M.1 a i := fun a i z => by
    have b1 : A1.1 a i = M.1 a i := by rw [hA1, uC_g, if_neg (by omega), uM a i (by omega)]
    have b2 : A2.1 a i = M.1 a i := by rw [hA2, uC_g, if_neg (by omega), b1]
    have b3 : A3.1 a i = M.1 a i := by rw [hA3, uC_g, if_neg (by omega), b2]
    have b4 : A4.1 a i = M.1 a i := by rw [hA4, uC_g, if_neg (by omega), b3]
    have b5 : A5.1 a i = M.1 a i := by rw [hA5, uC_g, if_neg (by omega), b4]
    have b6 : A6.1 a i = M.1 a i := by rw [hA6, uC_g, if_neg (by omega), b5]
    have b7 : A7.1 a i = M.1 a i := by rw [hA7, uC_g, if_neg (by omega), b6]
    have b8 : A8.1 a i = M.1 a i := by rw [hA8, uC_g, if_neg (by omega), b7]
    exact ⟨by rw [hA9, uC_g, if_neg (by omega), b8], b8, b7, b6, b5, b4, b3, b2, b1⟩
  obtain ⟨M', hM'⟩ : ∃ M', M' = uI (uI A9 32 2 (M.1 13 2)) 32 3 (M.1 13 3) := ⟨_, rfl⟩
  have mA : ∀ a i, a ≠ 32 → M'.1 a i = A9.1 a i := fun a i z => by rw [hM', uI_ne (by omega), uI_ne (by omega)]
  refine ⟨M', ?_, ⟨by rw [hM', hA9, hA8, hA7, hA6, hA5, hA4, hA3, hA2, hA1, hU]; rfl, fun a i z => ?_⟩, fun i hi => ?_, fun i hi => ?_, fun i hi => ?_, fun i hi => ?_, ?_, ?_, fun i hi => ?_⟩
  · unfold X3_become X1_become
    rw [lt_e (uI M 23 0 (M.1 4 0)), show (uI M 23 0 (M.1 4 0)).1 4 1 = M.1 4 1 from rfl, lt_e (uI (uI M 23 0 (M.1 4 0)) 23 1 (M.1 4 1)), show (uI (uI M 23 0 (M.1 4 0)) 23 1 (M.1 4 1)).1 4 2 = M.1 4 2 from rfl, lt_e (uI (uI (uI M 23 0 (M.1 4 0)) 23 1 (M.1 4 1)) 23 2 (M.1 4 2)), show (uI (uI (uI M 23 0 (M.1 4 0)) 23 1 (M.1 4 1)) 23 2 (M.1 4 2)).1 4 3 = M.1 4 3 from rfl, lt_e (uI (uI (uI (uI M 23 0 (M.1 4 0)) 23 1 (M.1 4 1)) 23 2 (M.1 4 2)) 23 3 (M.1 4 3)), show (uI (uI (uI (uI M 23 0 (M.1 4 0)) 23 1 (M.1 4 1)) 23 2 (M.1 4 2)) 23 3 (M.1 4 3)).1 4 4 = M.1 4 4 from rfl, lt_e (uI (uI (uI (uI (uI M 23 0 (M.1 4 0)) 23 1 (M.1 4 1)) 23 2 (M.1 4 2)) 23 3 (M.1 4 3)) 23 4 (M.1 4 4)), show (uI (uI (uI (uI (uI M 23 0 (M.1 4 0)) 23 1 (M.1 4 1)) 23 2 (M.1 4 2)) 23 3 (M.1 4 3)) 23 4 (M.1 4 4)).1 4 5 = M.1 4 5 from rfl, lt_e (uI (uI (uI (uI (uI (uI M 23 0 (M.1 4 0)) 23 1 (M.1 4 1)) 23 2 (M.1 4 2)) 23 3 (M.1 4 3)) 23 4 (M.1 4 4)) 23 5 (M.1 4 5)), ← hU]
    rw [cpI (a := 4 + 1) (c := 23 + 1) (n := 5) (zlen_of aX_5) (zlen_of aX_24) (by omega), bo_s, ← hA1, cpI (a := 4 + 2) (c := 23 + 2) (n := 5) (zlen_of aX_6) (zlen_of aX_25) (by omega), bo_s, ← hA2, cpI (a := 4 + 3) (c := 23 + 3) (n := 5) (zlen_of aX_7) (zlen_of aX_26) (by omega), bo_s, ← hA3, cpI (a := 4 + 4) (c := 23 + 4) (n := 15) (zlen_of aX_8) (zlen_of aX_27) (by omega), bo_s, ← hA4, cpI (a := 4 + 5) (c := 23 + 5) (n := 15) (zlen_of aX_9) (zlen_of aX_28) (by omega), bo_s, ← hA5, cpI (a := 4 + 6) (c := 23 + 6) (n := 9) (zlen_of aX_10) (zlen_of aX_29) (by omega), bo_s, ← hA6, cpI (a := 4 + 7) (c := 23 + 7) (n := 9) (zlen_of aX_11) (zlen_of aX_30) (by omega), bo_s, ← hA7, cpI (a := 4 + 8) (c := 23 + 8) (n := 5) (zlen_of aX_12) (zlen_of aX_31) (by omega), bo_s, ← hA8, cpI (a := 4 + 9 + 1) (c := 23 + 9 + 1) (n := 300) (zlen_of aX_14) (zlen_of aX_33) (by omega), bo_s, ← hA9]
    rw [show (4 + 9 : Nat) = 13 from rfl, show (23 + 9 : Nat) = 32 from rfl, (low 13 2 (by omega)).1, lt_e (uI A9 32 2 (M.1 13 2)), show (uI A9 32 2 (M.1 13 2)).1 13 3 = M.1 13 3 from (low 13 3 (by omega)).1, lt_e, ← hM', bo_s]
  · unfold SBe at z
    rw [hM', uI_ne (by omega), uI_ne (by omega), hA9, uC_g, if_neg (by omega), hA8, uC_g, if_neg (by omega), hA7, uC_g, if_neg (by omega), hA6, uC_g, if_neg (by omega), hA5, uC_g, if_neg (by omega), hA4, uC_g, if_neg (by omega), hA3, uC_g, if_neg (by omega), hA2, uC_g, if_neg (by omega), hA1, uC_g, if_neg (by omega), hU, uI_ne (by omega), uI_ne (by omega), uI_ne (by omega), uI_ne (by omega), uI_ne (by omega), uI_ne (by omega)]
  · rw [mA 23 i (by omega), hA9, uC_g, if_neg (by omega), hA8, uC_g, if_neg (by omega), hA7, uC_g, if_neg (by omega), hA6, uC_g, if_neg (by omega), hA5, uC_g, if_neg (by omega), hA4, uC_g, if_neg (by omega), hA3, uC_g, if_neg (by omega), hA2, uC_g, if_neg (by omega), hA1, uC_g, if_neg (by omega), hU]
    rcases (by omega : i = 0 ∨ i = 1 ∨ i = 2 ∨ i = 3 ∨ i = 4 ∨ i = 5) with rfl | rfl | rfl | rfl | rfl | rfl <;> rfl
  · refine ⟨?_, ?_, ?_, ?_⟩
    · rw [mA 24 i (by omega), hA9, uC_g, if_neg (by omega), hA8, uC_g, if_neg (by omega), hA7, uC_g, if_neg (by omega), hA6, uC_g, if_neg (by omega), hA5, uC_g, if_neg (by omega), hA4, uC_g, if_neg (by omega), hA3, uC_g, if_neg (by omega), hA2, uC_g, if_neg (by omega), hA1, uC_g, if_pos ⟨rfl, hi⟩, uM 5 i (by omega)]
    · rw [mA 25 i (by omega), hA9, uC_g, if_neg (by omega), hA8, uC_g, if_neg (by omega), hA7, uC_g, if_neg (by omega), hA6, uC_g, if_neg (by omega), hA5, uC_g, if_neg (by omega), hA4, uC_g, if_neg (by omega), hA3, uC_g, if_neg (by omega), hA2, uC_g, if_pos ⟨rfl, hi⟩, (low 6 i (by omega)).2.2.2.2.2.2.2.2]
    · rw [mA 26 i (by omega), hA9, uC_g, if_neg (by omega), hA8, uC_g, if_neg (by omega), hA7, uC_g, if_neg (by omega), hA6, uC_g, if_neg (by omega), hA5, uC_g, if_neg (by omega), hA4, uC_g, if_neg (by omega), hA3, uC_g, if_pos ⟨rfl, hi⟩, (low 7 i (by omega)).2.2.2.2.2.2.2.1]
    · rw [mA 31 i (by omega), hA9, uC_g, if_neg (by omega), hA8, uC_g, if_pos ⟨rfl, hi⟩, (low 12 i (by omega)).2.2.1]
  · refine ⟨?_, ?_⟩
    · rw [mA 27 i (by omega), hA9, uC_g, if_neg (by omega), hA8, uC_g, if_neg (by omega), hA7, uC_g, if_neg (by omega), hA6, uC_g, if_neg (by omega), hA5, uC_g, if_neg (by omega), hA4, uC_g, if_pos ⟨rfl, hi⟩, (low 8 i (by omega)).2.2.2.2.2.2.1]
    · rw [mA 28 i (by omega), hA9, uC_g, if_neg (by omega), hA8, uC_g, if_neg (by omega), hA7, uC_g, if_neg (by omega), hA6, uC_g, if_neg (by omega), hA5, uC_g, if_pos ⟨rfl, hi⟩, (low 9 i (by omega)).2.2.2.2.2.1]
  · refine ⟨?_, ?_⟩
    · rw [mA 29 i (by omega), hA9, uC_g, if_neg (by omega), hA8, uC_g, if_neg (by omega), hA7, uC_g, if_neg (by omega), hA6, uC_g, if_pos ⟨rfl, hi⟩, (low 10 i (by omega)).2.2.2.2.1]
    · rw [mA 30 i (by omega), hA9, uC_g, if_neg (by omega), hA8, uC_g, if_neg (by omega), hA7, uC_g, if_pos ⟨rfl, hi⟩, (low 11 i (by omega)).2.2.2.1]
  · rw [hM', uI_ne (by omega), uI_eq]
  · rw [hM', uI_eq]
  · rw [mA 33 i (by omega), hA9, uC_g, if_pos ⟨rfl, hi⟩, (low 14 i (by omega)).2.1]
/-- what the draft was told is what the mill is told -/
theorem RM.cp {X X' V V' : Nat → Nat → Int32} {b mn kd bn hr : Nat} (h : RM X 4 V b mn kd bn hr) (c23 : ∀ i, i < 6 → X' 23 i = X 4 i) (c5 : ∀ i, i < 5 → X' 24 i = X 5 i ∧ X' 25 i = X 6 i ∧ X' 26 i = X 7 i ∧ X' 31 i = X 12 i) (c15 : ∀ i, i < 15 → X' 27 i = X 8 i ∧ X' 28 i = X 9 i) (c9 : ∀ i, i < 9 → X' 29 i = X 10 i ∧ X' 30 i = X 11 i) (f2 : X' 32 2 = X 13 2) (f3 : X' 32 3 = X 13 3) (fc : ∀ i, i < 300 → X' 33 i = X 14 i) (v : ∀ a i, 3 ≤ a → a ≤ 29 → V' a i = V a i) : RM X' 23 V' b mn kd bn hr := by
  have h' := h.cg (X' := X) (V' := V') (fun _ _ _ _ => rfl) v
  obtain ⟨⟨h1, h2, h3, h4, h5⟩, ⟨m1, m2, m3, m4, m5, m6, m7, m8, m9⟩, ⟨d, d1, d2, d3⟩, k1, ⟨mask, q1, q2, q3⟩, hd, r1, r2, r3, r4, r5, u, len, F, D, g1, g2, g3, g4, g5, g6, g8, g9, g10⟩ := h'
  refine ⟨⟨h1, h2, h3, h4, h5⟩, ⟨(c23 0 (by omega)).trans m1, m2, (c23 1 (by omega)).trans m3, m4, (c23 2 (by omega)).trans m5, m6, (c23 3 (by omega)).trans m7, (c23 4 (by omega)).trans m8, m9⟩, ⟨d, d1, (c23 5 (by omega)).trans d2, d3⟩, fun i hi => ?_, ⟨mask, q1, q2, fun i hi => ?_⟩, fun i hi => ?_, fun i k hi hk => ?_, fun j j1 j2 => ?_, fun i k hi hk => ?_, fun r hr => ?_, fun i hi => ?_, u, len, F, D, g1, f3.trans g2, g3, f2.trans g4, g5, g6, g8, g9, fun i hi => ?_⟩
  · exact ((c5 i (by omega)).1).trans (k1 i hi)
  · exact ((c5 i (by omega)).2.1).trans (q3 i hi)
  · exact ((c5 i (by omega)).2.2.1).trans (hd i hi)
  · obtain ⟨x, x1, x2, x3⟩ := r1 i k hi hk
    exact ⟨x, x1, ((c15 (3 * i + k) (by omega)).1).trans x2, x3⟩
  · exact ((c15 j j1).1).trans (r2 j j1 j2)
  · obtain ⟨x, x1, x2, x3⟩ := r3 i k hi hk
    exact ⟨x, x1, ((c15 (3 * i + k) (by omega)).2).trans x2, x3⟩
  · obtain ⟨x, x1, x2, x3, x4⟩ := r4 r hr
    refine ⟨x, x1, ((c9 r hr).1).trans x2, x3, fun y => ?_⟩
    obtain ⟨z, z1, z2, z3, z4⟩ := x4 y
    exact ⟨z, z1, z2, ((c9 r hr).2).trans z3, z4⟩
  · exact ((c5 i (by omega)).2.2.2).trans (r5 i hi)
  · show PC (X' 33 i) _ _ _ _
    rw [fc i (by omega)]
    exact g10 i hi
def SBg (a i : Nat) : Prop := a = 36 ∧ i < 42
theorem begin35_c {M : Mem} {mn : Nat} (h23 : M.1 23 0 = nI mn) (hmn : mn ≤ 5) : ∃ M', X9_begin 35 M = some M' ∧ Fr SBg M M' ∧ (∀ j, j < 15 → M'.1 36 j = M.1 27 j) ∧ (∀ j, 15 ≤ j → j < 30 → M'.1 36 j = 0) ∧ (∀ i, i < mn → M'.1 36 (30 + i) = M.1 24 i) ∧ (∀ j, 30 + mn ≤ j → j < 41 → M'.1 36 j = 0) ∧ M'.1 36 41 = M.1 23 5 := by
  have z36 : zlen zTX 36 = 42 := zlen_of aX_36
  have z27 : zlen zTX 27 = 15 := zlen_of aX_27
  have z24 : zlen zTX 24 = 5 := zlen_of aX_24
  obtain ⟨A, eA, fA, gA⟩ := wr1_loop (X9_begin_L1 35) M 36 0 42 (fun _ => 0) (by omega) (fun N s _ => by rw [X9_begin_L1, if_pos (by decide)]) (fun N i s hi _ => by
    rw [X9_begin_L1, if_neg (show ¬ (42 : Int32) ≤ nI i from nI_ge (b := 42) hi (by omega)), show (35 + 1 : Nat) = 36 from rfl, xp_in (by rw [z36]; omega), lt_e, show nI i + 1 = nI (i + 1) from nI_add i 1, Nat.zero_add])
  obtain ⟨B, eB, fB, gB⟩ := wr1_loop (X9_begin_L2 35) A 36 0 15 (fun i => A.1 27 i) (by omega) (fun N s _ => by rw [X9_begin_L2, if_pos (by decide)]) (fun N i s hi hs => by
    rw [X9_begin_L2, if_neg (show ¬ (15 : Int32) ≤ nI i from nI_ge (b := 15) hi (by omega)), show (35 + 1 : Nat) = 36 from rfl, xc_in (by rw [z27]; omega), xp_in (by rw [z36]; omega), lt_e, show nI i + 1 = nI (i + 1) from nI_add i 1, Nat.zero_add, hs 27 i (by decide)])
  have b23 : B.1 23 0 = nI mn := by rw [fB.2 23 0 (by omega), fA.2 23 0 (by omega), h23]
  obtain ⟨C, eC, fC, gC⟩ := wr1_loop (X9_begin_L3 35) B 36 30 mn (fun i => B.1 24 i) (by omega) (fun N s hs => by rw [X9_begin_L3, hs 23 0 (by decide), b23, if_pos (nI_le (by omega) (by omega))]) (fun N i s hi hs => by
    rw [X9_begin_L3, hs 23 0 (by decide), b23, if_neg (nI_ge hi (by omega)), show (35 + 1 : Nat) = 36 from rfl, xc_in (by rw [z24]; omega), show (30 : Int32) + nI i = nI (30 + i) from nI_add 30 i, xp_in (by rw [z36]; omega), lt_e, show nI i + 1 = nI (i + 1) from nI_add i 1, hs 24 i (by decide)])
  have c23 : C.1 23 5 = M.1 23 5 := by rw [fC.2 23 5 (by omega), fB.2 23 5 (by omega), fA.2 23 5 (by omega)]
  refine ⟨uI C 36 41 (M.1 23 5), ?_, ?_, fun j hj => ?_, fun j j1 j2 => ?_, fun i hi => ?_, fun j j1 j2 => ?_, uI_eq _ _ _ _⟩
  · unfold X9_begin
    rw [show X9_begin_L1 35 zFU 0 M = some A from eA, b1_s, show X9_begin_L2 35 zFU 0 A = some B from eB, b1_s, show X9_begin_L3 35 zFU 0 B = some C from eC, b1_s, c23, show (41 : Int32) = nI 41 from rfl, show (35 + 1 : Nat) = 36 from rfl, xp_in (by rw [z36]; omega), lt_e]
  · have f := ((fA.wk (T := SBg) (fun a i z => ⟨z.1, by omega⟩)).tr (fB.wk (fun a i z => ⟨z.1, by omega⟩))).tr (fC.wk (fun a i z => ⟨z.1, by omega⟩))
    exact f.up _ ⟨rfl, by omega⟩
  · have := gB j hj
    rw [Nat.zero_add] at this
    rw [uI_ne (by omega), fC.2 36 j (by omega), this, fA.2 27 j (by omega)]
  · have := gA j (by omega)
    rw [Nat.zero_add] at this
    rw [uI_ne (by omega), fC.2 36 j (by omega), fB.2 36 j (by omega), this]
  · rw [uI_ne (by omega), gC i hi, fB.2 24 i (by omega), fA.2 24 i (by omega)]
  · have := gA j (by omega)
    rw [Nat.zero_add] at this
    rw [uI_ne (by omega), fC.2 36 j (by omega), fB.2 36 j (by omega), this]
theorem forget0_c {M : Mem} : ∃ M', X0_forget M = some M' ∧ Fr (fun a i => (a = 39 ∧ (i = 2 ∨ i = 3 ∨ i = 4)) ∨ a = 40) M M' ∧ M'.1 39 2 = 0 ∧ M'.1 39 3 = 0 ∧ M'.1 39 4 = 0 ∧ ∀ j, j < 42 → M'.1 40 j = M.1 36 j := by
  obtain ⟨U, hU⟩ : ∃ U, U = uI (uI (uI M 39 2 0) 39 3 0) 39 4 0 := ⟨_, rfl⟩
  have uM : ∀ a i, a ≠ 39 → U.1 a i = M.1 a i := fun a i z => by rw [hU, uI_ne (by omega), uI_ne (by omega), uI_ne (by omega)]
  obtain ⟨A, eA, fA, gA⟩ := save_c (M := U) (a := 40) (s := 0) (N := 41) (by rw [show zlen zTX 40 = 1722 from zlen_of aX_40]) (by omega) (by omega) (by omega)
  refine ⟨A, ?_, ⟨by rw [fA.1, hU]; rfl, fun a i z => ?_⟩, ?_, ?_, ?_, fun j hj => ?_⟩
  · unfold X0_forget
    rw [lt_e (uI M 39 2 0), lt_e (uI (uI M 39 2 0) 39 3 0), lt_e (uI (uI (uI M 39 2 0) 39 3 0) 39 4 0), ← hU, show X9_saveTo 35 40 0 U = some A from eA, bo_s]
  · rw [fA.2 a i (by omega), hU, uI_ne (by omega), uI_ne (by omega), uI_ne (by omega)]
  · rw [fA.2 39 2 (by omega), hU]; rfl
  · rw [fA.2 39 3 (by omega), hU]; rfl
  · rw [fA.2 39 4 (by omega), hU]; rfl
  · have := gA j hj
    rw [Nat.mul_zero, Nat.zero_add] at this
    rw [this, uM 36 j (by omega)]
