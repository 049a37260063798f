/-! ===== phase 2: the formula: a unit ===== -/
noncomputable def uM4 (y11 : Int32) (b12 : Bool) (y13 : Int32) (M36 : Mem) : Option (Bool × Mem) :=
  if (X12_isGood M36) = true then
    gd_ (inb (M36.1 0 42) (2) = true) (
    l1_ (α := Int32) (
      if y11 = 0 then
        1
      else
      0) fun y40 =>
    lt_ (uI M36 7 ((M36.1 0 42).toNatClampNeg) ((M36.1 7 ((M36.1 0 42).toNatClampNeg)) + y40)) fun M41 =>
    l1_ (α := Int32) (
      if y11 = 0 then
        1
      else
      0) fun y43 =>
    lt_ (uI M41 0 46 ((M41.1 0 46) + y43)) fun M44 =>
    l1_ (α := Int32) (
      if y13 = 0 then
        M44.1 0 9
      else
      0) fun y46 =>
    bo_ (X12_goOn M44) fun M47 =>
    l1_ (α := Bool) (
      if y11 = 0 then
        if b12 = true then
          true
        else
        false
      else
      true) fun t50 =>
    if t50 = true then
      l1_ (α := Int32) (
        if y11 = 0 then
          7
        else
        3) fun y53 =>
      bo_ (X12_pushE y53 126 M47) fun M54 =>
      lt_ (uI M54 0 44 ((M54.1 0 44) + 1)) fun M55 =>
      some (true, M55)
    else
    l1_ (α := Int32) (
      if y13 = 0 then
        110
      else
      y13) fun y57 =>
    bo_ (X12_emit y57 y46 M47) fun M58 =>
    some (false, M58))
  else
  some (true, M36)
noncomputable def uM3 (y11 : Int32) (b12 : Bool) (y13 : Int32) (y19 : Int32) (M : Mem) : Option (Bool × Mem) :=
  l1_ (α := Mem) (
    l1_ (α := Bool) (
      if y11 = 0 then
        if y13 = 0 then
          if (M.1 0 8) = 4 then
            if y19 = 0 then
              true
            else
            false
          else
          if b12 = true then
            if y19 = 0 then
              true
            else
            false
          else
          false
        else
        if y19 = 0 then
          true
        else
        false
      else
      true) fun t27 =>
    if t27 = true then
      l1_ (α := Bool) (
        if y11 = 0 then
          if b12 = true then
            true
          else
          false
        else
        true) fun t31 =>
      if t31 = true then
        if (M.1 0 44) = 7 then
          lt_ (X12_misplaced M) fun M34 =>
          M34
        else
        M
      else
      M
    else
    lt_ (X12_misplaced M) fun M35 =>
    M35) fun M36 =>
  uM4 y11 b12 y13 M36
noncomputable def uM2 (y11 : Int32) (M : Mem) : Option (Bool × Mem) :=
  bo_ (X12_isSignHere 40 M) fun b12 =>
  lt_ (α := Int32) ((X12_wordHere M)) fun y13 =>
  gd_ (inb (M.1 0 42) (2) = true) (
  l1_ (α := Int32) (
    l1_ (α := Bool) (
      if (M.1 7 ((M.1 0 42).toNatClampNeg)) = 60 then
        true
      else
      if (M.1 0 46) = 30 then
        true
      else
      false) fun t17 =>
    if t17 = true then
      1
    else
    0) fun y19 =>
  uM3 y11 b12 y13 y19 M)
theorem unit_e (M : Mem) : X12_unit M = gd_ (inb ((M.1 0 45) - 1) (90) = true) (
  l1_ (α := Int32) (
    l1_ (α := Bool) (
      if (M.1 30 (((M.1 0 45) - 1).toNatClampNeg)) ≤ 3 then
        true
      else
      if (M.1 30 (((M.1 0 45) - 1).toNatClampNeg)) < 7 then
        false
      else
      true) fun t4 =>
    if t4 = true then
      1
    else
    0) fun y6 =>
  l1_ (α := Int32) (
    l1_ (α := Bool) (
      if y6 = 0 then
        true
      else
      if (X12_isWord 7237492 M) = true then
        false
      else
      true) fun t9 =>
    if t9 = true then
      0
    else
    1) fun y11 => uM2 y11 M) := rfl
/-- the reference's unit where a not may stand, or may not -/
theorem unit1_c {M : Mem} {B t : Nat} (h45 : M.1 0 45 = nI B) (hB : 1 ≤ B) (hB2 : B ≤ 90) (ht : M.1 30 (B - 1) = nI t) (ht8 : t ≤ 8) : X12_unit M = uM2 (if (t ≤ 3 ∨ 7 ≤ t) ∧ X12_isWord 7237492 M = true then 1 else 0) M := by
  rw [unit_e, h45, show nI B - 1 = nI (B - 1) from nI_sub (b := 1) hB, gd_in (by omega) (by omega), nI_clamp (by omega), ht]
  by_cases z : t ≤ 3
  · rw [if_pos (show nI t ≤ 3 from nI_le (b := 3) z (by omega))]
    show uM2 (if (if (1 : Int32) = 0 then true else if X12_isWord 7237492 M = true then false else true) = true then 0 else 1) M = _
    rw [if_neg (show ¬ (1 : Int32) = 0 by decide)]
    cases hw : X12_isWord 7237492 M with
    | true => rw [if_pos rfl, if_neg Bool.false_ne_true, if_pos ⟨Or.inl z, rfl⟩]
    | false => rw [if_neg Bool.false_ne_true, if_pos rfl, if_neg (fun y => Bool.false_ne_true y.2)]
  · rw [if_neg (show ¬ nI t ≤ 3 from nI_ge (a := 3) (by omega) (by omega))]
    by_cases y : t < 7
    · rw [if_pos (show nI t < 7 from nI_lt (b := 7) y (by omega)), if_neg (show ¬ ((t ≤ 3 ∨ 7 ≤ t) ∧ X12_isWord 7237492 M = true) from fun w => by have := w.1; omega)]
      rfl
    · rw [if_neg (show ¬ nI t < 7 from nI_nlt (b := 7) (by omega) (by omega))]
      show uM2 (if (if (1 : Int32) = 0 then true else if X12_isWord 7237492 M = true then false else true) = true then 0 else 1) M = _
      rw [if_neg (show ¬ (1 : Int32) = 0 by decide)]
      cases hw : X12_isWord 7237492 M with
      | true => rw [if_pos rfl, if_neg Bool.false_ne_true, if_pos ⟨Or.inr (by omega), rfl⟩]
      | false => rw [if_neg Bool.false_ne_true, if_pos rfl, if_neg (fun y => Bool.false_ne_true y.2)]
theorem uM2_c {M : Mem} {y11 y13 : Int32} {b : Bool} {w u : Nat} (hb : X12_isSignHere 40 M = some b) (hy : X12_wordHere M = y13) (h42 : M.1 0 42 = nI w) (hw : w ≤ 1) (h7 : M.1 7 w = nI u) (h46 : M.1 0 46 = nI u) (hu : u ≤ 30) : uM2 y11 M = uM3 y11 b y13 (if u = 30 then 1 else 0) M := by
  unfold uM2
  rw [hb, bo_s, hy, lt_e, h42, gd_in (by omega) (by omega), nI_clamp (by omega), h7, h46, if_neg (show ¬ nI u = 60 from fun y => by have := (nI_eq (b := 60) (by omega) (by omega)).mp y; omega)]
  by_cases z : u = 30
  · rw [if_pos (show nI u = 30 by rw [z]; rfl), if_pos z, l1_s, l1_s, if_pos rfl]
  · rw [if_neg (show ¬ nI u = 30 from fun y => z ((nI_eq (b := 30) (by omega) (by omega)).mp y)), if_neg z, l1_s, l1_s, if_neg Bool.false_ne_true]
theorem uM3_num {M : Mem} (h8 : M.1 0 8 = 4) : uM3 0 false 0 0 M = uM4 0 false 0 M := by
  unfold uM3
  rw [if_pos rfl, if_pos rfl, if_pos h8, if_pos rfl, if_pos rfl, if_neg Bool.false_ne_true]
  rfl
theorem uM3_word {M : Mem} {y : Int32} (hy : ¬ y = 0) : uM3 0 false y 0 M = uM4 0 false y M := by
  unfold uM3
  rw [if_pos rfl, if_neg hy, if_pos rfl, if_pos rfl, if_neg Bool.false_ne_true]
  rfl
theorem uM3_par {M : Mem} (h8 : ¬ M.1 0 8 = 4) (h44 : ¬ M.1 0 44 = 7) : uM3 0 true 0 0 M = uM4 0 true 0 M := by
  unfold uM3
  rw [if_pos rfl, if_pos rfl, if_neg h8, if_pos rfl, if_pos rfl, if_pos rfl, if_pos rfl, if_neg h44]
  rfl
theorem uM3_par7 {M : Mem} (h8 : ¬ M.1 0 8 = 4) (h44 : M.1 0 44 = 7) : uM3 0 true 0 0 M = uM4 0 true 0 (X12_misplaced M) := by
  unfold uM3
  rw [if_pos rfl, if_pos rfl, if_neg h8, if_pos rfl, if_pos rfl, if_pos rfl, if_pos rfl, if_pos h44]
  rfl
theorem uM3_full {M : Mem} {b : Bool} {y : Int32} : uM3 0 b y 1 M = uM4 0 b y (X12_misplaced M) := by
  unfold uM3
  have e : (if (0 : Int32) = 0 then if y = 0 then if M.1 0 8 = 4 then if (1 : Int32) = 0 then true else false else if b = true then if (1 : Int32) = 0 then true else false else false else if (1 : Int32) = 0 then true else false else true) = false := by
    rw [if_pos rfl, if_neg (show ¬ (1 : Int32) = 0 by decide)]
    split
    · split
      · rfl
      · split <;> rfl
    · rfl
  rw [e]
  rfl
theorem uM3_oth {M : Mem} {y19 : Int32} (h8 : ¬ M.1 0 8 = 4) : uM3 0 false 0 y19 M = uM4 0 false 0 (X12_misplaced M) := by
  unfold uM3
  rw [if_pos rfl, if_pos rfl, if_neg h8, if_neg Bool.false_ne_true]
  rfl
theorem uM3_not {M : Mem} {b : Bool} {y19 y : Int32} (h44 : ¬ M.1 0 44 = 7) : uM3 1 b y y19 M = uM4 1 b y M := by
  unfold uM3
  rw [if_neg (show ¬ (1 : Int32) = 0 by decide), if_neg (show ¬ (1 : Int32) = 0 by decide), if_neg h44]
  rfl
theorem uM3_not7 {M : Mem} {b : Bool} {y19 y : Int32} (h44 : M.1 0 44 = 7) : uM3 1 b y y19 M = uM4 1 b y (X12_misplaced M) := by
  unfold uM3
  rw [if_neg (show ¬ (1 : Int32) = 0 by decide), if_neg (show ¬ (1 : Int32) = 0 by decide), if_pos h44]
  rfl
theorem uM4_bad {MX M : Mem} {b : Bool} {y11 y13 : Int32} (h : BD MX M) : uM4 y11 b y13 M = some (true, M) := by
  unfold uM4
  rw [h.bad, if_neg Bool.false_ne_true]
theorem uM4_leaf {M : Mem} {y13 : Int32} {w u : Nat} (hg : X12_isGood M = true) (h42 : M.1 0 42 = nI w) (hw : w ≤ 1) (h7 : M.1 7 w = nI u) (h46 : M.1 0 46 = nI u) : uM4 0 false y13 M = bo_ (X12_goOn (uI (uI M 7 w (nI (u + 1))) 0 46 (nI (u + 1)))) fun M47 => bo_ (X12_emit (if y13 = 0 then 110 else y13) (if y13 = 0 then M.1 0 9 else 0) M47) fun M58 => some (false, M58) := by
  unfold uM4
  rw [if_pos hg, h42, gd_in (by omega) (by omega), nI_clamp (by omega), if_pos rfl, if_pos rfl, if_neg Bool.false_ne_true, l1_s, h7, show nI u + 1 = nI (u + 1) from nI_add u 1, lt_e (uI M 7 w (nI (u + 1))), l1_s, show (uI M 7 w (nI (u + 1))).1 0 46 = nI u from h46, show nI u + 1 = nI (u + 1) from nI_add u 1, lt_e (uI (uI M 7 w (nI (u + 1))) 0 46 (nI (u + 1))), l1_s]
  rfl
theorem uM4_par {M : Mem} {w u : Nat} (hg : X12_isGood M = true) (h42 : M.1 0 42 = nI w) (hw : w ≤ 1) (h7 : M.1 7 w = nI u) (h46 : M.1 0 46 = nI u) : uM4 0 true 0 M = bo_ (X12_goOn (uI (uI M 7 w (nI (u + 1))) 0 46 (nI (u + 1)))) fun M47 => bo_ (X12_pushE 7 126 M47) fun M54 => lt_ (uI M54 0 44 ((M54.1 0 44) + 1)) fun M55 => some (true, M55) := by
  unfold uM4
  rw [if_pos hg, h42, gd_in (by omega) (by omega), nI_clamp (by omega), if_pos rfl, if_pos rfl, if_pos rfl, l1_s, h7, show nI u + 1 = nI (u + 1) from nI_add u 1, lt_e (uI M 7 w (nI (u + 1))), l1_s, show (uI M 7 w (nI (u + 1))).1 0 46 = nI u from h46, show nI u + 1 = nI (u + 1) from nI_add u 1, lt_e (uI (uI M 7 w (nI (u + 1))) 0 46 (nI (u + 1))), l1_s]
  rfl
theorem uM4_not {M : Mem} {b : Bool} {y13 : Int32} {w u : Nat} (hg : X12_isGood M = true) (h42 : M.1 0 42 = nI w) (hw : w ≤ 1) (h7 : M.1 7 w = nI u) (h46 : M.1 0 46 = nI u) : uM4 1 b y13 M = bo_ (X12_goOn (uI (uI M 7 w (nI u)) 0 46 (nI u))) fun M47 => bo_ (X12_pushE 3 126 M47) fun M54 => lt_ (uI M54 0 44 ((M54.1 0 44) + 1)) fun M55 => some (true, M55) := by
  unfold uM4
  rw [if_pos hg, h42, gd_in (by omega) (by omega), nI_clamp (by omega), if_neg (show ¬ (1 : Int32) = 0 by decide), if_neg (show ¬ (1 : Int32) = 0 by decide), l1_s, h7, show nI u + 0 = nI u from nI_add u 0, lt_e (uI M 7 w (nI u)), l1_s, show (uI M 7 w (nI u)).1 0 46 = nI u from h46, show nI u + 0 = nI u from nI_add u 0, lt_e (uI (uI M 7 w (nI u)) 0 46 (nI u)), l1_s]
  rfl
theorem WC_32 : WC 32 = 7237492 := by decide +kernel
theorem WC_33 : WC 33 = 439855772532 := by decide +kernel
theorem WC_34 : WC 34 = 126879297138276 := by decide +kernel
theorem WC_35 : WC 35 = 499967947364 := by decide +kernel
theorem WC_36 : WC 36 = 1668444016 := by decide +kernel
theorem WC_37 : WC 37 = 2003133803 := by decide +kernel
theorem WC_38 : WC 38 = 1886154612 := by decide +kernel
/-- what stands where a unit is wanted -/
def UT (MX MM : Mem) (p q : Nat) : Prop :=
  (p < q ∧ ¬ MX.1 16 1 = 40 ∧ X12_isSignHere 40 MM = some false ∧ X12_isWord 7237492 MM = false ∧ ((X12_wordHere MM = 0 ∧ MM.1 0 8 = 4 ∧ ∃ v, v ≤ 9999 ∧ X2_leafTold MX = some (nI v) ∧ MM.1 0 9 = nI v) ∨ ∃ j, j < 6 ∧ X2_leafTold MX = some (nI (10000 + j)) ∧ X12_wordHere MM = nI (zLet j))) ∨
  (p < q ∧ MX.1 16 1 = 40 ∧ X12_isSignHere 40 MM = some true ∧ X12_isWord 7237492 MM = false ∧ X12_wordHere MM = 0 ∧ ¬ MM.1 0 8 = 4) ∨
  (¬ MX.1 16 1 = 40 ∧ X12_isSignHere 40 MM = some false ∧ X2_leafTold MX = some (-1) ∧ X12_wordHere MM = 0 ∧ ¬ MM.1 0 8 = 4 ∧ (X12_isWord 7237492 MM = true → p < q))
theorem unit_tok {MX MM : Mem} {n : Nat} {tx : Nat → Nat} {p q : Nat} (h : AT MX MM n tx p q) : UT MX MM p q := by
  have s40 : X12_isSignHere 40 MM = some (decide (MX.1 16 1 = 40)) := sgn_c h (c := 40) (by unfold SGN; omega)
  have w33 := word_c h (w := 33) (by omega)
  have w34 := word_c h (w := 34) (by omega)
  have w35 := word_c h (w := 35) (by omega)
  have w36 := word_c h (w := 36) (by omega)
  have w37 := word_c h (w := 37) (by omega)
  have w38 := word_c h (w := 38) (by omega)
  rw [WC_33] at w33
  rw [WC_34] at w34
  rw [WC_35] at w35
  rw [WC_36] at w36
  rw [WC_37] at w37
  rw [WC_38] at w38
  have hl : ¬ MX.1 16 1 = 3 → X2_leafTold MX = some (if X12_isWord 439855772532 MM = true then 10000 else if X12_isWord 126879297138276 MM = true then 10001 else if X12_isWord 499967947364 MM = true then 10002 else if X12_isWord 1668444016 MM = true then 10003 else if X12_isWord 2003133803 MM = true then 10004 else if X12_isWord 1886154612 MM = true then 10005 else -1) := fun z => by
    unfold X2_leafTold
    rw [if_neg z, w33, w34, w35, w36, w37, w38]
    simp only [bo_s, ite_some]
  have nw : ∀ x : Int64, MM.1 0 8 ≠ 3 → X12_isWord x MM = false := fun x z => Bool.eq_false_iff.mpr fun y => z (isWord_l.mp y).1
  have oth : ∀ c : Nat, c ≤ 255 → c ≠ 40 → c ≠ 3 → MX.1 16 1 = nI c → MM.1 0 8 ≠ 3 → MM.1 0 8 ≠ 4 → UT MX MM p q := fun c hc h40 h3 e z z4 => by
    have n40 : ¬ MX.1 16 1 = 40 := fun y => h40 ((nI_eq (b := 40) (by omega) (by omega)).mp (e.symm.trans y))
    have n3 : ¬ MX.1 16 1 = 3 := fun y => h3 ((nI_eq (b := 3) (by omega) (by omega)).mp (e.symm.trans y))
    refine Or.inr (Or.inr ⟨n40, by rw [s40, decide_eq_false n40], ?_, ?_, z4, fun y => by rw [nw _ z] at y; exact absurd y Bool.false_ne_true⟩)
    · rw [hl n3, nw _ z, nw _ z, nw _ z, nw _ z, nw _ z, nw _ z]
      rfl
    · unfold X12_wordHere
      rw [nw _ z, nw _ z, nw _ z, nw _ z, nw _ z, nw _ z]
      rfl
  obtain ⟨h1, h2, h3, h4, h5, h6⟩ := h
  have hn := h5.1
  rcases h6 with ⟨_, _, a, b⟩ | ⟨_, _, a, b⟩ | ⟨hW, a, _, b, c'⟩ | ⟨pq, _, a, b, v, v1, v2, v3⟩ | ⟨a0, aq, s, a, b⟩
  · exact oth 0 (by omega) (by omega) (by omega) a (by rw [b]; decide) (by rw [b]; decide)
  · exact oth 1 (by omega) (by omega) (by omega) a (by rw [b]; decide) (by rw [b]; decide)
  · have hpq := hW.1
    have n40 : ¬ MX.1 16 1 = 40 := by rw [a]; decide
    have n3 : ¬ MX.1 16 1 = 3 := by rw [a]; decide
    have s40' : X12_isSignHere 40 MM = some false := by rw [s40, decide_eq_false n40]
    have z4 : ¬ MM.1 0 8 = 4 := by rcases c' with ⟨_, c⟩ | ⟨_, c⟩ <;> rw [c] <;> decide
    have ex : ∀ x y : Int64, X12_isWord x MM = true → x ≠ y → X12_isWord y MM = false := fun x y e ne => Bool.eq_false_iff.mpr fun e2 => ne ((isWord_l.mp e).2.symm.trans (isWord_l.mp e2).2)
    have hl' := hl n3
    have one : ∀ (x : Int64) (j : Nat), X12_isWord x MM = true → x ≠ 7237492 → j < 6 → X2_leafTold MX = some (nI (10000 + j)) → X12_wordHere MM = nI (zLet j) → UT MX MM p q := fun x j e ne hj k1 k2 => Or.inl ⟨hpq, n40, s40', ex x _ e ne, Or.inr ⟨j, hj, k1, k2⟩⟩
    unfold X12_wordHere at one
    cases e1 : X12_isWord 439855772532 MM with
    | true => exact one _ 0 e1 (by decide) (by omega) (by rw [hl', e1]; rfl) (by rw [e1]; rfl)
    | false =>
      cases e2 : X12_isWord 126879297138276 MM with
      | true => exact one _ 1 e2 (by decide) (by omega) (by rw [hl', e1, e2]; rfl) (by rw [e1, e2]; rfl)
      | false =>
        cases e3 : X12_isWord 499967947364 MM with
        | true => exact one _ 2 e3 (by decide) (by omega) (by rw [hl', e1, e2, e3]; rfl) (by rw [e1, e2, e3]; rfl)
        | false =>
          cases e4 : X12_isWord 1668444016 MM with
          | true => exact one _ 3 e4 (by decide) (by omega) (by rw [hl', e1, e2, e3, e4]; rfl) (by rw [e1, e2, e3, e4]; rfl)
          | false =>
            cases e5 : X12_isWord 2003133803 MM with
            | true => exact one _ 4 e5 (by decide) (by omega) (by rw [hl', e1, e2, e3, e4, e5]; rfl) (by rw [e1, e2, e3, e4, e5]; rfl)
            | false =>
              cases e6 : X12_isWord 1886154612 MM with
              | true => exact one _ 5 e6 (by decide) (by omega) (by rw [hl', e1, e2, e3, e4, e5, e6]; rfl) (by rw [e1, e2, e3, e4, e5, e6]; rfl)
              | false =>
                refine Or.inr (Or.inr ⟨n40, s40', ?_, ?_, z4, fun _ => hpq⟩)
                · rw [hl', e1, e2, e3, e4, e5, e6]; rfl
                · unfold X12_wordHere
                  rw [e1, e2, e3, e4, e5, e6]; rfl
  · have z : MM.1 0 8 ≠ 3 := by rw [b]; decide
    have n40 : ¬ MX.1 16 1 = 40 := by rw [a]; decide
    refine Or.inl ⟨pq, n40, by rw [s40, decide_eq_false n40], nw _ z, Or.inl ⟨?_, by rw [b]; rfl, v, v1, ?_, v3⟩⟩
    · unfold X12_wordHere
      rw [nw _ z, nw _ z, nw _ z, nw _ z, nw _ z, nw _ z]
      rfl
    · unfold X2_leafTold
      rw [if_pos (by rw [a]; rfl), v2]
  · have hs : tx p ≤ 255 := by have := (h5.2.2.2 p a0).1; omega
    have z : MM.1 0 8 ≠ 3 := by rw [b]; decide
    have z4 : MM.1 0 8 ≠ 4 := by rw [b]; decide
    by_cases y : tx p = 40
    · have e40 : MX.1 16 1 = 40 := by rw [a, y]; rfl
      refine Or.inr (Or.inl ⟨by omega, e40, by rw [s40, decide_eq_true e40], nw _ z, ?_, z4⟩)
      unfold X12_wordHere
      rw [nw _ z, nw _ z, nw _ z, nw _ z, nw _ z, nw _ z]
      rfl
    · exact oth (tx p) hs y (by unfold SGN at s; omega) a z z4
