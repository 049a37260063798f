/-! ===== phase 2: one token on, whole ===== -/
theorem bb_10 {f : Nat → Nat} : ∀ k, (∀ i, i < k → f i < 10) → bb 10 f k < 10 ^ k
  | 0, _ => by show 0 < 1; omega
  | k + 1, h => by
    have := bb_10 k (fun i hi => h i (by omega))
    have := h k (by omega)
    show bb 10 f k * 10 + f k < 10 ^ (k + 1)
    rw [Nat.pow_succ]
    omega
section STEP
variable {MX MM : Mem} {n : Nat} {tx : Nat → Nat}
theorem digitsX_c {p q : Nat} (h : TX MX MM n tx) (hpq : p ≤ q) (hq : q ≤ n) (hB : ∀ i, p ≤ i → i < q → 48 ≤ tx i ∧ tx i ≤ 57) (hE : q = n ∨ (q < n ∧ ¬ (48 ≤ tx q ∧ tx q ≤ 57))) (hX : MX.1 16 8 = nI p) (h2 : MX.1 16 3 = nI 0) :
    ∃ MX', X6_stepNumber_L1 zFU MX = some MX' ∧ FX MX MX' ∧ MX'.1 16 8 = nI q ∧ MX'.1 16 7 = MX.1 16 7 ∧ MX'.1 16 3 = nI (bb 10 (fun i => tx (p + i) - 48) (q - p)) := by
  have hn := h.1
  have key := up_zFU (σ := Mem) (fun N s => X6_stepNumber_L1 N s) (fun k s => FX MX s ∧ s.1 16 8 = nI (p + k) ∧ s.1 16 7 = MX.1 16 7 ∧ s.1 16 3 = nI (bb 10 (fun i => tx (p + i) - 48) k)) (fun t => FX MX t ∧ t.1 16 8 = nI q ∧ t.1 16 7 = MX.1 16 7 ∧ t.1 16 3 = nI (bb 10 (fun i => tx (p + i) - 48) (q - p))) (q - p) (by omega) (by
    rintro N s ⟨f, a, a2, b⟩
    rw [show p + (q - p) = q by omega] at a
    refine ⟨s, ?_, f, a, a2, b⟩
    have hT := h.fr f FM.rf
    show X6_stepNumber_L1 (N + 1) s = some s
    rw [X6_stepNumber_L1, a, hT.2.1]
    rcases hE with hE | ⟨hE1, hE2⟩
    · rw [if_pos (nI_le (by omega) (by omega))]
    · rw [if_neg (nI_ge hE1 (by omega)), byteAt_c hT (by omega), if_pos hE1, (letter_fin ⟨tx q, (hT.2.2.2 q hE1).1⟩).2.2.1, if_neg (fun w => hE2 (of_decide_eq_true w))]) (by
    rintro N k s hk ⟨f, a, a2, b⟩
    left
    have hT := h.fr f FM.rf
    have hc := hB (p + k) (by omega) (by omega)
    refine ⟨uI (uI s 16 3 (nI (bb 10 (fun i => tx (p + i) - 48) (k + 1)))) 16 8 (nI (p + (k + 1))), ⟨(f.up _ (by omega)).up _ (by omega), uI_eq _ _ _ _, a2, ?_⟩, ?_⟩
    · rw [uI_ne (by omega), uI_eq]
    · show X6_stepNumber_L1 (N + 1) s = _
      rw [X6_stepNumber_L1, a, hT.2.1, if_neg (nI_ge (show p + k < n by omega) (by omega)), byteAt_c hT (by omega), if_pos (show p + k < n by omega), (letter_fin ⟨tx (p + k), (hT.2.2.2 (p + k) (by omega)).1⟩).2.2.1, if_pos (decide_eq_true hc), b, show nI (bb 10 (fun i => tx (p + i) - 48) k) * 10 = nI (bb 10 (fun i => tx (p + i) - 48) k * 10) from nI_mul _ 10, show nI (tx (p + k)) - 48 = nI (tx (p + k) - 48) from nI_sub (b := 48) hc.1, nI_add, lt_e, uI_ne (by omega), a, show nI (p + k) + 1 = nI (p + (k + 1)) from nI_add (p + k) 1, lt_e]
      rfl) MX 0 (by omega) ⟨FX.rf, hX, rfl, h2⟩
  obtain ⟨t, e, r⟩ := key
  exact ⟨t, e, r⟩
theorem digitsM_c {p q : Nat} (h : TX MX MM n tx) (hpq : p ≤ q) (hq : q ≤ n) (hB : ∀ i, p ≤ i → i < q → 48 ≤ tx i ∧ tx i ≤ 57) (hE : q = n ∨ (q < n ∧ ¬ (48 ≤ tx q ∧ tx q ≤ 57))) (h6 : MM.1 0 6 = nI p) (hM : MM.1 0 7 = nI p) (h9 : MM.1 0 9 = nI 0) :
    ∃ MM', X12_goOn_L2 zFU MM = some MM' ∧ FM MM MM' ∧ MM'.1 0 7 = nI q ∧ MM'.1 0 6 = nI p ∧ (q - p ≤ 4 → MM'.1 0 9 = nI (bb 10 (fun i => tx (p + i) - 48) (q - p))) := by
  have hn := h.1
  have key := up_zFU (σ := Mem) (fun N s => X12_goOn_L2 N s) (fun k s => FM MM s ∧ s.1 0 7 = nI (p + k) ∧ s.1 0 6 = nI p ∧ (k ≤ 4 → s.1 0 9 = nI (bb 10 (fun i => tx (p + i) - 48) k))) (fun t => FM MM t ∧ t.1 0 7 = nI q ∧ t.1 0 6 = nI p ∧ (q - p ≤ 4 → t.1 0 9 = nI (bb 10 (fun i => tx (p + i) - 48) (q - p)))) (q - p) (by omega) (by
    rintro N s ⟨f, a, a2, b⟩
    rw [show p + (q - p) = q by omega] at a
    refine ⟨s, ?_, f, a, a2, b⟩
    have hT := h.fr FX.rf f
    show X12_goOn_L2 (N + 1) s = some s
    rw [X12_goOn_L2, a, sign_c hT (by omega), bo_s]
    rcases hE with hE | ⟨hE1, hE2⟩
    · rw [if_neg (show ¬ q < n by omega), letter_m1.2.2.2, if_neg Bool.false_ne_true]
    · rw [if_pos hE1, (letter_fin ⟨tx q, (hT.2.2.2 q hE1).1⟩).2.2.2.1, if_neg (fun w => hE2 (of_decide_eq_true w))]) (by
    rintro N k s hk ⟨f, a, a2, b⟩
    left
    have hT := h.fr FX.rf f
    have hc := hB (p + k) (by omega) (by omega)
    have hst : ∀ M2, (if 4 ≤ ((s.1 0 7) - (s.1 0 6)) then some s else bo_ (X12_sign (s.1 0 7) s) fun v24 => lt_ (uI s 0 9 (((10 * (s.1 0 9)) + v24) - 48)) fun M25 => some M25) = some M2 → X12_goOn_L2 (N + 1) s = lt_ (uI M2 0 7 ((M2.1 0 7) + 1)) fun M27 => X12_goOn_L2 N M27 := fun M2 e => by
      rw [X12_goOn_L2, e, b1_s, a, sign_c hT (by omega), if_pos (show p + k < n by omega), bo_s, (letter_fin ⟨tx (p + k), (hT.2.2.2 (p + k) (by omega)).1⟩).2.2.2.1, if_pos (decide_eq_true hc)]
    by_cases z : 4 ≤ k
    · refine ⟨uI s 0 7 (nI (p + (k + 1))), ⟨f.up _ (by omega), uI_eq _ _ _ _, a2, fun y => by omega⟩, ?_⟩
      show X12_goOn_L2 (N + 1) s = _
      rw [hst s (if_pos (by rw [a, a2, nI_sub (by omega)]; exact nI_le (a := 4) (by omega) (by omega))), a, show nI (p + k) + 1 = nI (p + (k + 1)) from nI_add (p + k) 1, lt_e]
    · have b' := b (by omega)
      refine ⟨uI (uI s 0 9 (nI (bb 10 (fun i => tx (p + i) - 48) (k + 1)))) 0 7 (nI (p + (k + 1))), ⟨(f.up _ (by omega)).up _ (by omega), uI_eq _ _ _ _, a2, fun _ => by rw [uI_ne (by omega), uI_eq]⟩, ?_⟩
      show X12_goOn_L2 (N + 1) s = _
      have e9 : (10 * (s.1 0 9) + nI (tx (p + k))) - 48 = nI (bb 10 (fun i => tx (p + i) - 48) (k + 1)) := by
        rw [b', show (10 : Int32) * nI (bb 10 (fun i => tx (p + i) - 48) k) = nI (10 * bb 10 (fun i => tx (p + i) - 48) k) from nI_mul 10 _, nI_add, show nI (10 * bb 10 (fun i => tx (p + i) - 48) k + tx (p + k)) - 48 = nI (10 * bb 10 (fun i => tx (p + i) - 48) k + tx (p + k) - 48) from nI_sub (b := 48) (by omega)]
        congr 1
        show _ = bb 10 (fun i => tx (p + i) - 48) k * 10 + (tx (p + k) - 48)
        omega
      rw [hst (uI s 0 9 (nI (bb 10 (fun i => tx (p + i) - 48) (k + 1)))) (by
        rw [a, a2, nI_sub (by omega), if_neg (show ¬ (4 : Int32) ≤ nI (p + k - p) from nI_ge (b := 4) (by omega) (by omega)), sign_c hT (by omega), if_pos (show p + k < n by omega), bo_s, e9, lt_e]), uI_ne (by omega), a, show nI (p + k) + 1 = nI (p + (k + 1)) from nI_add (p + k) 1, lt_e]) MM 0 (by omega) ⟨FM.rf, hM, h6, fun _ => h9⟩
  obtain ⟨t, e, r⟩ := key
  exact ⟨t, e, r⟩
theorem sign_fin : ∀ c : Fin 256, X12_isSign (nI c.1) = true ↔ SGN c.1 := by
  have : ∀ c : Fin 256, X12_isSign (nI c.1) = decide (c.1 = 37 ∨ c.1 = 40 ∨ c.1 = 41 ∨ c.1 = 42 ∨ c.1 = 43 ∨ c.1 = 45 ∨ c.1 = 47 ∨ c.1 = 59 ∨ c.1 = 60 ∨ c.1 = 61 ∨ c.1 = 62) := by decide +kernel
  intro c
  rw [this c, decide_eq_true_eq]
  rfl
/-- one token on -/
theorem step_c {q : Nat} (h : TX MX MM n tx) (hq : q ≤ n) (hX : MX.1 16 8 = nI q) (hM : MM.1 0 7 = nI q) :
    ∃ MX' MM' p' q', X6_step MX = some MX' ∧ X12_goOn MM = some MM' ∧ FX MX MX' ∧ FM MM MM' ∧ AT MX' MM' n tx p' q' ∧ q ≤ p' ∧ (p' < q' ∨ p' = n) := by
  have hn := h.1
  obtain ⟨p, p1, p2, p3, p4⟩ := run_ex (fun i => tx i = 32 ∨ tx i = 10) n (n - q) q (by omega)
  have fM0 : FM MM (uI MM 0 6 (nI q)) := FM.rf.up _ (by omega)
  obtain ⟨A, B, a1, b1, fA, gB, a2, b2⟩ := blanks_c (h.fr FX.rf fM0) p1 p2 p3 p4 hX (uI_eq _ _ _ _)
  have fX1 : FX MX (uI A 16 7 (nI p)) := fA.up _ (by omega)
  have gM1 : FM MM (uI B 0 7 (nI (p + 1))) := (fM0.tr gB).up _ (by omega)
  have hT := h.fr fX1 gM1
  have hTB := h.fr FX.rf (fM0.tr gB)
  have hx : X6_step MX = (if (if p < n then nI (tx p) else -1) = (-1 : Int32) then lt_ (uI (uI A 16 7 (nI p)) 16 1 0) fun M16 => some M16 else
      if (X6_isLetter (if p < n then nI (tx p) else -1)) = true then bo_ (X6_stepWord (uI A 16 7 (nI p))) fun M15 => some M15 else
      if (X6_isDigit (if p < n then nI (tx p) else -1)) = true then bo_ (X6_stepNumber (uI A 16 7 (nI p))) fun M14 => some M14 else
      l1_ (α := Int32) (if (X6_isSign (if p < n then nI (tx p) else -1)) = true then (if p < n then nI (tx p) else -1) else 1) fun y11 =>
      lt_ (uI (uI A 16 7 (nI p)) 16 1 y11) fun M12 => lt_ (uI M12 16 8 ((M12.1 16 8) + 1)) fun M13 => some M13) := by
    unfold X6_step
    rw [a1, b1_s, a2, lt_e (uI A 16 7 (nI p)), uI_ne (by omega), a2, byteAt_c hT (by omega), lt_e]
  have hm : X12_goOn MM = (if p < n then
      if (X12_isLetter (if p < n then nI (tx p) else 0)) = true then
        b1_ (α := Mem) (X12_goOn_L3 zFU (uI B 0 7 (nI (p + 1)))) fun M39 =>
        lt_ (uL M39 0 10 0) fun M40 =>
        lt_ (α := Int32) (M40.1 0 6) fun y41 =>
        b1_ (α := Mem) (X12_goOn_L4 zFU y41 M40) fun M46 =>
        l1_ (α := Int32) (
          if ((M46.1 0 7) - (M46.1 0 6)) ≤ 8 then
            if (X12_isKept (M46.2 0 10)) = true then
              3
            else
            2
          else
          1) fun y49 =>
        lt_ (uI M46 0 8 y49) fun M50 =>
        some M50
      else
      if (X12_isDigit (if p < n then nI (tx p) else 0)) = true then
        lt_ (uI (uI B 0 7 (nI (p + 1))) 0 9 0) fun M19 =>
        lt_ (uI M19 0 7 (M19.1 0 6)) fun M20 =>
        b1_ (α := Mem) (X12_goOn_L2 zFU M20) fun M28 =>
        b1_ (α := Int32) (
          b1_ (α := Bool) (
            if 4 < ((M28.1 0 7) - (M28.1 0 6)) then
              some true
            else
            bo_ (X12_sign (M28.1 0 7) M28) fun v30 =>
            if (X12_isLetter v30) = true then
              some true
            else
            some false) fun t32 =>
          if t32 = true then
            some 1
          else
          some 4) fun y34 =>
        lt_ (uI M28 0 8 y34) fun M35 =>
        some M35
      else
      l1_ (α := Int32) (
        if (X12_isSign (if p < n then nI (tx p) else 0)) = true then
          5
        else
        1) fun y17 =>
      lt_ (uI (uI B 0 7 (nI (p + 1))) 0 8 y17) fun M18 =>
      some M18
    else
    lt_ (uI (uI B 0 7 (nI (p + 1))) 0 8 0) fun M51 =>
    lt_ (uI M51 0 6 (M51.1 0 3)) fun M52 =>
    lt_ (uI M52 0 7 (M52.1 0 3)) fun M53 =>
    some M53) := by
    unfold X12_goOn
    rw [hM, lt_e, b1, b1_s, b2, sign_c hTB (by omega), bo_s, show nI p + 1 = nI (p + 1) from nI_add p 1, lt_e (uI B 0 7 (nI (p + 1))), uI_ne (by omega), b2, hT.2.2.1]
    by_cases z : p < n
    · rw [if_pos (nI_lt z (by omega))]
      simp only [z, if_true]
    · rw [if_neg (nI_nlt (by omega) (by omega))]
      simp only [z, if_false]
  rcases p4 with rfl | ⟨p4, p5⟩
  · -- the end
    rw [if_neg (Nat.lt_irrefl p), if_pos rfl, lt_e] at hx
    rw [if_neg (Nat.lt_irrefl p), lt_e, uI_ne (by omega), hT.2.2.1, lt_e, uI_ne (by omega), uI_ne (by omega), hT.2.2.1, lt_e] at hm
    refine ⟨_, _, p, p, hx, hm, fX1.up _ (by omega), ((gM1.up _ (by omega)).up _ (by omega)).up _ (by omega), ⟨?_, ?_, ?_, ?_, ?_, Or.inl ⟨rfl, rfl, ?_, ?_⟩⟩, p1, Or.inr rfl⟩
    · rw [uI_ne (by omega), uI_eq]
    · rw [uI_ne (by omega), uI_eq]
    · rw [uI_ne (by omega), uI_ne (by omega), a2]
    · rw [uI_eq]
    · exact h.fr (fX1.up _ (by omega)) (((gM1.up _ (by omega)).up _ (by omega)).up _ (by omega))
    · rw [uI_eq]; rfl
    · rw [uI_ne (by omega), uI_ne (by omega), uI_eq]; rfl
  · have hb := (h.2.2.2 p p4).1
    have lf := letter_fin ⟨tx p, hb⟩
    simp only at lf
    have hne : ¬ nI (tx p) = -1 := nI_nm1 (by omega)
    simp only [p4, if_true] at hx hm
    rw [if_neg hne, lf.1, lf.2.2.1, lf.2.2.2.2.2] at hx
    rw [lf.2.1, lf.2.2.2.1] at hm
    by_cases c1 : 97 ≤ tx p ∧ tx p ≤ 122
    · -- a word
      sorry
    · rw [if_neg (fun w => c1 (of_decide_eq_true w))] at hx hm
      by_cases c2 : 48 ≤ tx p ∧ tx p ≤ 57
      · sorry
      · rw [if_neg (fun w => c2 (of_decide_eq_true w))] at hx hm
        have e8 : ∀ y, (uI (uI A 16 7 (nI p)) 16 1 y).1 16 8 = nI p := fun y => by rw [uI_ne (by omega), uI_ne (by omega), a2]
        by_cases c3 : X12_isSign (nI (tx p)) = true
        · rw [if_pos c3, l1_s, lt_e (uI (uI A 16 7 (nI p)) 16 1 (nI (tx p))), e8, show nI p + 1 = nI (p + 1) from nI_add p 1, lt_e] at hx
          rw [if_pos c3, l1_s, lt_e] at hm
          refine ⟨_, _, p, p + 1, hx, hm, (fX1.up _ (by omega)).up _ (by omega), gM1.up _ (by omega), ⟨?_, ?_, uI_eq _ _ _ _, ?_, h.fr ((fX1.up _ (by omega)).up _ (by omega)) (gM1.up _ (by omega)), Or.inr (Or.inr (Or.inr (Or.inr ⟨p4, rfl, (sign_fin ⟨tx p, hb⟩).mp c3, ?_, uI_eq _ _ _ _⟩)))⟩, p1, Or.inl (by omega)⟩
          · rw [uI_ne (by omega), uI_ne (by omega), uI_eq]
          · rw [uI_ne (by omega), uI_ne (by omega), b2]
          · rw [uI_ne (by omega), uI_eq]
          · rw [uI_ne (by omega), uI_eq]
        · rw [if_neg c3, l1_s, lt_e (uI (uI A 16 7 (nI p)) 16 1 1), e8, show nI p + 1 = nI (p + 1) from nI_add p 1, lt_e] at hx
          rw [if_neg c3, l1_s, lt_e] at hm
          refine ⟨_, _, p, p + 1, hx, hm, (fX1.up _ (by omega)).up _ (by omega), gM1.up _ (by omega), ⟨?_, ?_, uI_eq _ _ _ _, ?_, h.fr ((fX1.up _ (by omega)).up _ (by omega)) (gM1.up _ (by omega)), Or.inr (Or.inl ⟨by omega, by omega, ?_, uI_eq _ _ _ _⟩)⟩, p1, Or.inl (by omega)⟩
          · rw [uI_ne (by omega), uI_ne (by omega), uI_eq]
          · rw [uI_ne (by omega), uI_ne (by omega), b2]
          · rw [uI_ne (by omega), uI_eq]
          · rw [uI_ne (by omega), uI_eq]; rfl
end STEP
