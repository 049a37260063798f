/-! ===== phase 2: one token on, whole ===== -/
theorem bb_10 {f : Nat → Nat} : ∀ k, (∀ i, i < k → f i < 10) → bb 10 f k < 10 ^ k
  | 0, _ => by show 0 < 1; omega
  | k + 1, h => by
    have := bb_10 k (fun i hi => h i (by omega))
    have := h k (by omega)
    show bb 10 f k * 10 + f k < 10 ^ (k + 1)
    rw [Nat.pow_succ]
    omega
section STEP
variable {MX MM : Mem} {n : Nat} {tx : Nat → Nat}
theorem digitsX_c {p q : Nat} (h : TX MX MM n tx) (hpq : p ≤ q) (hq : q ≤ n) (hB : ∀ i, p ≤ i → i < q → 48 ≤ tx i ∧ tx i ≤ 57) (hE : q = n ∨ (q < n ∧ ¬ (48 ≤ tx q ∧ tx q ≤ 57))) (hX : MX.1 16 8 = nI p) (h2 : MX.1 16 3 = nI 0) :
    ∃ MX', X6_stepNumber_L1 zFU MX = some MX' ∧ FX MX MX' ∧ MX'.1 16 8 = nI q ∧ MX'.1 16 7 = MX.1 16 7 ∧ MX'.1 16 3 = nI (bb 10 (fun i => tx (p + i) - 48) (q - p)) := by
  have hn := h.1
  have key := up_zFU (σ := Mem) (fun N s => X6_stepNumber_L1 N s) (fun k s => FX MX s ∧ s.1 16 8 = nI (p + k) ∧ s.1 16 7 = MX.1 16 7 ∧ s.1 16 3 = nI (bb 10 (fun i => tx (p + i) - 48) k)) (fun t => FX MX t ∧ t.1 16 8 = nI q ∧ t.1 16 7 = MX.1 16 7 ∧ t.1 16 3 = nI (bb 10 (fun i => tx (p + i) - 48) (q - p))) (q - p) (by omega) (by
    rintro N s ⟨f, a, a2, b⟩
    rw [show p + (q - p) = q by omega] at a
    refine ⟨s, ?_, f, a, a2, b⟩
    have hT := h.fr f FM.rf
    show X6_stepNumber_L1 (N + 1) s = some s
    rw [X6_stepNumber_L1, a, hT.2.1]
    rcases hE with hE | ⟨hE1, hE2⟩
    · rw [if_pos (nI_le (by omega) (by omega))]
    · rw [if_neg (nI_ge hE1 (by omega)), byteAt_c hT (by omega), if_pos hE1, (letter_fin ⟨tx q, (hT.2.2.2 q hE1).1⟩).2.2.1, if_neg (fun w => hE2 (of_decide_eq_true w))]) (by
    rintro N k s hk ⟨f, a, a2, b⟩
    left
    have hT := h.fr f FM.rf
    have hc := hB (p + k) (by omega) (by omega)
    refine ⟨uI (uI s 16 3 (nI (bb 10 (fun i => tx (p + i) - 48) (k + 1)))) 16 8 (nI (p + (k + 1))), ⟨(f.up _ (by omega)).up _ (by omega), uI_eq _ _ _ _, a2, ?_⟩, ?_⟩
    · rw [uI_ne (by omega), uI_eq]
    · show X6_stepNumber_L1 (N + 1) s = _
      rw [X6_stepNumber_L1, a, hT.2.1, if_neg (nI_ge (show p + k < n by omega) (by omega)), byteAt_c hT (by omega), if_pos (show p + k < n by omega), (letter_fin ⟨tx (p + k), (hT.2.2.2 (p + k) (by omega)).1⟩).2.2.1, if_pos (decide_eq_true hc), b, show nI (bb 10 (fun i => tx (p + i) - 48) k) * 10 = nI (bb 10 (fun i => tx (p + i) - 48) k * 10) from nI_mul _ 10, show nI (tx (p + k)) - 48 = nI (tx (p + k) - 48) from nI_sub (b := 48) hc.1, nI_add, lt_e, uI_ne (by omega), a, show nI (p + k) + 1 = nI (p + (k + 1)) from nI_add (p + k) 1, lt_e]
      rfl) MX 0 (by omega) ⟨FX.rf, hX, rfl, h2⟩
  obtain ⟨t, e, r⟩ := key
  exact ⟨t, e, r⟩
theorem digitsM_c {p q : Nat} (h : TX MX MM n tx) (hpq : p ≤ q) (hq : q ≤ n) (hB : ∀ i, p ≤ i → i < q → 48 ≤ tx i ∧ tx i ≤ 57) (hE : q = n ∨ (q < n ∧ ¬ (48 ≤ tx q ∧ tx q ≤ 57))) (h6 : MM.1 0 6 = nI p) (hM : MM.1 0 7 = nI p) (h9 : MM.1 0 9 = nI 0) :
    ∃ MM', X12_goOn_L2 zFU MM = some MM' ∧ FM MM MM' ∧ MM'.1 0 7 = nI q ∧ MM'.1 0 6 = nI p ∧ (q - p ≤ 4 → MM'.1 0 9 = nI (bb 10 (fun i => tx (p + i) - 48) (q - p))) := by
  have hn := h.1
  have key := up_zFU (σ := Mem) (fun N s => X12_goOn_L2 N s) (fun k s => FM MM s ∧ s.1 0 7 = nI (p + k) ∧ s.1 0 6 = nI p ∧ (k ≤ 4 → s.1 0 9 = nI (bb 10 (fun i => tx (p + i) - 48) k))) (fun t => FM MM t ∧ t.1 0 7 = nI q ∧ t.1 0 6 = nI p ∧ (q - p ≤ 4 → t.1 0 9 = nI (bb 10 (fun i => tx (p + i) - 48) (q - p)))) (q - p) (by omega) (by
    rintro N s ⟨f, a, a2, b⟩
    rw [show p + (q - p) = q by omega] at a
    refine ⟨s, ?_, f, a, a2, b⟩
    have hT := h.fr FX.rf f
    show X12_goOn_L2 (N + 1) s = some s
    rw [X12_goOn_L2, a, sign_c hT (by omega), bo_s]
    rcases hE with hE | ⟨hE1, hE2⟩
    · rw [if_neg (show ¬ q < n by omega), letter_m1.2.2.2, if_neg Bool.false_ne_true]
    · rw [if_pos hE1, (letter_fin ⟨tx q, (hT.2.2.2 q hE1).1⟩).2.2.2.1, if_neg (fun w => hE2 (of_decide_eq_true w))]) (by
    rintro N k s hk ⟨f, a, a2, b⟩
    left
    have hT := h.fr FX.rf f
    have hc := hB (p + k) (by omega) (by omega)
    have hst : ∀ M2, (if 4 ≤ ((s.1 0 7) - (s.1 0 6)) then some s else bo_ (X12_sign (s.1 0 7) s) fun v24 => lt_ (uI s 0 9 (((10 * (s.1 0 9)) + v24) - 48)) fun M25 => some M25) = some M2 → X12_goOn_L2 (N + 1) s = lt_ (uI M2 0 7 ((M2.1 0 7) + 1)) fun M27 => X12_goOn_L2 N M27 := fun M2 e => by
      rw [X12_goOn_L2, e, b1_s, a, sign_c hT (by omega), if_pos (show p + k < n by omega), bo_s, (letter_fin ⟨tx (p + k), (hT.2.2.2 (p + k) (by omega)).1⟩).2.2.2.1, if_pos (decide_eq_true hc)]
    by_cases z : 4 ≤ k
    · refine ⟨uI s 0 7 (nI (p + (k + 1))), ⟨f.up _ (by omega), uI_eq _ _ _ _, a2, fun y => by omega⟩, ?_⟩
      show X12_goOn_L2 (N + 1) s = _
      rw [hst s (if_pos (by rw [a, a2, nI_sub (by omega)]; exact nI_le (a := 4) (by omega) (by omega))), a, show nI (p + k) + 1 = nI (p + (k + 1)) from nI_add (p + k) 1, lt_e]
    · have b' := b (by omega)
      refine ⟨uI (uI s 0 9 (nI (bb 10 (fun i => tx (p + i) - 48) (k + 1)))) 0 7 (nI (p + (k + 1))), ⟨(f.up _ (by omega)).up _ (by omega), uI_eq _ _ _ _, a2, fun _ => by rw [uI_ne (by omega), uI_eq]⟩, ?_⟩
      show X12_goOn_L2 (N + 1) s = _
      have e9 : (10 * (s.1 0 9) + nI (tx (p + k))) - 48 = nI (bb 10 (fun i => tx (p + i) - 48) (k + 1)) := by
        rw [b', show (10 : Int32) * nI (bb 10 (fun i => tx (p + i) - 48) k) = nI (10 * bb 10 (fun i => tx (p + i) - 48) k) from nI_mul 10 _, nI_add, show nI (10 * bb 10 (fun i => tx (p + i) - 48) k + tx (p + k)) - 48 = nI (10 * bb 10 (fun i => tx (p + i) - 48) k + tx (p + k) - 48) from nI_sub (b := 48) (by omega)]
        congr 1
        show _ = bb 10 (fun i => tx (p + i) - 48) k * 10 + (tx (p + k) - 48)
        omega
      rw [hst (uI s 0 9 (nI (bb 10 (fun i => tx (p + i) - 48) (k + 1)))) (by
        rw [a, a2, nI_sub (by omega), if_neg (show ¬ (4 : Int32) ≤ nI (p + k - p) from nI_ge (b := 4) (by omega) (by omega)), sign_c hT (by omega), if_pos (show p + k < n by omega), bo_s, e9, lt_e]), uI_ne (by omega), a, show nI (p + k) + 1 = nI (p + (k + 1)) from nI_add (p + k) 1, lt_e]) MM 0 (by omega) ⟨FM.rf, hM, h6, fun _ => h9⟩
  obtain ⟨t, e, r⟩ := key
  exact ⟨t, e, r⟩
theorem sign_fin : ∀ c : Fin 256, X12_isSign (nI c.1) = true ↔ SGN c.1 := by
  have : ∀ c : Fin 256, X12_isSign (nI c.1) = decide (c.1 = 37 ∨ c.1 = 40 ∨ c.1 = 41 ∨ c.1 = 42 ∨ c.1 = 43 ∨ c.1 = 45 ∨ c.1 = 47 ∨ c.1 = 59 ∨ c.1 = 60 ∨ c.1 = 61 ∨ c.1 = 62) := by decide +kernel
  intro c
  rw [this c, decide_eq_true_eq]
  rfl
/-- one token on -/
theorem step_c {q : Nat} (h : TX MX MM n tx) (hq : q ≤ n) (hX : MX.1 16 8 = nI q) (hM : MM.1 0 7 = nI q) :
    ∃ MX' MM' p' q', X6_step MX = some MX' ∧ X12_goOn MM = some MM' ∧ FX MX MX' ∧ FM MM MM' ∧ AT MX' MM' n tx p' q' ∧ q ≤ p' ∧ (p' < q' ∨ p' = n) := by
  have hn := h.1
  obtain ⟨p, p1, p2, p3, p4⟩ := run_ex (fun i => tx i = 32 ∨ tx i = 10) n (n - q) q (by omega)
  have fM0 : FM MM (uI MM 0 6 (nI q)) := FM.rf.up _ (by omega)
  obtain ⟨A, B, a1, b1, fA, gB, a2, b2⟩ := blanks_c (h.fr FX.rf fM0) p1 p2 p3 p4 hX (uI_eq _ _ _ _)
  have fX1 : FX MX (uI A 16 7 (nI p)) := fA.up _ (by omega)
  have gM1 : FM MM (uI B 0 7 (nI (p + 1))) := (fM0.tr gB).up _ (by omega)
  have hT := h.fr fX1 gM1
  have hTB := h.fr FX.rf (fM0.tr gB)
  have hx : X6_step MX = (if (if p < n then nI (tx p) else -1) = (-1 : Int32) then lt_ (uI (uI A 16 7 (nI p)) 16 1 0) fun M16 => some M16 else
      if (X6_isLetter (if p < n then nI (tx p) else -1)) = true then bo_ (X6_stepWord (uI A 16 7 (nI p))) fun M15 => some M15 else
      if (X6_isDigit (if p < n then nI (tx p) else -1)) = true then bo_ (X6_stepNumber (uI A 16 7 (nI p))) fun M14 => some M14 else
      l1_ (α := Int32) (if (X6_isSign (if p < n then nI (tx p) else -1)) = true then (if p < n then nI (tx p) else -1) else 1) fun y11 =>
      lt_ (uI (uI A 16 7 (nI p)) 16 1 y11) fun M12 => lt_ (uI M12 16 8 ((M12.1 16 8) + 1)) fun M13 => some M13) := by
    unfold X6_step
    rw [a1, b1_s, a2, lt_e (uI A 16 7 (nI p)), uI_ne (by omega), a2, byteAt_c hT (by omega), lt_e]
  have hm : X12_goOn MM = (if p < n then
      if (X12_isLetter (if p < n then nI (tx p) else 0)) = true then
        b1_ (α := Mem) (X12_goOn_L3 zFU (uI B 0 7 (nI (p + 1)))) fun M39 =>
        lt_ (uL M39 0 10 0) fun M40 =>
        lt_ (α := Int32) (M40.1 0 6) fun y41 =>
        b1_ (α := Mem) (X12_goOn_L4 zFU y41 M40) fun M46 =>
        l1_ (α := Int32) (
          if ((M46.1 0 7) - (M46.1 0 6)) ≤ 8 then
            if (X12_isKept (M46.2 0 10)) = true then
              3
            else
            2
          else
          1) fun y49 =>
        lt_ (uI M46 0 8 y49) fun M50 =>
        some M50
      else
      if (X12_isDigit (if p < n then nI (tx p) else 0)) = true then
        lt_ (uI (uI B 0 7 (nI (p + 1))) 0 9 0) fun M19 =>
        lt_ (uI M19 0 7 (M19.1 0 6)) fun M20 =>
        b1_ (α := Mem) (X12_goOn_L2 zFU M20) fun M28 =>
        b1_ (α := Int32) (
          b1_ (α := Bool) (
            if 4 < ((M28.1 0 7) - (M28.1 0 6)) then
              some true
            else
            bo_ (X12_sign (M28.1 0 7) M28) fun v30 =>
            if (X12_isLetter v30) = true then
              some true
            else
            some false) fun t32 =>
          if t32 = true then
            some 1
          else
          some 4) fun y34 =>
        lt_ (uI M28 0 8 y34) fun M35 =>
        some M35
      else
      l1_ (α := Int32) (
        if (X12_isSign (if p < n then nI (tx p) else 0)) = true then
          5
        else
        1) fun y17 =>
      lt_ (uI (uI B 0 7 (nI (p + 1))) 0 8 y17) fun M18 =>
      some M18
    else
    lt_ (uI (uI B 0 7 (nI (p + 1))) 0 8 0) fun M51 =>
    lt_ (uI M51 0 6 (M51.1 0 3)) fun M52 =>
    lt_ (uI M52 0 7 (M52.1 0 3)) fun M53 =>
    some M53) := by
    unfold X12_goOn
    rw [hM, lt_e, b1, b1_s, b2, sign_c hTB (by omega), bo_s, show nI p + 1 = nI (p + 1) from nI_add p 1, lt_e (uI B 0 7 (nI (p + 1))), uI_ne (by omega), b2, hT.2.2.1]
    by_cases z : p < n
    · rw [if_pos (nI_lt z (by omega))]
      simp only [z, if_true]
    · rw [if_neg (nI_nlt (by omega) (by omega))]
      simp only [z, if_false]
  rcases p4 with rfl | ⟨p4, p5⟩
  · -- the end
    rw [if_neg (Nat.lt_irrefl p), if_pos rfl, lt_e] at hx
    rw [if_neg (Nat.lt_irrefl p), lt_e, uI_ne (by omega), hT.2.2.1, lt_e, uI_ne (by omega), uI_ne (by omega), hT.2.2.1, lt_e] at hm
    refine ⟨_, _, p, p, hx, hm, fX1.up _ (by omega), ((gM1.up _ (by omega)).up _ (by omega)).up _ (by omega), ⟨?_, ?_, ?_, ?_, ?_, Or.inl ⟨rfl, rfl, ?_, ?_⟩⟩, p1, Or.inr rfl⟩
    · rw [uI_ne (by omega), uI_eq]
    · rw [uI_ne (by omega), uI_eq]
    · rw [uI_ne (by omega), uI_ne (by omega), a2]
    · rw [uI_eq]
    · exact h.fr (fX1.up _ (by omega)) (((gM1.up _ (by omega)).up _ (by omega)).up _ (by omega))
    · rw [uI_eq]; rfl
    · rw [uI_ne (by omega), uI_ne (by omega), uI_eq]; rfl
  · have hb := (h.2.2.2 p p4).1
    have lf := letter_fin ⟨tx p, hb⟩
    simp only at lf
    have hne : ¬ nI (tx p) = -1 := nI_nm1 (by omega)
    simp only [p4, if_true] at hx hm
    rw [if_neg hne, lf.1, lf.2.2.1, lf.2.2.2.2.2] at hx
    rw [lf.2.1, lf.2.2.2.1] at hm
    by_cases c1 : 97 ≤ tx p ∧ tx p ≤ 122
    · -- a word
      rw [if_pos (decide_eq_true c1)] at hx hm
      obtain ⟨r, r1, r2, r3, r4⟩ := run_ex (fun i => 97 ≤ tx i ∧ tx i ≤ 122) n (n - p) p (by omega)
      have hpr : p < r := by
        rcases Nat.lt_or_ge p r with w | w
        · exact w
        · have e : r = p := by omega
          rw [e] at r4
          rcases r4 with r4 | r4
          · omega
          · exact absurd c1 r4.2
      obtain ⟨C, x1, x2, x3, x4, x5⟩ := lettersX_c (MX := uL (uI A 16 7 (nI p)) 16 2 0) (p := p) (q := r) (h.fr (fX1.uL _) gM1) (by omega) r2 r3 r4 (show (uI A 16 7 (nI p)).1 16 8 = nI p from (uI_ne (by omega)).trans a2) (by rw [uL_g, if_pos ⟨rfl, rfl⟩]; rfl)
      obtain ⟨D, y1, y2, y3, y4⟩ := lettersM_c (MM := uI B 0 7 (nI (p + 1))) (p := p + 1) (q := r) hT (by omega) r2 (fun i h1 h2 => r3 i (by omega) h2) r4 (uI_eq _ _ _ _)
      have y4' : (uL D 0 10 0).1 0 6 = nI p := y4.trans ((uI_ne (by omega)).trans b2)
      obtain ⟨E, z1, z2, z3, z4, z5⟩ := packM_c (MM := uL D 0 10 0) (p := p) (q := r) (h.fr FX.rf ((gM1.tr y2).uL _)) (by omega) r2 r3 y4' y3 (by rw [uL_g, if_pos ⟨rfl, rfl⟩]; rfl)
      have x4' : C.1 16 7 = nI p := x4.trans (show (uI A 16 7 (nI p)).1 16 7 = nI p from uI_eq _ _ _ _)
      have hx2 : X6_step MX = some (uI C 16 1 (if r - p ≤ 8 then 2 else 1)) := by
        rw [hx]
        unfold X6_stepWord
        rw [lt_e, x1, b1_s, x3, x4', nI_sub (by omega)]
        by_cases w : r - p ≤ 8
        · rw [if_pos (show nI (r - p) ≤ 8 from nI_le (b := 8) w (by omega)), l1_s, lt_e, bo_s, if_pos w]
        · rw [if_neg (show ¬ nI (r - p) ≤ 8 from nI_ge (a := 8) (by omega) (by omega)), l1_s, lt_e, bo_s, if_neg w]
      have hm2 : X12_goOn MM = some (uI E 0 8 (if r - p ≤ 8 then if X12_isKept (E.2 0 10) = true then 3 else 2 else 1)) := by
        rw [hm, y1, b1_s, lt_e (uL D 0 10 0), y4', lt_e (nI p), z1, b1_s, z3, z4, nI_sub (by omega)]
        by_cases w : r - p ≤ 8
        · rw [if_pos (show nI (r - p) ≤ 8 from nI_le (b := 8) w (by omega)), l1_s, lt_e, if_pos w]
        · rw [if_neg (show ¬ nI (r - p) ≤ 8 from nI_ge (a := 8) (by omega) (by omega)), l1_s, lt_e, if_neg w]
      have fC : FX MX (uI C 16 1 (if r - p ≤ 8 then 2 else 1)) := ((fX1.uL _).tr x2).up _ (by omega)
      have gE : FM MM (uI E 0 8 (if r - p ≤ 8 then if X12_isKept (E.2 0 10) = true then 3 else 2 else 1)) := (((gM1.tr y2).uL _).tr z2).up _ (by omega)
      refine ⟨_, _, p, r, hx2, hm2, fC, gE, ⟨(uI_ne (by omega)).trans x4', (uI_ne (by omega)).trans z4, (uI_ne (by omega)).trans x3, (uI_ne (by omega)).trans z3, h.fr fC gE, ?_⟩, p1, Or.inl hpr⟩
      by_cases w : r - p ≤ 8
      · have hW : WRD tx n p r := ⟨hpr, r2, w, fun i hi => r3 (p + i) (by omega) (by omega)⟩
        refine Or.inr (Or.inr (Or.inl ⟨hW, ?_, x5, z5 w, ?_⟩))
        · rw [uI_eq, if_pos w]; rfl
        · rw [uI_eq, if_pos w, z5 w]
          by_cases k : KEPT tx p r
          · exact Or.inl ⟨k, by rw [if_pos ((isKept_c hW).mpr k)]; rfl⟩
          · exact Or.inr ⟨k, by rw [if_neg (fun y => k ((isKept_c hW).mp y))]; rfl⟩
      · refine Or.inr (Or.inl ⟨hpr, r2, ?_, ?_⟩)
        · rw [uI_eq, if_neg w]; rfl
        · rw [uI_eq, if_neg w]; rfl
    · rw [if_neg (fun w => c1 (of_decide_eq_true w))] at hx hm
      by_cases c2 : 48 ≤ tx p ∧ tx p ≤ 57
      · rw [if_pos (decide_eq_true c2)] at hx hm
        obtain ⟨r, r1, r2, r3, r4⟩ := run_ex (fun i => 48 ≤ tx i ∧ tx i ≤ 57) n (n - p) p (by omega)
        have hpr : p < r := by
          rcases Nat.lt_or_ge p r with w | w
          · exact w
          · have e : r = p := by omega
            rw [e] at r4
            rcases r4 with r4 | r4
            · omega
            · exact absurd c2 r4.2
        obtain ⟨C, x1, x2, x3, x4, x5⟩ := digitsX_c (MX := uI (uI A 16 7 (nI p)) 16 3 0) (p := p) (q := r) (h.fr (fX1.up _ (by omega)) gM1) (by omega) r2 r3 r4 ((uI_ne (by omega)).trans ((uI_ne (by omega)).trans a2)) (uI_eq _ _ _ _)
        have b6 : (uI (uI B 0 7 (nI (p + 1))) 0 9 0).1 0 6 = nI p := (uI_ne (by omega)).trans ((uI_ne (by omega)).trans b2)
        obtain ⟨E, z1, z2, z3, z4, z5⟩ := digitsM_c (MM := uI (uI (uI B 0 7 (nI (p + 1))) 0 9 0) 0 7 (nI p)) (p := p) (q := r) (h.fr FX.rf ((gM1.up _ (by omega)).up _ (by omega))) (by omega) r2 r3 r4 ((uI_ne (by omega)).trans b6) (uI_eq _ _ _ _) ((uI_ne (by omega)).trans (uI_eq _ _ _ _))
        have x4' : C.1 16 7 = nI p := x4.trans ((uI_ne (by omega)).trans (uI_eq _ _ _ _))
        have fC0 : FX MX C := (fX1.up _ (by omega)).tr x2
        have gE0 : FM MM E := ((gM1.up _ (by omega)).up _ (by omega)).tr z2
        have hTe := h.fr fC0 gE0
        have hl : ∀ Q : Prop, Q = (r < n ∧ 97 ≤ tx r ∧ tx r ≤ 122) → ((X6_isLetter (X10_byteAt (nI r) C) = true ↔ Q) ∧ ∃ v, X12_sign (nI r) E = some v ∧ (X12_isLetter v = true ↔ Q)) := fun Q hQ => by
          rw [hQ, byteAt_c hTe (by omega), sign_c hTe (by omega)]
          by_cases w : r < n
          · have lr := letter_fin ⟨tx r, (h.2.2.2 r w).1⟩
            simp only at lr
            rw [if_pos w, if_pos w, lr.1]
            refine ⟨?_, _, rfl, ?_⟩
            · rw [decide_eq_true_eq]; exact ⟨fun y => ⟨w, y⟩, fun y => y.2⟩
            · rw [lr.2.1, decide_eq_true_eq]; exact ⟨fun y => ⟨w, y⟩, fun y => y.2⟩
          · rw [if_neg w, if_neg w, letter_m1.1]
            refine ⟨⟨fun y => absurd y Bool.false_ne_true, fun y => absurd y.1 w⟩, _, rfl, ?_⟩
            rw [letter_m1.2.1]
            exact ⟨fun y => absurd y Bool.false_ne_true, fun y => absurd y.1 w⟩
        obtain ⟨hl1, v, hl2, hl3⟩ := hl _ rfl
        have hx2 : X6_step MX = some (uI C 16 1 (if r - p ≤ 4 ∧ ¬ (r < n ∧ 97 ≤ tx r ∧ tx r ≤ 122) then 3 else 1)) := by
          rw [hx]
          unfold X6_stepNumber
          rw [lt_e, x1, b1_s, x3, x4', nI_sub (by omega)]
          by_cases w : r - p ≤ 4
          · rw [if_pos (show nI (r - p) ≤ 4 from nI_le (b := 4) w (by omega)), l1_s, if_pos rfl]
            by_cases y : r < n ∧ 97 ≤ tx r ∧ tx r ≤ 122
            · rw [if_pos (hl1.mpr y), if_neg (fun k => k.2 y)]; rfl
            · rw [if_neg (fun k => y (hl1.mp k)), if_pos ⟨w, y⟩]; rfl
          · rw [if_neg (show ¬ nI (r - p) ≤ 4 from nI_ge (a := 4) (by omega) (by omega)), l1_s, if_neg (by decide), if_neg (fun k => w k.1)]; rfl
        have hm2 : X12_goOn MM = some (uI E 0 8 (if r - p ≤ 4 ∧ ¬ (r < n ∧ 97 ≤ tx r ∧ tx r ≤ 122) then 4 else 1)) := by
          rw [hm, lt_e (uI (uI B 0 7 (nI (p + 1))) 0 9 0), b6, lt_e (uI (uI (uI B 0 7 (nI (p + 1))) 0 9 0) 0 7 (nI p)), z1, b1_s, z3, z4, nI_sub (by omega), hl2, bo_s]
          by_cases w : r - p ≤ 4
          · rw [if_neg (show ¬ (4 : Int32) < nI (r - p) from nI_nlt (a := 4) w (by omega))]
            by_cases y : r < n ∧ 97 ≤ tx r ∧ tx r ≤ 122
            · rw [if_pos (hl3.mpr y), b1_s, if_pos rfl, b1_s, lt_e, if_neg (fun k => k.2 y)]
            · rw [if_neg (fun k => y (hl3.mp k)), b1_s, if_neg Bool.false_ne_true, b1_s, lt_e, if_pos ⟨w, y⟩]
          · rw [if_pos (show (4 : Int32) < nI (r - p) from nI_lt (a := 4) (by omega) (by omega)), b1_s, if_pos rfl, b1_s, lt_e, if_neg (fun k => w k.1)]
        have fC : FX MX (uI C 16 1 (if r - p ≤ 4 ∧ ¬ (r < n ∧ 97 ≤ tx r ∧ tx r ≤ 122) then 3 else 1)) := fC0.up _ (by omega)
        have gE : FM MM (uI E 0 8 (if r - p ≤ 4 ∧ ¬ (r < n ∧ 97 ≤ tx r ∧ tx r ≤ 122) then 4 else 1)) := gE0.up _ (by omega)
        refine ⟨_, _, p, r, hx2, hm2, fC, gE, ⟨(uI_ne (by omega)).trans x4', (uI_ne (by omega)).trans z4, (uI_ne (by omega)).trans x3, (uI_ne (by omega)).trans z3, h.fr fC gE, ?_⟩, p1, Or.inl hpr⟩
        by_cases w : r - p ≤ 4 ∧ ¬ (r < n ∧ 97 ≤ tx r ∧ tx r ≤ 122)
        · have hv : bb 10 (fun i => tx (p + i) - 48) (r - p) < 10 ^ (r - p) := bb_10 _ (fun i hi => by have := r3 (p + i) (by omega) (by omega); omega)
          have hv2 : 10 ^ (r - p) ≤ 10 ^ 4 := Nat.pow_le_pow_right (by omega) w.1
          refine Or.inr (Or.inr (Or.inr (Or.inl ⟨hpr, r2, ?_, ?_, bb 10 (fun i => tx (p + i) - 48) (r - p), by omega, ?_, ?_⟩)))
          · rw [uI_eq, if_pos w]; rfl
          · rw [uI_eq, if_pos w]; rfl
          · rw [uI_ne (by omega)]; exact x5
          · rw [uI_ne (by omega)]; exact z5 w.1
        · refine Or.inr (Or.inl ⟨hpr, r2, ?_, ?_⟩)
          · rw [uI_eq, if_neg w]; rfl
          · rw [uI_eq, if_neg w]; rfl
      · rw [if_neg (fun w => c2 (of_decide_eq_true w))] at hx hm
        have e8 : ∀ y, (uI (uI A 16 7 (nI p)) 16 1 y).1 16 8 = nI p := fun y => by rw [uI_ne (by omega), uI_ne (by omega), a2]
        by_cases c3 : X12_isSign (nI (tx p)) = true
        · rw [if_pos c3, l1_s, lt_e (uI (uI A 16 7 (nI p)) 16 1 (nI (tx p))), e8, show nI p + 1 = nI (p + 1) from nI_add p 1, lt_e] at hx
          rw [if_pos c3, l1_s, lt_e] at hm
          refine ⟨_, _, p, p + 1, hx, hm, (fX1.up _ (by omega)).up _ (by omega), gM1.up _ (by omega), ⟨?_, ?_, uI_eq _ _ _ _, ?_, h.fr ((fX1.up _ (by omega)).up _ (by omega)) (gM1.up _ (by omega)), Or.inr (Or.inr (Or.inr (Or.inr ⟨p4, rfl, (sign_fin ⟨tx p, hb⟩).mp c3, ?_, uI_eq _ _ _ _⟩)))⟩, p1, Or.inl (by omega)⟩
          · rw [uI_ne (by omega), uI_ne (by omega), uI_eq]
          · rw [uI_ne (by omega), uI_ne (by omega), b2]
          · rw [uI_ne (by omega), uI_eq]
          · rw [uI_ne (by omega), uI_eq]
        · rw [if_neg c3, l1_s, lt_e (uI (uI A 16 7 (nI p)) 16 1 1), e8, show nI p + 1 = nI (p + 1) from nI_add p 1, lt_e] at hx
          rw [if_neg c3, l1_s, lt_e] at hm
          refine ⟨_, _, p, p + 1, hx, hm, (fX1.up _ (by omega)).up _ (by omega), gM1.up _ (by omega), ⟨?_, ?_, uI_eq _ _ _ _, ?_, h.fr ((fX1.up _ (by omega)).up _ (by omega)) (gM1.up _ (by omega)), Or.inr (Or.inl ⟨by omega, by omega, ?_, uI_eq _ _ _ _⟩)⟩, p1, Or.inl (by omega)⟩
          · rw [uI_ne (by omega), uI_ne (by omega), uI_eq]
          · rw [uI_ne (by omega), uI_ne (by omega), b2]
          · rw [uI_ne (by omega), uI_eq]
          · rw [uI_ne (by omega), uI_eq]; rfl
end STEP
