/-! ===== phase 2: sights told, untold; time; the tape ===== -/
theorem readers_c {MX MM : Mem} {b mn kd bn hr : Nat} (h : RP MX.1 MM.1 b mn kd bn hr) : X3_readers 23 MX = nI (min bn mn) ∧ X12_firsts MM = some (nI (min mn bn)) := by
  obtain ⟨c1, ha1, ha2, a3, a4, a5, c2, b1, b2, b3, b4, b5, b6, b7, b8, b9⟩ := h.k
  refine ⟨?_, ?_⟩
  · unfold X3_readers
    rw [b1, b5, min_x _ _ (by omega) (by omega)]
  · unfold X12_firsts
    rw [many_c c2 c1 b2, bo_s, c2, gd_in (by omega) (by omega), nI_clamp (by omega), b6, lesser_c _ _ (by omega) (by omega)]
theorem reader_c {MX MM : Mem} {b mn kd bn hr : Nat} (h : RP MX.1 MM.1 b mn kd bn hr) (x : Int32) : (∃ i, i < mn ∧ i < bn ∧ x = nI i ∧ X3_hasReader 23 x MX = true ∧ X12_isFirst x MM = some true) ∨ (X3_hasReader 23 x MX = false ∧ X12_isFirst x MM = some false) := by
  obtain ⟨c1, ha1, ha2, a3, a4, a5, c2, _⟩ := h.k
  obtain ⟨r1, r2⟩ := readers_c h
  unfold X3_hasReader X12_isFirst
  rw [r1, r2, bo_s]
  by_cases h1 : x < 0
  · right
    rw [if_pos h1, isIn_neg h1]
    exact ⟨rfl, rfl⟩
  · rw [if_neg h1]
    obtain ⟨j, hj, rfl⟩ := nI_of h1
    rw [isIn_lt hj (by omega)]
    by_cases q : j < min mn bn
    · left
      refine ⟨j, by omega, by omega, rfl, ?_, ?_⟩
      · rw [if_neg (nI_ge (by omega) (by omega))]
      · rw [decide_eq_true q]
    · right
      rw [if_pos (nI_le (by omega) hj), decide_eq_false q]
      exact ⟨rfl, rfl⟩
theorem zlX_54 : zlen zTX 54 = 30 := zlen_of aX_54
theorem zlX_55 : zlen zTX 55 = 30 := zlen_of aX_55
theorem zlX_56 : zlen zTX 56 = 30 := zlen_of aX_56
theorem zlX_57 : zlen zTX 57 = 30 := zlen_of aX_57
theorem zlX_58 : zlen zTX 58 = 30 := zlen_of aX_58
theorem zlX_59 : zlen zTX 59 = 30 := zlen_of aX_59
/-- what stays when sights change -/
theorem RP.sig {MX MX' MM MM' : Mem} {b mn kd bn hr : Nat} (h : RP MX.1 MM.1 b mn kd bn hr) (hX : Fr (fun a i => (54 ≤ a ∧ a ≤ 59) ∨ (a = 53 ∧ (i = 7 ∨ i = 8))) MX MX') (hM : Fr (fun a i => (45 ≤ a ∧ a ≤ 50) ∨ (a = 0 ∧ (i = 78 ∨ i = 79))) MM MM') (hI : RI MX'.1 MM'.1 mn bn) : RP MX'.1 MM'.1 b mn kd bn hr := by
  obtain ⟨h1, h2, h3, h4, h5, h6, h7, h8⟩ := h
  have kX := hX.2
  have kM := hM.2
  refine ⟨h1.cg (fun a i _ _ => kX a i (by omega)) (fun a i _ _ => kM a i (by omega)), h2.cg (fun j _ => kX 36 j (by omega)) (fun j _ => kM 33 j (by omega)),
    h3.cg (fun a i _ => kX a i (by omega)) (kM _ _ (by omega)) (kM _ _ (by omega)) (fun i => kM _ _ (by omega)),
    h4.cg (fun a i _ => kX a i (by omega)) (fun a i _ => kM a i (by omega)),
    h5.cg (kX _ _ (by omega)) (fun i => kX _ _ (by omega)) (kM _ _ (by omega)) (fun i => kM _ _ (by omega)),
    hI,
    h7.cg (kX _ _ (by omega)) (fun i => kX _ _ (by omega)) (kM _ _ (by omega)) (fun i => kM _ _ (by omega)),
    h8.cg (kX _ _ (by omega)) (kX _ _ (by omega)) (fun i => kX _ _ (by omega)) (fun i => kX _ _ (by omega)) (kM _ _ (by omega)) (kM _ _ (by omega)) (kM _ _ (by omega))⟩
theorem tell_c {MX MM : Mem} {b mn kd bn hr n m : Nat} {x2 x3 x4 : Int32} (h : RP MX.1 MM.1 b mn kd bn hr) (hn : n < 30) (h7 : MX.1 53 7 = nI n) (h78 : MM.1 0 78 = nI n) (hm : m < mn) (hmb : m < bn) (h2 : x2 = -1 ∨ ∃ q, q < mn ∧ q < bn ∧ x2 = nI q) :
    ∃ v MX' MM', X8_tell (nI m) x2 x3 x4 MX = (v, MX') ∧ X12_tell (nI m) x2 x3 x4 MM = some (v, MM') ∧ RR MX' MM' := by
  obtain ⟨n', t, t1, t2, t3, t4, t5, t6, t7⟩ := id h.2.2.2.2.2.1
  have en : n' = n := (nI_eq (by omega) (by omega)).mp (t3.symm.trans h7)
  subst en
  obtain ⟨y, hy, hy2⟩ : ∃ y : Int32, (if x4 = 0 then (0 : Int32) else 1) = y ∧ ∃ q, q ≤ 1 ∧ y = nI q := by
    by_cases z : x4 = 0
    · exact ⟨0, if_pos z, 0, by omega, rfl⟩
    · exact ⟨1, if_neg z, 1, by omega, rfl⟩
  have ex : X8_tell (nI m) x2 x3 x4 MX = (nI n', uI (uI (uI (uI (uI (uI (uI MX 54 n' (nI m)) 55 n' x2) 56 n' x3) 57 n' y) 58 n' (nI t)) 59 n' (-1)) 53 7 (nI (n' + 1))) := by
    unfold X8_tell
    rw [h7, if_pos (show nI n' < 30 from nI_lt (b := 30) hn (by omega)), xp_in (by rw [zlX_54]; omega), lt_e, uI_ne (by omega), h7, xp_in (by rw [zlX_55]; omega), lt_e, uI_ne (by omega), uI_ne (by omega), h7, xp_in (by rw [zlX_56]; omega), lt_e, uI_ne (by omega), uI_ne (by omega), uI_ne (by omega), h7, hy, l1_s, xp_in (by rw [zlX_57]; omega), lt_e]
    have g7 : (uI (uI (uI (uI MX 54 n' (nI m)) 55 n' x2) 56 n' x3) 57 n' y).1 53 7 = nI n' := h7
    have g8 : (uI (uI (uI (uI MX 54 n' (nI m)) 55 n' x2) 56 n' x3) 57 n' y).1 53 8 = nI t := t5
    rw [g7, g8, xp_in (by rw [zlX_58]; omega), lt_e]
    have g9 : (uI (uI (uI (uI (uI MX 54 n' (nI m)) 55 n' x2) 56 n' x3) 57 n' y) 58 n' (nI t)).1 53 7 = nI n' := h7
    rw [g9, xp_in (by rw [zlX_59]; omega), lt_e]
    have g10 : (uI (uI (uI (uI (uI (uI MX 54 n' (nI m)) 55 n' x2) 56 n' x3) 57 n' y) 58 n' (nI t)) 59 n' (-1)).1 53 7 = nI n' := h7
    rw [g10, show nI n' + 1 = nI (n' + 1) from nI_add n' 1, lt_e, uI_eq, show nI (n' + 1) - 1 = nI n' from nI_sub (b := 1) (by omega)]
  have em : X12_tell (nI m) x2 x3 x4 MM = some (nI n', uI (uI (uI (uI (uI (uI (uI MM 45 n' (nI m)) 46 n' x2) 47 n' x3) 48 n' y) 49 n' (nI t)) 50 n' (-1)) 0 78 (nI (n' + 1))) := by
    unfold X12_tell
    have gd : ∀ (M : Mem) (x : Option (Int32 × Mem)), M.1 0 78 = nI n' → gd_ (inb (M.1 0 78) (30) = true) x = x := fun M x hM => by rw [hM, gd_in hn (by omega)]
    have k1 : (uI MM 45 n' (nI m)).1 0 78 = nI n' := h78
    have k2 : (uI (uI MM 45 n' (nI m)) 46 n' x2).1 0 78 = nI n' := h78
    have k3 : (uI (uI (uI MM 45 n' (nI m)) 46 n' x2) 47 n' x3).1 0 78 = nI n' := h78
    have k4 : (uI (uI (uI (uI MM 45 n' (nI m)) 46 n' x2) 47 n' x3) 48 n' y).1 0 78 = nI n' := h78
    have k4' : (uI (uI (uI (uI MM 45 n' (nI m)) 46 n' x2) 47 n' x3) 48 n' y).1 0 79 = nI t := t6
    have k5 : (uI (uI (uI (uI (uI MM 45 n' (nI m)) 46 n' x2) 47 n' x3) 48 n' y) 49 n' (nI t)).1 0 78 = nI n' := h78
    have k6 : (uI (uI (uI (uI (uI (uI MM 45 n' (nI m)) 46 n' x2) 47 n' x3) 48 n' y) 49 n' (nI t)) 50 n' (-1)).1 0 78 = nI n' := h78
    rw [gd MM _ h78, h78, nI_clamp (by omega), lt_e, gd _ _ k1, k1, nI_clamp (by omega), lt_e, gd _ _ k2, k2, nI_clamp (by omega), lt_e, hy, l1_s, gd _ _ k3, k3, nI_clamp (by omega), lt_e, gd _ _ k4, k4, k4', nI_clamp (by omega), lt_e, gd _ _ k5, k5, nI_clamp (by omega), lt_e, k6, show nI n' + 1 = nI (n' + 1) from nI_add n' 1, lt_e, uI_eq, show nI (n' + 1) - 1 = nI n' from nI_sub (b := 1) (by omega)]
  refine ⟨_, _, _, ex, em, b, mn, kd, bn, hr, h.sig ?_ ?_ ?_⟩
  · exact ((((((Fr.rf.up _ (Or.inl (by omega))).up _ (Or.inl (by omega))).up _ (Or.inl (by omega))).up _ (Or.inl (by omega))).up _ (Or.inl (by omega))).up _ (Or.inl (by omega))).up _ (Or.inr ⟨rfl, Or.inl rfl⟩)
  · exact ((((((Fr.rf.up _ (Or.inl (by omega))).up _ (Or.inl (by omega))).up _ (Or.inl (by omega))).up _ (Or.inl (by omega))).up _ (Or.inl (by omega))).up _ (Or.inl (by omega))).up _ (Or.inr ⟨rfl, Or.inl rfl⟩)
  · refine ⟨n' + 1, t, by omega, t2, rfl, rfl, t5, t6, fun i hi => ?_⟩
    simp only [uI_g]
    by_cases z : i = n'
    · subst z
      simp only [Nat.reduceEqDiff, and_true, true_and, if_true, if_false, false_and]
      refine ⟨⟨m, hm, hmb, rfl, rfl⟩, ?_, ?_, Or.inl trivial⟩
      · rcases h2 with z | ⟨q, q1, q2, q3⟩
        · exact Or.inl ⟨z, z⟩
        · exact Or.inr ⟨q, q1, q2, q3, q3⟩
      · obtain ⟨q, q1, q2⟩ := hy2
        exact ⟨q, q1, q2, q2⟩
    · simp only [Nat.reduceEqDiff, z, and_false, false_and, if_false]
      exact t7 i (by omega)
theorem full_c {MX MM : Mem} {b mn kd bn hr : Nat} (h : RP MX.1 MM.1 b mn kd bn hr) : ∃ n, n ≤ 30 ∧ MX.1 53 7 = nI n ∧ MM.1 0 78 = nI n := by
  obtain ⟨n, t, t1, t2, t3, t4, t5, t6, t7⟩ := h.2.2.2.2.2.1
  exact ⟨n, t1, t3, t4⟩
theorem told_c {MX MM : Mem} {b mn kd bn hr m : Nat} {x2 x3 x4 : Int32} (h : RP MX.1 MM.1 b mn kd bn hr) (hm : m < mn) (hmb : m < bn) (h2 : x2 = -1 ∨ ∃ q, q < mn ∧ q < bn ∧ x2 = nI q) :
    ∃ v MX' MM', (lp_ (X8_tell (nI m) x2 x3 x4 MX) fun v4 M5 => (v4, M5)) = (v, MX') ∧ (if 30 ≤ (MM.1 0 78) then some ((-1), MM) else bp_ (X12_tell (nI m) x2 x3 x4 MM) fun v5 M6 => some (v5, M6)) = some (v, MM') ∧ RR MX' MM' := by
  obtain ⟨n, n1, n2, n3⟩ := full_c h
  by_cases hn : n < 30
  · obtain ⟨v, MX', MM', e1, e2, e3⟩ := tell_c (x2 := x2) (x3 := x3) (x4 := x4) h hn n2 n3 hm hmb h2
    exact ⟨v, MX', MM', by rw [e1, lp_s], by rw [n3, if_neg (show ¬ (30 : Int32) ≤ nI n from nI_ge (b := 30) hn (by omega)), e2, bp_s], e3⟩
  · refine ⟨-1, MX, MM, ?_, by rw [n3, if_pos (show (30 : Int32) ≤ nI n from nI_le (a := 30) (by omega) (by omega))], b, mn, kd, bn, hr, h⟩
    unfold X8_tell
    rw [n2, if_neg (show ¬ nI n < 30 from nI_nlt (b := 30) (by omega) (by omega)), lp_s]
theorem p2_least (a1 a2 a3 : Int32) : zStep RR (fun M => dIM (X11_least a1 a2 a3 M)) (fun M => (dO dIM) (X12_least a1 a2 a3 M)) := zs_PM fun MX MM hR => by
  obtain ⟨b, mn, kd, bn, hr, h⟩ := hR
  unfold X11_least X12_least
  rcases reader_c h a1 with ⟨m, hm, hmb, rfl, e1, e2⟩ | ⟨e1, e2⟩
  · rw [e1, e2, if_pos rfl, bo_s, if_pos rfl]
    by_cases q1 : a2 < 0
    · rw [if_pos q1, isIn_neg q1, if_neg Bool.false_ne_true]
      exact ⟨_, _, _, rfl, rfl, b, mn, kd, bn, hr, h⟩
    · obtain ⟨j, hj, rfl⟩ := nI_of q1
      rw [if_neg q1, show X12_isIn (nI j) 0 99 = decide (j ≤ 99) from isIn_le (n := 99) hj (by omega)]
      by_cases q2 : j ≤ 99
      · rw [if_pos (show nI j ≤ 99 from nI_le (b := 99) q2 (by omega)), decide_eq_true q2, if_pos rfl]
        exact told_c h hm hmb (Or.inl rfl)
      · rw [if_neg (show ¬ nI j ≤ 99 from nI_ge (b := j) (a := 99) (by omega) hj), decide_eq_false q2, if_neg Bool.false_ne_true]
        exact ⟨_, _, _, rfl, rfl, b, mn, kd, bn, hr, h⟩
  · rw [e1, e2, if_neg Bool.false_ne_true, bo_s, if_neg Bool.false_ne_true]
    exact ⟨_, _, _, rfl, rfl, b, mn, kd, bn, hr, h⟩
theorem p2_more (a1 a2 a3 : Int32) : zStep RR (fun M => dIM (X11_more a1 a2 a3 M)) (fun M => (dO dIM) (X12_more a1 a2 a3 M)) := zs_PM fun MX MM hR => by
  obtain ⟨b, mn, kd, bn, hr, h⟩ := hR
  unfold X11_more X12_more
  rcases reader_c h a1 with ⟨m, hm, hmb, rfl, e1, e2⟩ | ⟨e1, e2⟩
  · rw [e1, e2, if_pos rfl, bo_s, if_pos rfl]
    rcases reader_c h a2 with ⟨o, ho, hob, rfl, e3, e4⟩ | ⟨e3, e4⟩
    · rw [e3, e4, if_pos rfl, bo_s, if_pos rfl]
      by_cases q : nI m = nI o
      · rw [if_pos q, if_pos q]
        exact ⟨_, _, _, rfl, rfl, b, mn, kd, bn, hr, h⟩
      · rw [if_neg q, if_neg q]
        exact told_c h hm hmb (Or.inr ⟨o, ho, hob, rfl⟩)
    · rw [e3, e4, if_neg Bool.false_ne_true, bo_s, if_neg Bool.false_ne_true]
      exact ⟨_, _, _, rfl, rfl, b, mn, kd, bn, hr, h⟩
  · rw [e1, e2, if_neg Bool.false_ne_true, bo_s, if_neg Bool.false_ne_true]
    exact ⟨_, _, _, rfl, rfl, b, mn, kd, bn, hr, h⟩
theorem p2_untell (a1 : Int32) : zStep RR (fun M => dZM (X11_untell a1 M)) (fun M => (dO dZM) (X12_untell a1 M)) := zs_PZ fun MX MM hR => by
  obtain ⟨b, mn, kd, bn, hr, h⟩ := hR
  obtain ⟨n, t, t1, t2, t3, t4, t5, t6, t7⟩ := id h.2.2.2.2.2.1
  unfold X11_untell X8_takeBack X12_untell
  rw [t3, t4]
  by_cases q1 : a1 < 0
  · rw [if_pos q1, isIn_neg q1, if_neg Bool.false_ne_true, lp_s]
    exact ⟨_, _, _, rfl, rfl, b, mn, kd, bn, hr, h⟩
  · obtain ⟨j, hj, rfl⟩ := nI_of q1
    rw [if_neg q1, isIn_lt hj (by omega)]
    by_cases q2 : j < n
    · rw [if_neg (nI_ge q2 (by omega)), decide_eq_true q2, if_pos rfl, gd_in (by omega) hj, nI_clamp hj, xc_in (by rw [zlX_59]; omega)]
      rcases (t7 j q2).2.2.2.2.2 with ⟨z1, z2⟩ | ⟨q, q3, z1, z2⟩
      · rw [z1, z2, if_pos rfl, if_pos (show (-1 : Int32) < 0 by decide), t5, t6, xp_in (by rw [zlX_59]; omega), lt_e, lp_s, lt_e]
        refine ⟨_, _, _, rfl, rfl, b, mn, kd, bn, hr, h.sig (Fr.rf.up _ (Or.inl (by omega))) (Fr.rf.up _ (Or.inl (by omega))) ⟨n, t, t1, t2, t3, t4, t5, t6, fun i hi => ?_⟩⟩
        simp only [uI_g]
        by_cases z : i = j
        · subst z
          simp only [Nat.reduceEqDiff, and_true, true_and, if_true, if_false, false_and]
          obtain ⟨w1, w2, w3, w4, w5, _⟩ := t7 i q2
          exact ⟨w1, w2, w3, w4, w5, Or.inr ⟨t, t2, rfl, rfl⟩⟩
        · simp only [Nat.reduceEqDiff, z, and_false, false_and, if_false]
          exact t7 i hi
      · rw [z1, z2, if_neg (nI_nm1 (by omega)), if_neg (nI_pos (by omega)), lp_s]
        exact ⟨_, _, _, rfl, rfl, b, mn, kd, bn, hr, h⟩
    · rw [if_pos (nI_le (by omega) hj), decide_eq_false q2, if_neg Bool.false_ne_true, lp_s]
      exact ⟨_, _, _, rfl, rfl, b, mn, kd, bn, hr, h⟩
theorem p2_later (a1 : Int32) : zStep RR (fun M => dIM (X11_later a1 M)) (fun M => dIM (X12_later a1 M)) := zs_PP fun MX MM hR => by
  obtain ⟨b, mn, kd, bn, hr, h⟩ := hR
  obtain ⟨n, t, t1, t2, t3, t4, t5, t6, t7⟩ := id h.2.2.2.2.2.1
  unfold X11_later X8_passTime X12_later
  rw [t5, t6]
  by_cases q1 : a1 < 0
  · rw [if_pos q1, isIn_neg q1, if_neg Bool.false_ne_true, lp_s]
    exact ⟨_, _, _, rfl, rfl, b, mn, kd, bn, hr, h⟩
  · obtain ⟨j, hj, rfl⟩ := nI_of q1
    rw [if_neg q1, show X12_isIn (nI j) 0 1000 = decide (j ≤ 1000) from isIn_le (n := 1000) hj (by omega)]
    by_cases q2 : j ≤ 1000
    · rw [if_neg (show ¬ (1000 : Int32) < nI j from nI_nlt (a := 1000) q2 (by omega)), decide_eq_true q2, if_pos rfl, nI_add]
      by_cases q3 : t + j ≤ 100000
      · rw [if_pos (show nI (t + j) ≤ 100000 from nI_le (b := 100000) q3 (by omega)), if_pos (show nI (t + j) ≤ 100000 from nI_le (b := 100000) q3 (by omega)), lt_e, lp_s, lt_e, uI_eq, uI_eq]
        exact ⟨_, _, _, rfl, rfl, b, mn, kd, bn, hr, h.sig (Fr.rf.up _ (Or.inr ⟨rfl, Or.inr rfl⟩)) (Fr.rf.up _ (Or.inr ⟨rfl, Or.inr rfl⟩)) ⟨n, t + j, t1, q3, t3, t4, rfl, rfl, t7⟩⟩
      · rw [if_neg (show ¬ nI (t + j) ≤ 100000 from nI_ge (b := t + j) (a := 100000) (by omega) (by omega)), if_neg (show ¬ nI (t + j) ≤ 100000 from nI_ge (b := t + j) (a := 100000) (by omega) (by omega)), lp_s]
        exact ⟨_, _, _, rfl, rfl, b, mn, kd, bn, hr, h⟩
    · rw [if_pos (show (1000 : Int32) < nI j from nI_lt (a := 1000) (by omega) hj), decide_eq_false q2, if_neg Bool.false_ne_true, lp_s]
      exact ⟨_, _, _, rfl, rfl, b, mn, kd, bn, hr, h⟩
