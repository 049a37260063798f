/-! ===== phase 2: the tape fed; gain ===== -/
theorem RP.tape {MX MX' MM MM' : Mem} {b mn kd bn hr : Nat} (h : RP MX.1 MM.1 b mn kd bn hr) (hX : Fr (fun a i => a = 1 ∨ a = 2) MX MX') (hM : Fr (fun a i => a = 1 ∨ (a = 0 ∧ i = 2)) MM MM') (hT : RT MX'.1 MM'.1) : RP MX'.1 MM'.1 b mn kd bn hr := by
  obtain ⟨h1, h2, h3, h4, h5, h6, h7, h8⟩ := h
  have kX := hX.2
  have kM := hM.2
  refine ⟨h1.cg (fun a i _ _ => kX a i (by omega)) (fun a i _ _ => kM a i (by omega)), h2.cg (fun j _ => kX 36 j (by omega)) (fun j _ => kM 33 j (by omega)),
    h3.cg (fun a i _ => kX a i (by omega)) (kM _ _ (by omega)) (kM _ _ (by omega)) (fun i => kM _ _ (by omega)),
    h4.cg (fun a i _ => kX a i (by omega)) (fun a i _ => kM a i (by omega)),
    h5.cg (kX _ _ (by omega)) (fun i => kX _ _ (by omega)) (kM _ _ (by omega)) (fun i => kM _ _ (by omega)),
    h6.cg (kX _ _ (by omega)) (kX _ _ (by omega)) (fun a i _ _ => kX _ _ (by omega)) (kM _ _ (by omega)) (kM _ _ (by omega)) (fun a i _ _ => kM _ _ (by omega)),
    hT,
    h8.cg (kX _ _ (by omega)) (kX _ _ (by omega)) (fun i => kX _ _ (by omega)) (fun i => kX _ _ (by omega)) (kM _ _ (by omega)) (kM _ _ (by omega)) (kM _ _ (by omega))⟩
theorem p2_end (a1 : Int32) : zStep RR (fun M => dIM (X11_end a1 M)) (fun M => dIM (X12_end a1 M)) := zs_PP fun MX MM hR => by
  obtain ⟨b, mn, kd, bn, hr, h⟩ := hR
  obtain ⟨n, n1, n2, n3, n4⟩ := id h.2.2.2.2.2.2.1
  unfold X11_end X12_end
  rw [n2, n3]
  by_cases q1 : a1 < 0
  · rw [if_pos q1, if_pos q1]
    exact ⟨_, _, _, rfl, rfl, b, mn, kd, bn, hr, h⟩
  · rw [if_neg q1, if_neg q1]
    by_cases q2 : a1 ≤ nI n
    · obtain ⟨j, hj, rfl⟩ := nI_of q1
      rw [if_pos q2, if_pos q2, lt_e, lt_e]
      rw [nI_leI hj (by omega)] at q2
      exact ⟨_, _, _, rfl, rfl, b, mn, kd, bn, hr, h.tape (Fr.rf.up _ (Or.inl rfl)) (Fr.rf.up _ (Or.inr ⟨rfl, rfl⟩)) ⟨j, by omega, rfl, rfl, fun i hi => n4 i (by omega)⟩⟩
    · rw [if_neg q2, if_neg q2]
      exact ⟨_, _, _, rfl, rfl, b, mn, kd, bn, hr, h⟩
theorem ap_st {M : Mem} {x : Int32} {n c f : Nat} (h : M.1 1 1 = nI n) (hn : n < 1600) (hc : c < 32) : X10_append_L1 x (f + 1) (nI c) M = X10_append_L1 x f (nI c + (-8)) (uI (uI M 2 n ((x >>> (nI c &&& 31)).toInt8.toInt32)) 1 1 (nI (n + 1))) := by
  rw [X10_append_L1, if_neg (nI_pos (by omega)), h, if_neg (nI_pos (by omega)), if_neg (show ¬ (1600 : Int32) ≤ nI n from nI_ge (b := 1600) hn (by omega)), nI_clamp (by omega), lt_e, uI_ne (by omega), h, lt_e, show nI n + 1 = nI (n + 1) from nI_add n 1, l1_s]
theorem append_c {M : Mem} {x : Int32} {n : Nat} (h : M.1 1 1 = nI n) (hn : n + 4 ≤ 1600) : ∃ M', X10_append x M = some M' ∧ Fr (fun a i => (a = 1 ∧ i = 1) ∨ (a = 2 ∧ n ≤ i ∧ i < n + 4)) M M' ∧ M'.1 1 1 = nI (n + 4) ∧ ∀ j, j < 4 → M'.1 2 (n + j) = (x >>> nI (24 - 8 * j)).toInt8.toInt32 := by
  unfold X10_append
  obtain ⟨f, hf⟩ := zFU_s 5 (by omega)
  rw [hf, show f + 5 = f + 4 + 1 from rfl, show (24 : Int32) = nI 24 from rfl, ap_st h (by omega) (by omega), show nI 24 + (-8) = nI 16 by decide, show f + 4 = f + 3 + 1 from rfl, ap_st (n := n + 1) (uI_eq _ _ _ _) (by omega) (by omega), show nI 16 + (-8) = nI 8 by decide, show f + 3 = f + 2 + 1 from rfl, ap_st (n := n + 2) (uI_eq _ _ _ _) (by omega) (by omega), show nI 8 + (-8) = nI 0 by decide, show f + 2 = f + 1 + 1 from rfl, ap_st (n := n + 3) (uI_eq _ _ _ _) (by omega) (by omega), X10_append_L1, if_pos (by decide), b1_s]
  refine ⟨_, rfl, ?_, uI_eq _ _ _ _, fun j hj => ?_⟩
  · exact (((((((Fr.rf.up _ (Or.inr ⟨rfl, by omega, by omega⟩)).up _ (Or.inl ⟨rfl, rfl⟩)).up _ (Or.inr ⟨rfl, by omega, by omega⟩)).up _ (Or.inl ⟨rfl, rfl⟩)).up _ (Or.inr ⟨rfl, by omega, by omega⟩)).up _ (Or.inl ⟨rfl, rfl⟩)).up _ (Or.inr ⟨rfl, by omega, by omega⟩)).up _ (Or.inl ⟨rfl, rfl⟩)
  · have e0 : nI 24 &&& 31 = nI 24 := by decide
    have e1 : nI 16 &&& 31 = nI 16 := by decide
    have e2 : nI 8 &&& 31 = nI 8 := by decide
    have e3 : nI 0 &&& 31 = nI 0 := by decide
    rw [e0, e1, e2, e3]
    rcases (by omega : j = 0 ∨ j = 1 ∨ j = 2 ∨ j = 3) with rfl | rfl | rfl | rfl
    · rw [uI_ne (by omega), uI_ne (by omega), uI_ne (by omega), uI_ne (by omega), uI_ne (by omega), uI_ne (by omega), uI_ne (by omega), Nat.add_zero, uI_eq]
    · rw [uI_ne (by omega), uI_ne (by omega), uI_ne (by omega), uI_ne (by omega), uI_ne (by omega), uI_eq]
    · rw [uI_ne (by omega), uI_ne (by omega), uI_ne (by omega), uI_eq]
    · rw [uI_ne (by omega), uI_eq]
/-- the i-th byte of five numbers -/
def bsel (x1 x2 x3 x4 x5 : Int32) (i : Nat) : Int32 := if 4 ≤ i then (if 8 ≤ i then (if 12 ≤ i then (if 16 ≤ i then x5 else x4) else x3) else x2) else x1
theorem sh_fin : ∀ i : Fin 20, ((24 - (8 * (nI i.1 &&& 3))) &&& 31) = nI (24 - 8 * (i.1 % 4)) := by decide +kernel
theorem feedM_c {M : Mem} {x1 x2 x3 x4 x5 : Int32} {n : Nat} (h : M.1 0 2 = nI n) (hn : n + 20 ≤ 1600) : ∃ M', X12_feed_L1 x1 x2 x3 x4 x5 zFU 0 M = some M' ∧ Fr (fun a i => a = 1 ∧ n ≤ i ∧ i < n + 20) M M' ∧ ∀ i, i < 20 → M'.1 1 (n + i) = ((bsel x1 x2 x3 x4 x5 i) >>> nI (24 - 8 * (i % 4))).toInt8.toInt32 := by
  have key := up_zFU (σ := Int32 × Mem) (fun k s => X12_feed_L1 x1 x2 x3 x4 x5 k s.1 s.2) (fun i s => ∃ M1, s = (nI i, M1) ∧ Fr (fun a i => a = 1 ∧ n ≤ i ∧ i < n + 20) M M1 ∧ ∀ j, j < i → M1.1 1 (n + j) = ((bsel x1 x2 x3 x4 x5 j) >>> nI (24 - 8 * (j % 4))).toInt8.toInt32) (fun M1 => Fr (fun a i => a = 1 ∧ n ≤ i ∧ i < n + 20) M M1 ∧ ∀ j, j < 20 → M1.1 1 (n + j) = ((bsel x1 x2 x3 x4 x5 j) >>> nI (24 - 8 * (j % 4))).toInt8.toInt32) 20 (by omega) ?_ ?_ (0, M) 0 (by omega) ⟨M, rfl, Fr.rf, fun j hj => by omega⟩
  · obtain ⟨t, e, q⟩ := key
    exact ⟨t, e, q⟩
  · rintro k s ⟨M1, rfl, f, q⟩
    exact ⟨M1, by show X12_feed_L1 x1 x2 x3 x4 x5 (k + 1) (nI 20) M1 = some M1; rw [X12_feed_L1, if_pos (by decide)], f, q⟩
  · rintro k i s hi ⟨M1, rfl, f, q⟩
    left
    refine ⟨(nI (i + 1), uI M1 1 (n + i) (((bsel x1 x2 x3 x4 x5 i) >>> nI (24 - 8 * (i % 4))).toInt8.toInt32)), ⟨_, rfl, f.up _ ⟨rfl, by omega, by omega⟩, fun j hj => ?_⟩, ?_⟩
    · by_cases z : j = i
      · rw [z, uI_eq]
      · rw [uI_ne (by omega), q j (by omega)]
    · show X12_feed_L1 x1 x2 x3 x4 x5 (k + 1) (nI i) M1 = X12_feed_L1 x1 x2 x3 x4 x5 k (nI (i + 1)) (uI M1 1 (n + i) (((bsel x1 x2 x3 x4 x5 i) >>> nI (24 - 8 * (i % 4))).toInt8.toInt32))
      have es : (if (4 : Int32) ≤ nI i then if (8 : Int32) ≤ nI i then if (12 : Int32) ≤ nI i then if (16 : Int32) ≤ nI i then x5 else x4 else x3 else x2 else x1) = bsel x1 x2 x3 x4 x5 i := by
        unfold bsel
        simp (disch := omega) only [nlit, nI_leI]
      rw [X12_feed_L1, if_neg (show ¬ (20 : Int32) ≤ nI i from nI_ge (b := 20) hi (by omega)), es, l1_s, f.2 0 2 (by omega), h, nI_add, gd_in (by omega) (by omega), nI_clamp (by omega), sh_fin ⟨i, hi⟩, lt_e, show nI i + 1 = nI (i + 1) from nI_add i 1]
theorem p2_feed (a1 a2 a3 a4 a5 : Int32) : zStep RR (fun M => (dO dIM) (X11_feed a1 a2 a3 a4 a5 M)) (fun M => (dO dIM) (X12_feed a1 a2 a3 a4 a5 M)) := zs_MM fun MX MM hR => by
  obtain ⟨b, mn, kd, bn, hr, h⟩ := hR
  obtain ⟨n, n1, n2, n3, n4⟩ := id h.2.2.2.2.2.2.1
  unfold X11_feed X12_feed
  rw [n2, n3, show nI n + 20 = nI (n + 20) from nI_add n 20]
  by_cases q : n ≤ 1580
  · rw [if_pos (show nI n ≤ 1580 from nI_le (b := 1580) q (by omega)), if_pos (show nI (n + 20) ≤ 1600 from nI_le (b := 1600) (by omega) (by omega))]
    obtain ⟨M1, e1, f1, l1, v1⟩ := append_c (x := a1) n2 (by omega)
    obtain ⟨M2, e2, f2, l2, v2⟩ := append_c (x := a2) l1 (by omega)
    obtain ⟨M3, e3, f3, l3, v3⟩ := append_c (x := a3) l2 (by omega)
    obtain ⟨M4, e4, f4, l4, v4⟩ := append_c (x := a4) l3 (by omega)
    obtain ⟨M5, e5, f5, l5, v5⟩ := append_c (x := a5) l4 (by omega)
    obtain ⟨N1, g1, g2, g3⟩ := feedM_c (x1 := a1) (x2 := a2) (x3 := a3) (x4 := a4) (x5 := a5) n3 (show n + 20 ≤ 1600 by omega)
    have l5' : M5.1 1 1 = nI (n + 20) := l5
    refine ⟨nI (n + 20), M5, uI N1 0 2 (nI (n + 20)), ?_, ?_, b, mn, kd, bn, hr, h.tape ?_ ((g2.wk (fun a i z => Or.inl z.1)).up _ (Or.inr ⟨rfl, rfl⟩)) ⟨n + 20, by omega, l5', rfl, fun i hi => ?_⟩⟩
    · rw [e1, bo_s, e2, bo_s, e3, bo_s, e4, bo_s, e5, bo_s, l5']
    · rw [g1, b1_s, g2.2 0 2 (by omega), n3, show nI n + 20 = nI (n + 20) from nI_add n 20, lt_e, uI_eq]
    · exact ((((f1.wk (fun a i z => by omega)).tr (f2.wk (fun a i z => by omega))).tr (f3.wk (fun a i z => by omega))).tr (f4.wk (fun a i z => by omega))).tr (f5.wk (fun a i z => by omega))
    · rw [uI_ne (by omega)]
      by_cases z : i < n
      · rw [f5.2 2 i (by omega), f4.2 2 i (by omega), f3.2 2 i (by omega), f2.2 2 i (by omega), f1.2 2 i (by omega), g2.2 1 i (by omega)]
        exact n4 i z
      · obtain ⟨j, rfl⟩ : ∃ j, i = n + j := ⟨i - n, by omega⟩
        refine ⟨((bsel a1 a2 a3 a4 a5 j) >>> nI (24 - 8 * (j % 4))).toInt8, ?_, g3 j (by omega)⟩
        unfold bsel
        rcases (by omega : j < 4 ∨ (4 ≤ j ∧ j < 8) ∨ (8 ≤ j ∧ j < 12) ∨ (12 ≤ j ∧ j < 16) ∨ (16 ≤ j ∧ j < 20)) with z | z | z | z | z
        · rw [if_neg (by omega), f5.2 2 _ (by omega), f4.2 2 _ (by omega), f3.2 2 _ (by omega), f2.2 2 _ (by omega), v1 j z, Nat.mod_eq_of_lt z]
        · have := v2 (j - 4) (by omega)
          rw [show n + 4 + (j - 4) = n + j by omega] at this
          rw [if_pos (by omega), if_neg (by omega), f5.2 2 _ (by omega), f4.2 2 _ (by omega), f3.2 2 _ (by omega), this, show j % 4 = j - 4 by omega]
        · have := v3 (j - 8) (by omega)
          rw [show n + 4 + 4 + (j - 8) = n + j by omega] at this
          rw [if_pos (by omega), if_pos (by omega), if_neg (by omega), f5.2 2 _ (by omega), f4.2 2 _ (by omega), this, show j % 4 = j - 8 by omega]
        · have := v4 (j - 12) (by omega)
          rw [show n + 4 + 4 + 4 + (j - 12) = n + j by omega] at this
          rw [if_pos (by omega), if_pos (by omega), if_pos (by omega), if_neg (by omega), f5.2 2 _ (by omega), this, show j % 4 = j - 12 by omega]
        · have := v5 (j - 16) (by omega)
          rw [show n + 4 + 4 + 4 + 4 + (j - 16) = n + j by omega] at this
          rw [if_pos (by omega), if_pos (by omega), if_pos (by omega), if_pos (by omega), this, show j % 4 = j - 16 by omega]
  · rw [if_neg (show ¬ nI n ≤ 1580 from nI_ge (b := n) (a := 1580) (by omega) (by omega)), if_neg (show ¬ nI (n + 20) ≤ 1600 from nI_ge (b := n + 20) (a := 1600) (by omega) (by omega))]
    exact ⟨_, _, _, rfl, rfl, b, mn, kd, bn, hr, h⟩
/-! the greatest common divisor -/
theorem mgcd : ∀ (c a f : Nat), c < f → a < 2 ^ 31 → c < 2 ^ 31 → X12_divisor_L1 f (nI a) (nI c) = some (nI (Nat.gcd a c)) := by
  intro c
  induction c using Nat.strongRecOn with
  | ind c ih =>
    intro a f hf ha hc
    obtain ⟨f, rfl⟩ : ∃ k, f = k + 1 := ⟨f - 1, by omega⟩
    rw [X12_divisor_L1]
    by_cases h : c = 0
    · subst h
      rw [if_pos (by decide), Nat.gcd_zero_right]
    · have hm : a % c < c := Nat.mod_lt _ (by omega)
      rw [if_neg (nI_nle (by omega) hc), gd_p (nI_ne0 (by omega) hc), nI_mod ha hc, ih (a % c) hm c f (by omega) hc (by omega), Nat.gcd_comm a c, Nat.gcd_rec c a, Nat.gcd_comm c (a % c)]
theorem xgcd : ∀ (k a c s f : Nat), c < 2 ^ k → s + 2 * k ≤ 100 → 2 * k + 1 < f → a < 2 ^ 31 → c < 2 ^ 31 → X11_commonDivisor_L1 f (nI a) (nI c) (nI s) = some (nI (Nat.gcd a c)) := by
  intro k
  induction k with
  | zero =>
    intro a c s f hc hs hf ha hc2
    obtain ⟨f, rfl⟩ : ∃ k, f = k + 1 := ⟨f - 1, by omega⟩
    have : c = 0 := by omega
    subst this
    rw [X11_commonDivisor_L1, Nat.gcd_zero_right]
    by_cases h : s < 100
    · rw [if_neg (show ¬ (100 : Int32) ≤ nI s from nI_ge (b := 100) h (by omega)), if_pos (by decide)]
    · rw [if_pos (show (100 : Int32) ≤ nI s from nI_le (a := 100) (by omega) (by omega))]
  | succ k ih =>
    intro a c s f hc hs hf ha hc2
    obtain ⟨f, rfl⟩ : ∃ k, f = k + 1 := ⟨f - 1, by omega⟩
    rw [X11_commonDivisor_L1, if_neg (show ¬ (100 : Int32) ≤ nI s from nI_ge (b := 100) (by omega) (by omega))]
    by_cases h : c = 0
    · subst h
      rw [if_pos (by decide), Nat.gcd_zero_right]
    · have hm : a % c < c := Nat.mod_lt _ (by omega)
      have e1 : Nat.gcd a c = Nat.gcd c (a % c) := by rw [Nat.gcd_comm a c, Nat.gcd_rec c a, Nat.gcd_comm c (a % c)]
      rw [if_neg (nI_nle (by omega) hc2), gd_p (nI_ne0 (by omega) hc2), nI_mod ha hc2, show nI s + 1 = nI (s + 1) from nI_add s 1, e1]
      obtain ⟨f, rfl⟩ : ∃ k, f = k + 1 := ⟨f - 1, by omega⟩
      rw [X11_commonDivisor_L1, if_neg (show ¬ (100 : Int32) ≤ nI (s + 1) from nI_ge (b := 100) (by omega) (by omega))]
      generalize hr : a % c = r at hm
      by_cases h2 : r = 0
      · subst h2
        rw [if_pos (by decide), Nat.gcd_zero_right]
      · have hm2 : c % r < r := Nat.mod_lt _ (by omega)
        have hd : r * 1 ≤ r * (c / r) := Nat.mul_le_mul (Nat.le_refl r) (Nat.div_pos (by omega) (by omega))
        have he := Nat.div_add_mod c r
        have e2 : Nat.gcd c r = Nat.gcd r (c % r) := by rw [Nat.gcd_comm c r, Nat.gcd_rec r c, Nat.gcd_comm r (c % r)]
        have hp : 2 ^ (k + 1) = 2 * 2 ^ k := by rw [Nat.pow_succ, Nat.mul_comm]
        rw [if_neg (nI_nle (by omega) (by omega)), gd_p (nI_ne0 (by omega) (by omega)), nI_mod hc2 (by omega), show nI (s + 1) + 1 = nI (s + 2) from nI_add (s + 1) 1, e2]
        exact ih r (c % r) (s + 2) f (by omega) (by omega) (by omega) (by omega) (by omega)
theorem gcd_b {a c : Nat} (ha : 0 < a) : 1 ≤ Nat.gcd a c ∧ Nat.gcd a c ≤ a := ⟨Nat.gcd_pos_of_pos_left c ha, Nat.gcd_le_left c ha⟩
theorem common_c {a c : Nat} (ha : 0 < a) (ha2 : a < 1000) (hc2 : c < 1000) : X11_commonDivisor (nI a) (nI c) = some (nI (Nat.gcd a c)) ∧ X12_divisor (nI a) (nI c) = some (nI (Nat.gcd a c)) := by
  refine ⟨?_, ?_⟩
  · unfold X11_commonDivisor
    have hz := zFU_ge
    have e1 : (if nI a < nI c then nI c else nI a) = nI (max a c) := by
      by_cases h : a < c
      · rw [if_pos (nI_lt h (by omega)), Nat.max_eq_right (by omega)]
      · rw [if_neg (nI_nlt (by omega) (by omega)), Nat.max_eq_left (by omega)]
    have e2 : (if nI c < nI a then nI c else nI a) = nI (min c a) := min_x c a hc2 ha2
    have e3 : Nat.gcd (max a c) (min c a) = Nat.gcd a c := by
      by_cases h : a < c
      · rw [Nat.max_eq_right (by omega), Nat.min_eq_right (by omega), Nat.gcd_comm]
      · rw [Nat.max_eq_left (by omega), Nat.min_eq_left (by omega)]
    obtain ⟨g1, g2⟩ := gcd_b (c := c) ha
    rw [e1, e2, lt_e, lt_e, show (0 : Int32) = nI 0 from rfl, xgcd 10 (max a c) (min c a) 0 zFU (by omega) (by omega) (by omega) (by omega) (by omega), b1_s, e3, if_neg (show ¬ nI (Nat.gcd a c) < 1 from nI_nlt (b := 1) g1 (by omega))]
  · unfold X12_divisor
    have hz := zFU_ge
    rw [mgcd c a zFU (by omega) (by omega) (by omega), b1_s]
