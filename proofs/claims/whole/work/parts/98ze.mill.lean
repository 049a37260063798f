/-! ===== phase 2: mill ===== -/
theorem p2_mill : zStep RR (fun M => (dO dIM) (X11_mill M)) (fun M => (dO dIM) (X12_mill M)) := zs_MM fun MX MM hR => by
  obtain ⟨b, mn, kd, bn, hr, hP⟩ := hR
  obtain ⟨M1, M2, MX3, MM12, MM13, n, tx, p, q, w, hw1, hb1, hbw, e1, e2, e3, hM, e4, fX3, fM3, gd, hD⟩ := start_c hP
  have hn := gd.1.2.2.2.2.1.1
  have hz := zFU_ge
  obtain ⟨ok, MXl, MMl, el, em, fX, fM, o⟩ := lines_c (X0 := MX) (M0 := uI MM 0 2 0) (n - p) zFU zFU 0 MX3 MM13 p q 0 0 0 6 (Nat.le_refl _) (by omega) (by omega) (by omega) gd hD fX3 fM3
  have hx : X4_readMill MX = some (ok, MXl) := by
    unfold X4_readMill
    rw [e1, bo_s, e2, bo_s, e3, bo_s, show X4_readMill_L1 zFU 1 0 MX3 = some (b2i ok, MXl) from el, b2_s]
    cases ok <;> rfl
  have hm : X12_mill MM = if X12_isGood MMl = true then lt_ (uI MMl 0 41 (MMl.1 0 42)) fun M19 => bo_ (X12_startAnew M19) fun M20 => gd_ (inb (M20.1 0 41) (2) = true) (some (M20.1 4 ((M20.1 0 41).toNatClampNeg), M20)) else some ((-1), MMl) := by
    unfold X12_mill
    rw [hM, e4, bo_s, em, b1_s]
  obtain ⟨hRM, hRS, hRA, hRX, hRH, hRI, hRT, hRO⟩ := hP
  have mO : ∀ a i, ¬ (a = 0 ∧ i = 2) → ¬ ((a = 0 ∧ ((3 ≤ i ∧ i ≤ 10) ∨ (42 ≤ i ∧ i ≤ 46))) ∨ (((3 ≤ a ∧ a ≤ 11) ∨ (21 ≤ a ∧ a ≤ 25)) ∧ i = w) ∨ ((a = 12 ∨ a = 13 ∨ a = 16 ∨ a = 17 ∨ a = 20) ∧ 5 * w ≤ i ∧ i < 5 * w + 5) ∨ ((a = 14 ∨ a = 15) ∧ 15 * w ≤ i ∧ i < 15 * w + 15) ∨ ((a = 18 ∨ a = 19) ∧ 9 * w ≤ i ∧ i < 9 * w + 9) ∨ ((a = 28 ∨ a = 29) ∧ 560 * w ≤ i ∧ i < 560 * w + 560) ∨ a = 30 ∨ a = 31 ∨ a = 2) → MMl.1 a i = MM.1 a i := fun a i z1 z2 => by rw [fM a i z2, uI_ne z1]
  have m02 : MMl.1 0 2 = 0 := by rw [fM 0 2 (by omega), uI_eq]
  obtain ⟨XX, hXX⟩ : ∃ XX, XX = uI MXl 1 1 0 := ⟨_, rfl⟩
  have xO : ∀ a i, ¬ (a = 1 ∧ i = 1) → ¬ (a = 16 ∨ (3 ≤ a ∧ a ≤ 14) ∨ (18 ≤ a ∧ a ≤ 22)) → XX.1 a i = MX.1 a i := fun a i z1 z2 => by rw [hXX, uI_ne z1, fX a i z2]
  rcases o with ⟨rfl, p', q', mn', kd', bn', hr', gd', hD'⟩ | ⟨rfl, bd⟩
  · have hD42 := hD'.1.1
    have hmn' := hD'.2.1.1.1
    obtain ⟨A, eA, fA, a23, a5, a15, a9, af2, af3, afc⟩ := becomeM_c (M := XX)
    have x4 : XX.1 4 0 = nI mn' := by rw [hXX, uI_ne (by omega)]; exact hD'.2.1.2.1.1
    have A23 : A.1 23 0 = nI mn' := by rw [a23 0 (by omega), x4]
    obtain ⟨B, eB, fB, b15, b30, b24, b41, b5⟩ := begin35_c A23 hmn'
    obtain ⟨C, eC, fC, c2, c3, c4, c40⟩ := forget0_c (M := B)
    obtain ⟨E, hE⟩ : ∃ E, E = uI (uI C 51 1 0) 53 7 0 := ⟨_, rfl⟩
    obtain ⟨G, eG, fG, g64⟩ := wr1_loop X11_mill_L1 E 64 0 3 (fun _ => 0) (by omega) (fun N s _ => by rw [X11_mill_L1, if_pos (by decide)]) (fun N i s hi _ => by
      rw [X11_mill_L1, if_neg (show ¬ (3 : Int32) ≤ nI i from nI_ge (b := 3) hi (by omega)), gd_in (by omega) (by omega), nI_clamp (by omega), lt_e, show nI i + 1 = nI (i + 1) from nI_add i 1, Nat.zero_add])
    have gE : ∀ a i, a ≠ 64 → G.1 a i = E.1 a i := fun a i z => fG.2 a i (fun y => z y.1)
    have eCe : ∀ a i, ¬ (a = 51 ∧ i = 1) → ¬ (a = 53 ∧ i = 7) → E.1 a i = C.1 a i := fun a i z1 z2 => by rw [hE, uI_ne z2, uI_ne z1]
    have gC : ∀ a i, a ≠ 64 → ¬ (a = 51 ∧ i = 1) → ¬ (a = 53 ∧ i = 7) → G.1 a i = C.1 a i := fun a i z z1 z2 => by rw [gE a i z, eCe a i z1 z2]
    have gB : ∀ a i, a ≠ 64 → ¬ (a = 51 ∧ i = 1) → ¬ (a = 53 ∧ i = 7) → a ≠ 39 → a ≠ 40 → G.1 a i = B.1 a i := fun a i z z1 z2 z3 z4 => by rw [gC a i z z1 z2, fC.2 a i (by omega)]
    have gA : ∀ a i, a ≠ 64 → ¬ (a = 51 ∧ i = 1) → ¬ (a = 53 ∧ i = 7) → a ≠ 39 → a ≠ 40 → a ≠ 36 → G.1 a i = A.1 a i := fun a i z z1 z2 z3 z4 z5 => by rw [gB a i z z1 z2 z3 z4, fB.2 a i (by unfold SBg; omega)]
    have gX : ∀ a i, a ≠ 64 → ¬ (a = 51 ∧ i = 1) → ¬ (a = 53 ∧ i = 7) → a ≠ 39 → a ≠ 40 → a ≠ 36 → ¬ (23 ≤ a ∧ a ≤ 33) → G.1 a i = XX.1 a i := fun a i z z1 z2 z3 z4 z5 z6 => by rw [gA a i z z1 z2 z3 z4 z5, fA.2 a i (by unfold SBe; omega)]
    have xl : ∀ a i, ¬ (a = 1 ∧ i = 1) → XX.1 a i = MXl.1 a i := fun a i z => by rw [hXX, uI_ne z]
    obtain ⟨V, hV⟩ : ∃ V, V = uI MMl 0 41 (nI w) := ⟨_, rfl⟩
    have v41 : V.1 0 41 = nI w := by rw [hV, uI_eq]
    have v4 : V.1 4 w = nI mn' := by rw [hV, uI_ne (by omega)]; exact hD'.2.1.2.1.2.1
    obtain ⟨W, eW, fW, w14, w12, w15, w41, w9, ⟨w50, w51, w78, w55⟩, w54⟩ := startAnew_c v41 hw1 v4 hmn'
    have wV : ∀ a i, ¬ ((a = 33 ∧ i < 42) ∨ (a = 0 ∧ (i = 50 ∨ i = 51 ∨ i = 78 ∨ i = 55)) ∨ (a = 54 ∧ i < 3)) → W.1 a i = V.1 a i := fun a i z => fW.2 a i z
    have wl : ∀ a i, ¬ ((a = 33 ∧ i < 42) ∨ (a = 0 ∧ (i = 41 ∨ i = 50 ∨ i = 51 ∨ i = 78 ∨ i = 55)) ∨ (a = 54 ∧ i < 3)) → W.1 a i = MMl.1 a i := fun a i z => by rw [wV a i (by omega), hV, uI_ne (by omega)]
    refine ⟨nI mn', G, W, ?_, ?_, w, mn', kd', bn', hr', ?_⟩
    · unfold X11_mill X7_clear X8_forget
      rw [hx, bp_s, ← hXX, lt_e XX, if_pos rfl, eA, bo_s, eB, bo_s, eC, bo_s, lt_e (uI C 51 1 0), lt_e (uI C 51 1 0), lt_e (uI (uI C 51 1 0) 53 7 0), ← hE, lt_e E, show X11_mill_L1 zFU 0 E = some G from eG, b1_s, gA 23 0 (by omega) (by omega) (by omega) (by omega) (by omega) (by omega), A23]
    · rw [hm, if_pos gd'.good, hD42, ← hV, lt_e, eW, bo_s, wV 0 41 (by omega), v41, gd_in (by omega) (by omega), nI_clamp (by omega), wV 4 w (by omega), v4]
    · have hRM0 := hD'.2.1
      have hRMn : RM G.1 23 W.1 w mn' kd' bn' hr' := by
        refine hRM0.cp (fun i hi => ?_) (fun i hi => ?_) (fun i hi => ?_) (fun i hi => ?_) ?_ ?_ (fun i hi => ?_) (fun a i z1 z2 => wl a i (by omega))
        · rw [gA 23 i (by omega) (by omega) (by omega) (by omega) (by omega) (by omega), a23 i hi, xl 4 i (by omega)]
        · rw [gA 24 i (by omega) (by omega) (by omega) (by omega) (by omega) (by omega), gA 25 i (by omega) (by omega) (by omega) (by omega) (by omega) (by omega), gA 26 i (by omega) (by omega) (by omega) (by omega) (by omega) (by omega), gA 31 i (by omega) (by omega) (by omega) (by omega) (by omega) (by omega), ← xl 5 i (by omega), ← xl 6 i (by omega), ← xl 7 i (by omega), ← xl 12 i (by omega)]
          exact a5 i hi
        · rw [gA 27 i (by omega) (by omega) (by omega) (by omega) (by omega) (by omega), gA 28 i (by omega) (by omega) (by omega) (by omega) (by omega) (by omega), ← xl 8 i (by omega), ← xl 9 i (by omega)]
          exact a15 i hi
        · rw [gA 29 i (by omega) (by omega) (by omega) (by omega) (by omega) (by omega), gA 30 i (by omega) (by omega) (by omega) (by omega) (by omega) (by omega), ← xl 10 i (by omega), ← xl 11 i (by omega)]
          exact a9 i hi
        · rw [gA 32 2 (by omega) (by omega) (by omega) (by omega) (by omega) (by omega), af2, xl 13 2 (by omega)]
        · rw [gA 32 3 (by omega) (by omega) (by omega) (by omega) (by omega) (by omega), af3, xl 13 3 (by omega)]
        · rw [gA 33 i (by omega) (by omega) (by omega) (by omega) (by omega) (by omega), afc i hi, xl 14 i (by omega)]
      have x36 : ∀ j, G.1 36 j = B.1 36 j := fun j => gB 36 j (by omega) (by omega) (by omega) (by omega) (by omega)
      obtain ⟨⟨k1, k2, k3, k4, k5⟩, ⟨m1, m2, m3, m4, m5, m6, m7, m8, m9⟩, ⟨d, d1, d2, d3⟩, kp, _, _, r1, r2, _⟩ := id hRM0
      have A27 : ∀ j, j < 15 → A.1 27 j = MXl.1 8 j := fun j hj => by rw [(a15 j hj).1, xl 8 j (by omega)]
      have hRSn : RS (G.1 36) (W.1 33) mn' kd' hr' 999 := by
        refine ⟨fun i k hi hk => ?_, fun i k hi hk => ?_, fun i hi => ?_, fun i hi => ⟨0, by omega, ?_, ?_⟩, ⟨0, by omega, ?_, ?_⟩, ⟨d, d1, ?_, ?_⟩⟩
        · rw [x36, b15 _ (by omega), A27 _ (by omega)]
          by_cases z : i < mn'
          · obtain ⟨x, x1, x2, x3, x4⟩ := r1 i k z hk
            refine ⟨x, by omega, x2, ?_, fun y => x4 (by omega)⟩
            rw [w14 i k z hk, hV, uI_ne (by omega)]; exact x3
          · exact ⟨0, by omega, r2 _ (by omega) (by omega), w15 _ (by omega) (by omega), fun _ => rfl⟩
        · rw [x36, b30 _ (by omega) (by omega), w41 _ (by omega) (by omega)]
          exact ⟨rfl, fun _ => rfl⟩
        · rw [x36]
          by_cases z : i < mn'
          · rw [b24 i z, (a5 i (by omega)).1, xl 5 i (by omega), w12 i z, hV, uI_ne (by omega)]
            exact kp i z
          · rw [b41 _ (by omega) (by omega), w41 _ (by omega) (by omega)]
        · rw [x36, b41 _ (by omega) (by omega)]; rfl
        · rw [w41 _ (by omega) (by omega)]; rfl
        · rw [x36, b41 _ (by omega) (by omega)]; rfl
        · rw [w41 _ (by omega) (by omega)]; rfl
        · rw [x36, b5, a23 5 (by omega), xl 4 5 (by omega)]; exact d2
        · rw [w9, hV, uI_ne (by omega)]; exact d3
      refine ⟨hRMn, hRSn, ⟨0, 0, 0, by omega, by omega, by omega, ?_, ?_, ?_, ?_, ?_, fun j hj => ?_, fun i hi => by omega, fun i hi => by omega⟩, fun x hx => Or.inl ⟨?_, w54 x hx⟩, ⟨0, by omega, ?_, ?_, fun i hi => by omega⟩, ?_, ⟨0, by omega, ?_, ?_, fun i hi => by omega⟩, ?_, ?_, hw1, ?_, fun i hi => ?_⟩
      · rw [gC 39 2 (by omega) (by omega) (by omega)]; exact c2
      · rw [gC 39 3 (by omega) (by omega) (by omega)]; exact c3
      · rw [gC 39 4 (by omega) (by omega) (by omega)]; exact c4
      · exact w50
      · exact w51
      · show G.1 40 (42 * 0 + j) = _
        rw [Nat.mul_zero, Nat.zero_add, gC 40 j (by omega) (by omega) (by omega), c40 j hj, x36]
      · have := g64 x hx
        rw [Nat.zero_add] at this
        exact this
      · rw [gE 51 1 (by omega), hE]; rfl
      · exact w55
      · obtain ⟨n0, t, _, t1, _, _, t2, t3, _⟩ := hRI
        refine ⟨0, t, by omega, t1, ?_, w78, ?_, ?_, fun i hi => by omega⟩
        · rw [gE 53 7 (by omega), hE]; rfl
        · rw [gX 53 8 (by omega) (by omega) (by omega) (by omega) (by omega) (by omega) (by omega), xO 53 8 (by omega) (by omega)]; exact t2
        · rw [wl 0 79 (by omega), mO 0 79 (by omega) (by omega)]; exact t3
      · rw [gX 1 1 (by omega) (by omega) (by omega) (by omega) (by omega) (by omega) (by omega), hXX]; rfl
      · rw [wl 0 2 (by omega)]; exact m02
      · rw [gX 16 5 (by omega) (by omega) (by omega) (by omega) (by omega) (by omega) (by omega), xl 16 5 (by omega), wl 0 4 (by omega), gd'.2.1, gd'.2.2.2.1]
      · rw [gX 16 6 (by omega) (by omega) (by omega) (by omega) (by omega) (by omega) (by omega), xl 16 6 (by omega), wl 0 5 (by omega), gd'.2.2.1, gd'.2.2.2.2]
      · rw [wV 0 41 (by omega)]; exact v41
      · rw [gX 38 i (by omega) (by omega) (by omega) (by omega) (by omega) (by omega) (by omega), gX 45 i (by omega) (by omega) (by omega) (by omega) (by omega) (by omega) (by omega), xO 38 i (by omega) (by omega), xO 45 i (by omega) (by omega)]
        exact hRO.2.2.2.2 i hi
  · refine ⟨-1, XX, MMl, ?_, ?_, b, mn, kd, bn, hr, ?_⟩
    · unfold X11_mill
      rw [hx, bp_s, ← hXX, lt_e, if_neg Bool.false_ne_true]
    · rw [hm, bd.bad, if_neg Bool.false_ne_true]
    · have hRM1 : RM MX.1 23 (uI MM 0 2 0).1 b mn kd bn hr := hRM.cg (fun _ _ _ _ => rfl) (fun a i z1 z2 => uI_ne (by omega))
      refine ⟨hRM1.bk (fun a i z1 z2 => xO a i (by omega) (by omega)) fM hb1 hw1 hbw, hRS.cg (fun j _ => xO 36 j (by omega) (by omega)) (fun j _ => mO 33 j (by omega) (by omega)), hRA.cg (fun a i z => xO a i (by omega) (by omega)) (mO 0 50 (by omega) (by omega)) (mO 0 51 (by omega) (by omega)) (fun i => mO 34 i (by omega) (by omega)), hRX.cg (fun a i z => xO a i (by omega) (by omega)) (fun a i z => mO a i (by omega) (by omega)), hRH.cg (xO 51 1 (by omega) (by omega)) (fun i => xO 52 i (by omega) (by omega)) (mO 0 55 (by omega) (by omega)) (fun i => mO 37 i (by omega) (by omega)), hRI.cg (xO 53 7 (by omega) (by omega)) (xO 53 8 (by omega) (by omega)) (fun a i z1 z2 => xO a i (by omega) (by omega)) (mO 0 78 (by omega) (by omega)) (mO 0 79 (by omega) (by omega)) (fun a i z1 z2 => mO a i (by omega) (by omega)), ⟨0, by omega, by rw [hXX]; rfl, m02, fun i hi => by omega⟩, ?_, ?_, hb1, (mO 0 41 (by omega) (by omega)).trans hRO.2.2.2.1, fun i hi => ?_⟩
      · obtain ⟨f, p0, _, _, y1, y2, y3, y4, _⟩ := bd
        rw [hXX, uI_ne (by omega), y1, y3]
      · obtain ⟨f, p0, _, _, y1, y2, y3, y4, _⟩ := bd
        rw [hXX, uI_ne (by omega), y2, y4]
      · rw [xO 38 i (by omega) (by omega), xO 45 i (by omega) (by omega)]
        exact hRO.2.2.2.2 i hi
