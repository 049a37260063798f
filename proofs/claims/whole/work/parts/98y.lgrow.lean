/-! ===== phase 2: the line of the formula ===== -/
theorem RM.form {X X' V V' : Nat → Nat → Int32} {b mn kd bn hr : Nat} (h : RM X 4 V b mn kd bn hr) (hx : ∀ a i, 4 ≤ a → a ≤ 12 → X' a i = X a i) (hv : ∀ a i, 3 ≤ a → a ≤ 20 → a ≠ 7 → a ≠ 11 → a ≠ 16 → a ≠ 17 → V' a i = V a i) (hf : RF X' 13 V' b) : RM X' 4 V' b mn kd bn hr := by
  obtain ⟨⟨h1, h2, h3, h4, h5⟩, ⟨m1, m2, m3, m4, m5, m6, m7, m8, m9⟩, d, k1, ⟨mask, q1, q2, q3⟩, hd, r1, r2, r3, r4, r5, _⟩ := h
  have v : ∀ a i, 3 ≤ a ∧ a ≤ 20 ∧ a ≠ 7 ∧ a ≠ 11 ∧ a ≠ 16 ∧ a ≠ 17 → V' a i = V a i := fun a i z => hv a i z.1 z.2.1 z.2.2.1 z.2.2.2.1 z.2.2.2.2.1 z.2.2.2.2.2
  have x : ∀ a i, 4 ≤ a ∧ a ≤ 12 → X' a i = X a i := fun a i z => hx a i z.1 z.2
  refine ⟨⟨h1, h2, h3, h4, h5⟩, ⟨(x 4 0 (by omega)).trans m1, (v 4 b (by omega)).trans m2, (x 4 1 (by omega)).trans m3, (v 3 b (by omega)).trans m4, (x 4 2 (by omega)).trans m5, (v 5 b (by omega)).trans m6, ((x 4 3 (by omega)).trans m7).trans (v 6 b (by omega)).symm, (x 4 4 (by omega)).trans m8, (v 8 b (by omega)).trans m9⟩, by rw [x 4 5 (by omega), v 9 b (by omega)]; exact d, fun i hi => by rw [x (4 + 1) i (by omega), v 12 _ (by omega)]; exact k1 i hi, ⟨mask, q1, (v 10 b (by omega)).trans q2, fun i hi => (x (4 + 2) i (by omega)).trans (q3 i hi)⟩, fun i hi => by rw [x (4 + 3) i (by omega), v 13 _ (by omega)]; exact hd i hi, fun i k hi hk => by rw [x (4 + 4) _ (by omega), v 14 _ (by omega)]; exact r1 i k hi hk, fun j h1 h2 => (x (4 + 4) j (by omega)).trans (r2 j h1 h2), fun i k hi hk => by rw [x (4 + 5) _ (by omega), v 15 _ (by omega)]; exact r3 i k hi hk, fun r hr => by rw [x (4 + 6) r (by omega), x (4 + 7) r (by omega), v 18 _ (by omega), v 19 _ (by omega)]; exact r4 r hr, fun i hi => by rw [x (4 + 8) i (by omega), v 20 _ (by omega)]; exact r5 i hi, hf⟩
noncomputable def mGrow (M44 : Mem) : Option Mem :=
        gd_ (inb (M44.1 0 42) (2) = true) (
        lt_ (uI M44 23 ((M44.1 0 42).toNatClampNeg) 1) fun M47 =>
        bo_ (X12_readRule 0 M47) fun M48 =>
        some M48)
noncomputable def xGrow (M4 : Mem) : Option (Bool × Mem) :=
    lt_ (uI M4 3 8 1) fun M6 =>
    bp_ ((X2_RR 10).1 0 M6) fun b7 M8 =>
    if b7 = true then
      bp_ (X6_takesSign 59 M8) fun b10 M11 =>
      if b10 = true then
        some (true, M11)
      else
      some (false, M11)
    else
    some (false, M8)
theorem b08 {M M17 : Mem} (h : X12_rankHere M = some (nI 0)) (hp : X12_behindUnit_L1 (nI 0) zFU M = some M17) (h45 : M17.1 0 45 = nI 1) (h30 : ¬ M17.1 30 0 = 7) : X12_behindUnit M = some (false, uI M17 0 45 (nI 0)) := by
  unfold X12_behindUnit
  rw [h, bo_s, if_neg (show ¬ nI 0 = 4 by decide), b1_s, if_pos rfl, hp, b1_s, if_pos (show nI 0 ≤ 0 by decide), h45, show nI 1 - 1 = nI 0 by decide, lt_e (uI M17 0 45 (nI 0)), show (uI M17 0 45 (nI 0)).1 0 45 = nI 0 from uI_eq _ _ _ _, gd_in (by omega) (by omega), nI_clamp (by omega), if_neg (show ¬ (uI M17 0 45 (nI 0)).1 30 0 = 7 from h30)]
/-- the reference's formula line, when its loop has ended in M4 -/
theorem rule_c {M M4 : Mem} {w f : Nat} (h42 : M.1 0 42 = nI w) (hw : w ≤ 1) (h43 : M.1 0 43 = nI f) (VV : Mem) (hVV : VV = uI (uI (uI (uI (uI (uI (uI (uI M 23 w 1) 0 46 0) 21 w (nI f)) 0 45 0) 0 44 0) 30 0 8) 31 0 0) 0 45 (nI 1)) (he : X12_e_L1 zFU 1 VV = some M4) (h4 : M4.1 0 42 = nI w) : mGrow M = some (uI M4 22 w (M4.1 0 43)) := by
  obtain ⟨A, hA⟩ : ∃ A, A = uI M 23 w 1 := ⟨_, rfl⟩
  obtain ⟨A1, hA1⟩ : ∃ A1, A1 = uI A 0 46 0 := ⟨_, rfl⟩
  obtain ⟨A2, hA2⟩ : ∃ A2, A2 = uI A1 21 w (nI f) := ⟨_, rfl⟩
  have c42 : A1.1 0 42 = nI w := by rw [hA1, hA]; exact h42
  have c43 : A1.1 0 43 = nI f := by rw [hA1, hA]; exact h43
  have ee : X12_e A2 = some M4 := by
    unfold X12_e
    rw [lt_e (uI A2 0 45 0), lt_e (uI (uI A2 0 45 0) 0 44 0), pushE_c (M := uI (uI A2 0 45 0) 0 44 0) (e := 0) 8 0 rfl (by omega), bo_s, show uI (uI (uI (uI (uI A2 0 45 0) 0 44 0) 30 0 8) 31 0 0) 0 45 (nI (0 + 1)) = VV by rw [hVV, hA2, hA1, hA], he, b1_s]
  have c0 : nI w + 0 = nI w := nI_add w 0
  unfold mGrow X12_readRule
  rw [h42, gd_in (by omega) (by omega), nI_clamp (by omega), ← hA, lt_e A, ← hA1, lt_e A1, c42, c0, gd_in (by omega) (by omega), nI_clamp (by omega), c43, ← hA2, lt_e A2, ee, bo_s, h4, c0, gd_in (by omega) (by omega), nI_clamp (by omega), lt_e, bo_s]
theorem lnGrow_c {MX MM : Mem} {n : Nat} {tx : Nat → Nat} {p q w mn kd bn hr : Nat} (h : GD MX MM n tx p q) (hD : DR MX MM w mn kd bn hr) (hg : MX.1 3 8 = nI 0) : ∃ ok MX' MM', xGrow MX = some (ok, MX') ∧ bo_ (mGrow MM) mEnd = some MM' ∧ LO n tx p w MX MM ok MX' MM' := by
  have hw := hD.1
  have hw1 := hw.2
  have hle := h.1.2.2.2.2.2.le
  have hn := h.1.2.2.2.2.1.1
  obtain ⟨g43, g2, g3, g7⟩ := hD.2.2.2.2.2.2.2.2.2.2.2.2 hg
  obtain ⟨XX, hXX⟩ : ∃ XX, XX = uI MX 3 8 1 := ⟨_, rfl⟩
  obtain ⟨VV, hVV⟩ : ∃ VV, VV = uI (uI (uI (uI (uI (uI (uI (uI MM 23 w 1) 0 46 0) 21 w (nI (560 * w))) 0 45 0) 0 44 0) 30 0 8) 31 0 0) 0 45 (nI 1) := ⟨_, rfl⟩
  have gd : GD XX VV n tx p q := by rw [hXX, hVV]; exact h
  have vf : ∀ a i, ¬ (a = 0 ∧ (i = 44 ∨ i = 45 ∨ i = 46)) → ¬ ((a = 30 ∨ a = 31) ∧ i = 0) → ¬ ((a = 21 ∨ a = 23) ∧ i = w) → VV.1 a i = MM.1 a i := fun a i z1 z2 z3 => by rw [hVV, uI_ne (by omega), uI_ne (by omega), uI_ne (by omega), uI_ne (by omega), uI_ne (by omega), uI_ne (by omega), uI_ne (by omega), uI_ne (by omega)]
  have v23 : VV.1 23 w = 1 := by rw [hVV, uI_ne (by omega), uI_ne (by omega), uI_ne (by omega), uI_ne (by omega), uI_ne (by omega), uI_ne (by omega), uI_ne (by omega), uI_eq]
  have v21 : VV.1 21 w = nI (560 * w) := by rw [hVV, uI_ne (by omega), uI_ne (by omega), uI_ne (by omega), uI_ne (by omega), uI_ne (by omega), uI_eq]
  have v30 : VV.1 30 0 = nI 8 := by rw [hVV, uI_ne (by omega), uI_ne (by omega), uI_eq]; rfl
  have vl : ∀ a i, VV.2 a i = MM.2 a i := fun a i => by rw [hVV]; rfl
  have es : ES w 1 0 0 0 0 (fun _ => 0) XX VV := by
    refine ⟨by rw [vf 0 42 (by omega) (by omega) (by omega)]; exact hw.1, hw1, by rw [hXX, uI_ne (by omega)]; exact g2, by rw [hXX, uI_ne (by omega)]; exact g3, by rw [vf 7 w (by omega) (by omega) (by omega)]; exact g7, ?_, by rw [vf 0 43 (by omega) (by omega) (by omega)]; exact g43, ?_, ?_, rfl, fun i hi => by omega, fun i hi => by omega⟩
    · rw [hVV, uI_ne (by omega), uI_ne (by omega), uI_ne (by omega), uI_ne (by omega), uI_ne (by omega), uI_ne (by omega), uI_eq]; rfl
    · rw [hVV, uI_eq]
    · rw [hVV, uI_ne (by omega), uI_ne (by omega), uI_ne (by omega), uI_eq]; rfl
  obtain ⟨ok, MX1, x1, F1⟩ := (rr_c 10 0 (by omega) (by omega)).1 n tx w 1 0 0 (fun _ => 0) p q XX VV ⟨gd, es, by omega, ⟨8, v30, by omega, by omega⟩, by omega, by omega, by omega, Nat.le_refl 0, by omega⟩ (fun z => by omega)
  have x1 : (X2_RR 10).1 0 XX = some (ok, MX1) := x1
  -- a fault: both end alike
  have bad : ∀ (MX' M4 : Mem), xGrow MX = some (false, MX') → X12_e_L1 zFU 1 VV = some M4 → FXf XX MX' → FMf w VV M4 → BD MX' M4 → ∃ ok MX' MM', xGrow MX = some (ok, MX') ∧ bo_ (mGrow MM) mEnd = some MM' ∧ LO n tx p w MX MM ok MX' MM' := fun MX' M4 k1 k2 k3 k4 bd => by
    have c42 : M4.1 0 42 = nI w := by rw [k4.1 0 42 (by omega), vf 0 42 (by omega) (by omega) (by omega)]; exact hw.1
    have bd2 : BD MX' (uI M4 22 w (M4.1 0 43)) := bd.fr rfl rfl rfl rfl rfl rfl
    refine ⟨false, MX', uI M4 22 w (M4.1 0 43), k1, by rw [rule_c hw.1 hw1 g43 VV hVV k2 c42, bo_s, end_bad bd2], fun a i z => ?_, fun a i z => ?_, Or.inr ⟨rfl, bd2⟩⟩
    · rw [k3.1 a i (by omega) (by omega) (by omega), hXX, uI_ne (by omega)]
    · rw [uI_ne (by omega), k4.1 a i (by omega), vf a i (by omega) (by omega) (by omega)]
  have hxp : ∀ R, (if ok = true then bp_ (X6_takesSign 59 MX1) fun b10 M11 => if b10 = true then some (true, M11) else some (false, M11) else some (false, MX1)) = R → xGrow MX = R := fun R hR => by
    unfold xGrow
    rw [← hXX, lt_e XX, x1, bp_s]
    exact hR
  cases ok with
  | false =>
    obtain ⟨f1, M4, j, G1, G2, G3, bd⟩ := F1.no
    obtain ⟨N, hN⟩ := zFU_s j (by omega)
    exact bad MX1 M4 (hxp _ (if_neg Bool.false_ne_true)) (by rw [hN, G2]) f1 G3 bd
  | true =>
    obtain ⟨f1, MM1, p1, q1, k, r, u1, D1, j, G1, G2, G3, G4, G5, G6, G7, G8, G9, G10, G11, G12, G13⟩ := F1.ok
    have hle1 := G4.1.2.2.2.2.2.le
    obtain ⟨v, hv⟩ := rank_c G4.1
    obtain ⟨N, hN⟩ := zFU_s (j + 2) (by omega)
    have hN' : zFU = (N + 2) + j := by omega
    by_cases hv0 : v = 0
    · rw [hv0] at hv
      obtain ⟨M17, p1', es5, pf⟩ := pop_c (v := 0) G5 (by omega) (by omega) (by omega) (fun i hi => by
        obtain ⟨t', t1, t2, t3⟩ := G6 i hi
        exact ⟨t', by omega, t2, t3⟩) ⟨8, by rw [(G8 0 (by omega)).1, v30], by omega, by omega⟩ (by omega)
      have hb := b08 hv.1 p1' (by rw [es5.2.2.2.2.2.2.2.1]) (by rw [pf.1 30 0 (by omega) (by omega), (G8 0 (by omega)).1, v30]; decide)
      obtain ⟨M19, hM19⟩ : ∃ M19, M19 = uI M17 0 45 (nI 0) := ⟨_, rfl⟩
      rw [← hM19] at hb
      have gd1 : GD MX1 M17 n tx p1 q1 := G4.pf pf
      have gd19 : GD MX1 M19 n tx p1 q1 := by rw [hM19]; exact gd1
      have he : X12_e_L1 zFU 1 VV = some M19 := by
        rw [hN', G2, show N + 2 = (N + 1) + 1 from rfl, eB (N + 1) G4.good G5.2.2.2.2.2.2.2.1 (by omega) (by omega) hb]
        exact eE N 0 gd19.good (by rw [hM19, uI_eq])
      have f19 : ∀ a i, ¬ (a = 0 ∧ i = 45) → M19.1 a i = M17.1 a i := fun a i z => by rw [hM19, uI_ne z]
      obtain ⟨c1, c2, c3, c4, c5, c6, c7, c8, c9, c10, c11, c12⟩ := es5
      have c42 : M19.1 0 42 = nI w := (f19 0 42 (by omega)).trans c1
      have c43 : M19.1 0 43 = nI (560 * w + (r + k)) := (f19 0 43 (by omega)).trans c7
      have hm := rule_c hw.1 hw1 g43 VV hVV he c42
      rw [c43] at hm
      obtain ⟨ZZ, hZZ⟩ : ∃ ZZ, ZZ = uI M19 22 w (nI (560 * w + (r + k))) := ⟨_, rfl⟩
      rw [← hZZ] at hm
      have gd3 : GD MX1 ZZ n tx p1 q1 := by rw [hZZ]; exact gd19
      have zf : ∀ a i, ¬ (a = 0 ∧ i = 45) → ¬ (a = 22 ∧ i = w) → ZZ.1 a i = M17.1 a i := fun a i z1 z2 => by rw [hZZ, uI_ne z2, f19 a i z1]
      have fZ : ∀ a i, ¬ ((a = 0 ∧ ((4 ≤ i ∧ i ≤ 9) ∨ (43 ≤ i ∧ i ≤ 46))) ∨ (a = 7 ∧ i = w) ∨ ((a = 28 ∨ a = 29) ∧ 560 * w ≤ i ∧ i < 560 * w + 560) ∨ a = 30 ∨ a = 31 ∨ (a = 22 ∧ i = w)) → ZZ.1 a i = VV.1 a i := fun a i z => by rw [zf a i (by omega) (by omega), pf.1 a i (by omega) (by omega), G3.1 a i (by omega)]
      have xe : ∀ a i, a ≠ 16 ∧ a ≠ 13 ∧ a ≠ 14 → ¬ (a = 3 ∧ i = 8) → MX1.1 a i = MX.1 a i := fun a i z1 z2 => by rw [f1.1 a i z1.1 z1.2.1 z1.2.2, hXX, uI_ne z2]
      have me : ∀ a i, ¬ ((a = 0 ∧ ((4 ≤ i ∧ i ≤ 9) ∨ (43 ≤ i ∧ i ≤ 46))) ∨ (a = 7 ∧ i = w) ∨ ((a = 28 ∨ a = 29) ∧ 560 * w ≤ i ∧ i < 560 * w + 560) ∨ a = 30 ∨ a = 31) → ¬ ((a = 21 ∨ a = 22 ∨ a = 23) ∧ i = w) → ZZ.1 a i = MM.1 a i := fun a i z1 z2 => by rw [fZ a i (by omega), vf a i (by omega) (by omega) (by omega)]
      have hl2 : ∀ a i, a ≠ 16 → MX1.2 a i = MX.2 a i := fun a i z => by rw [f1.2 a i z, hXX]; rfl
      have ml2 : ∀ a i, a ≠ 0 → ZZ.2 a i = MM.2 a i := fun a i z => by
        rw [hZZ, uI_g2, hM19, uI_g2, pf.2, G3.2 a i z, vl]
      have z23 : ZZ.1 23 w = 1 := by rw [fZ 23 w (by omega), v23]
      have x38 : MX1.1 3 8 = 1 := by rw [f1.1 3 8 (by decide) (by decide) (by decide), hXX, uI_eq]
      have hRF : RF MX1.1 13 ZZ.1 w := by
        have hlen : 0 < r + k := by
          refine Nat.pos_of_ne_zero fun z => ?_
          rw [z, c10] at G12
          omega
        refine ⟨u1, r + k, 560 * w, D1, G10, c4, ?_, c3, by omega, ⟨by omega, rfl⟩, c10, Or.inr ⟨z23, hlen, ?_, ?_, by omega⟩, fun i hi => ?_⟩
        · rw [zf 7 w (by omega) (by omega)]; exact c5
        · rw [fZ 21 w (by omega), v21]
        · rw [hZZ, uI_eq]
        · rw [zf 28 _ (by omega) (by omega), zf 29 _ (by omega) (by omega)]; exact c11 i hi
      have hRM := hD.2.1.form (X' := MX1.1) (V' := ZZ.1) (fun a i y1 y2 => xe a i (by omega) (by omega)) (fun a i y1 y2 y3 y4 y5 y6 => me a i (by omega) (by omega)) hRF
      have hD2 : DR MX1 ZZ w mn kd bn hr := by
        obtain ⟨⟨h1, h1'⟩, h2, h3, h4, h5, h6, h7, h8, h9, h10, h11, h12, h13⟩ := hD
        refine ⟨⟨(me 0 42 (by omega) (by omega)).trans h1, h1'⟩, hRM, h3.fr (fun i => hl2 18 i (by omega)) (fun i => ml2 26 i (by omega)), h4.fr (fun i => hl2 19 i (by omega)) (fun i => ml2 27 i (by omega)), fun m hm' => ?_, fun j h1 h2 => ?_, ?_, ?_, ?_, ?_, fun i h1 h2 => ?_, ?_, ?_⟩
        · rw [me 16 _ (by omega) (by omega), me 17 _ (by omega) (by omega)]
          simp only [fun i => xe 20 i (by omega) (by omega), fun i => xe 21 i (by omega) (by omega)]
          exact h5 m hm'
        · rw [xe 20 j (by omega) (by omega), xe 21 j (by omega) (by omega), xe 8 j (by omega) (by omega), xe 9 j (by omega) (by omega)]; exact h6 j h1 h2
        · rw [me 11 _ (by omega) (by omega)]
          simp only [fun i => xe 22 i (by omega) (by omega)]
          exact h7
        · exact ⟨1, by omega, x38, z23⟩
        · rw [xe 3 9 (by omega) (by omega), me 24 _ (by omega) (by omega)]; exact h9
        · rw [xe 3 10 (by omega) (by omega), me 25 _ (by omega) (by omega)]; exact h10
        · rw [xe 6 i (by omega) (by omega), xe 7 i (by omega) (by omega)]; exact h11 i h1 h2
        · rw [me 10 _ (by omega) (by omega)]; exact h12
        · intro z; rw [x38] at z; exact absurd z (by decide)
      obtain ⟨ok, MX', MM', s1, s2, s3, s4, s5⟩ := end_c gd3 hD2
      have fX : XF MX MX1 := fun a i y => xe a i (by omega) (by omega)
      have fM : MF w MM ZZ := fun a i y => me a i (by omega) (by omega)
      refine ⟨ok, MX', MM', hxp _ ?_, by rw [hm, bo_s, s2], fX.tr s3, fM.tr s4, ?_⟩
      · rw [if_pos rfl, s1, bp_s]
        cases ok <;> rfl
      · rcases s5 with ⟨y, p9, q9, mn', kd', bn', hr', y1, y2, y3⟩ | y
        · refine Or.inl ⟨y, p9, q9, mn', kd', bn', hr', y1, ?_, y3⟩
          have := gd3.1.2.2.2.2.2.le
          omega
        · exact Or.inr y
    · obtain ⟨h4, hc⟩ := G7 v hv.1 hv.2.1 (by omega)
      have hne := (hv.2.2.2.2.2.2.2.2.1 hv0).2.2
      obtain ⟨MX4, MM4, y1, y2, o⟩ := misplaced_c G4
      have bd := out_bad o
      have hb := bC (by rw [hv.1, h4]) hc
      refine bad MX4 MM4 (hxp _ ?_) ?_ (f1.tr o.1.f) (G3.tr o.2.1.f) bd
      · unfold X6_takesSign
        rw [if_pos rfl, if_neg hne, y1, lp_s, bp_s, if_neg Bool.false_ne_true]
      · rw [hN', G2, show N + 2 = (N + 1) + 1 from rfl, eB (N + 1) G4.good G5.2.2.2.2.2.2.2.1 (by omega) (by omega) hb, y2]
        exact eZ N 1 bd
