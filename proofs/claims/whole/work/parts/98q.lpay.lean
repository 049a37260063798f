/-! ===== phase 2: the line of a pay ===== -/
theorem RM.pay {X X' V V' : Nat → Nat → Int32} {b mn kd bn hr m k d9 : Nat} (h : RM X 4 V b mn kd bn hr) (hx : ∀ a i, 4 ≤ a → a ≤ 14 → ¬ (a = 9 ∧ i = 3 * m + k) → X' a i = X a i) (hv : ∀ a i, 3 ≤ a → a ≤ 29 → ¬ ((a = 15 ∧ i = 3 * (5 * b + m) + k) ∨ a = 11 ∨ a = 16 ∨ a = 17 ∨ a = 24 ∨ a = 25) → V' a i = V a i) (hm : m < mn) (hk : k < kd) (h9 : d9 ≤ 9) (e1 : X' 9 (3 * m + k) = nI d9) (e2 : V' 15 (3 * (5 * b + m) + k) = nI d9) : RM X' 4 V' b mn kd bn hr := by
  obtain ⟨⟨h1, h2, h3, h4, h5⟩, ⟨m1, m2, m3, m4, m5, m6, m7, m8, m9⟩, d, k1, ⟨mask, q1, q2, q3⟩, hd, r1, r2, r3, r4, r5, u, len, F, D, f1, f2, f3, f4, f5, f6, f8, f9, f10⟩ := h
  refine ⟨⟨h1, h2, h3, h4, h5⟩, ⟨(hx 4 0 (by omega) (by omega) (by omega)).trans m1, (hv 4 b (by omega) (by omega) (by omega)).trans m2, (hx 4 1 (by omega) (by omega) (by omega)).trans m3, (hv 3 b (by omega) (by omega) (by omega)).trans m4, (hx 4 2 (by omega) (by omega) (by omega)).trans m5, (hv 5 b (by omega) (by omega) (by omega)).trans m6, ((hx 4 3 (by omega) (by omega) (by omega)).trans m7).trans (hv 6 b (by omega) (by omega) (by omega)).symm, (hx 4 4 (by omega) (by omega) (by omega)).trans m8, (hv 8 b (by omega) (by omega) (by omega)).trans m9⟩, by rw [hx 4 5 (by omega) (by omega) (by omega), hv 9 b (by omega) (by omega) (by omega)]; exact d, fun i hi => by rw [hx (4 + 1) i (by omega) (by omega) (by omega), hv 12 _ (by omega) (by omega) (by omega)]; exact k1 i hi, ⟨mask, q1, (hv 10 b (by omega) (by omega) (by omega)).trans q2, fun i hi => (hx (4 + 2) i (by omega) (by omega) (by omega)).trans (q3 i hi)⟩, fun i hi => by rw [hx (4 + 3) i (by omega) (by omega) (by omega), hv 13 _ (by omega) (by omega) (by omega)]; exact hd i hi, fun i k hi hk => by rw [hx (4 + 4) _ (by omega) (by omega) (by omega), hv 14 _ (by omega) (by omega) (by omega)]; exact r1 i k hi hk, fun j h1 h2 => (hx (4 + 4) j (by omega) (by omega) (by omega)).trans (r2 j h1 h2), fun i k' hi hk' => by
    by_cases z : i = m ∧ k' = k
    · rw [z.1, z.2]; exact ⟨d9, h9, e1, e2, fun y => by omega⟩
    · rw [hx (4 + 5) _ (by omega) (by omega) (by omega), hv 15 _ (by omega) (by omega) (by omega)]; exact r3 i k' hi hk', fun r hr => by rw [hx (4 + 6) r (by omega) (by omega) (by omega), hx (4 + 7) r (by omega) (by omega) (by omega), hv 18 _ (by omega) (by omega) (by omega), hv 19 _ (by omega) (by omega) (by omega)]; exact r4 r hr, fun i hi => by rw [hx (4 + 8) i (by omega) (by omega) (by omega), hv 20 _ (by omega) (by omega) (by omega)]; exact r5 i hi, u, len, F, D, f1, (hx (4 + 9) 3 (by omega) (by omega) (by omega)).trans f2, (hv 7 b (by omega) (by omega) (by omega)).trans f3, (hx (4 + 9) 2 (by omega) (by omega) (by omega)).trans f4, f5, f6, f8, by rw [hv 23 b (by omega) (by omega) (by omega), hv 21 b (by omega) (by omega) (by omega), hv 22 b (by omega) (by omega) (by omega)]; exact f9, fun i hi => by rw [hx (4 + 9 + 1) i (by omega) (by omega) (by omega), hv 28 _ (by omega) (by omega) (by omega), hv 29 _ (by omega) (by omega) (by omega)]; exact f10 i hi⟩
noncomputable def xPay (M1 : Mem) : Option (Bool × Mem) :=
  bp_ (X4_placeOfName 19 (M1.1 4 0) M1) fun v2 M3 =>
  if v2 = (-1) then
    some (false, M3)
  else
  bo_ (X6_step M3) fun M5 =>
  bp_ (X4_placeOfName 18 (M5.1 4 1) M5) fun v6 M7 =>
  if v6 = (-1) then
    some (false, M7)
  else
  bp_ (X4_tellsOnce 21 ((v2 * 3) + v6) M7) fun b9 M10 =>
  if b9 = true then
    bp_ (X6_takesNumber 0 9 M10) fun b12 M13 =>
    if b12 = true then
      lt_ (X11_put 9 ((v2 * 3) + v6) (M13.1 16 4) M13) fun M15 =>
      bp_ (X6_takesSign 59 M15) fun b16 M17 =>
      some (b16, M17)
    else
    some (false, M13)
  else
  some (false, M10)
theorem lnPay_c {MX MM : Mem} {n : Nat} {tx : Nat → Nat} {p q w mn kd bn hr : Nat} (h : GD MX MM n tx p q) (hD : DR MX MM w mn kd bn hr) : ∃ ok MX' MM', xPay MX = some (ok, MX') ∧ bo_ (X12_readSum 15 17 9 MM) mEnd = some MM' ∧ LO n tx q w MX MM ok MX' MM' := by
  have hw := hD.1
  have hmn := hD.2.1.1.1
  have hkd := hD.2.1.1.2.1
  have c1 : MX.1 4 0 = nI mn := hD.2.1.2.1.1
  have c2 : MM.1 4 w = nI mn := hD.2.1.2.1.2.1
  have c3 : MX.1 4 1 = nI kd := hD.2.1.2.1.2.2.1
  have c4 : MM.1 3 w = nI kd := hD.2.1.2.1.2.2.2.1
  obtain ⟨t, t1, t2⟩ := place_c h hD.2.2.2.1
  have hman : X12_manHere MM = some t := by
    unfold X12_manHere
    rw [hw.1, gd_in (by omega) (by omega), nI_clamp (by omega), c2, show (5 : Int32) * nI w = nI (5 * w) from nI_mul 5 w, t1, bo_s]
  unfold X12_readSum
  rw [hman, bo_s]
  rcases t2 with ⟨m, k1, rfl, k8, kx, km⟩ | ⟨rfl, MX', MM', kx, km, o⟩
  · obtain ⟨MXa, MMa, pa, qa, f1, f2, fx, fm, gda, ra, _⟩ := stepG_c h
    have hDa : DR MXa MMa w mn kd bn hr := hD.fr fx.r fm.r
    have e42 : MMa.1 0 42 = nI w := hDa.1.1
    obtain ⟨t', t1', t2'⟩ := place_c gda hDa.2.2.1
    have hkh : X12_kindHere MMa = some t' := by
      unfold X12_kindHere
      rw [e42, gd_in (by omega) (by omega), nI_clamp (by omega), hDa.2.1.2.1.2.2.2.1, show (3 : Int32) * nI w = nI (3 * w) from nI_mul 3 w, t1', bo_s]
    have hx1 : ∀ R : Int32 → Mem → Option (Bool × Mem), (bp_ (X4_placeOfName 19 (MX.1 4 0) MX) fun v2 M3 => if v2 = (-1) then some (false, M3) else bo_ (X6_step M3) fun M5 => R v2 M5) = R (nI m) MXa := fun R => by
      rw [c1, kx, bp_s, if_neg (nI_nm1 (by omega)), f1, bo_s]
    rw [km MMa f2, bp_s, hw.1, show (5 : Int32) * nI w = nI (5 * w) from nI_mul 5 w, nI_add, lt_e, gda.good, if_pos rfl, hkh, bo_s]
    rcases t2' with ⟨k, k1', rfl, k8', kx', km'⟩ | ⟨rfl, MX', MM', kx', km', o⟩
    · obtain ⟨mask, m1, m2, m3⟩ := (hDa.2.2.2.2.1 m k1).2
      have hz : zlen zTX 21 = 15 := zlen_of aX_21
      have hzm : zlen zTM 17 = 10 := zlen_of aM_17
      have hzr : zlen zTM 15 = 30 := zlen_of aM_15
      have hs : ¬ MXa.1 16 1 = 1 := by rw [(gda.name k8').1]; decide
      have c22 : MXa.1 21 (3 * m + k) = nI (mask / 2 ^ k % 2) := m3 k (by omega)
      have hbit := sbit_c (m := mask) (i := k) (by omega) (by omega)
      have hix : nI m * 3 + nI k = nI (3 * m + k) := by
        rw [show nI m * 3 = nI (m * 3) from nI_mul m 3, nI_add, Nat.mul_comm m 3]
      rw [if_neg (nI_pos (by omega)), gd_in (by omega) (by omega), nI_clamp (by omega), m2]
      by_cases z : mask / 2 ^ k % 2 = 1
      · obtain ⟨MX', MM', g1, g2, o⟩ := refuse_c gda (f := 3) (by omega) (by omega) hs
        have bd := out_bad o
        refine ⟨false, MX', MM', ?_, ?_, fx.r.x.tr o.1.x, fm.r.m.tr o.2.1.m, Or.inr ⟨rfl, bd⟩⟩
        · unfold xPay
          rw [hx1]
          unfold X4_tellsOnce
          rw [hDa.2.1.2.1.2.2.1, kx', bp_s, if_neg (nI_nm1 (by omega)), hix, if_neg (nI_pos (by omega)), hz, if_neg (nI_ge (by omega) (by omega)), l1_s, if_neg Bool.false_ne_true, gd_in (by omega) (by omega), nI_clamp (by omega), c22, z, if_neg (show ¬ nI 1 = 0 by decide), show (3 : Int32) = nI 3 from rfl, g1, lp_s, bp_s, if_neg Bool.false_ne_true]
        · rw [if_pos (hbit.mpr z), show (3 : Int32) = nI 3 from rfl, g2, lt_e, b1_s, bad_known bd, bp_s, show X12_numeral 0 9 MM' = some (0, MM') from bad_numeral bd, bp_s, bd.bad, if_neg Bool.false_ne_true, bo_s, end_bad bd]
      · have h' : GD (uI MXa 21 (3 * m + k) 1) MMa n tx pa qa := gda
        obtain ⟨MX1, MM1, p', q', g1, g2, fx1, fm1, gd, r1, _⟩ := stepG_c h'
        obtain ⟨ok, v, MX2, MM2, e1, e2, ⟨f, g, o⟩, hv⟩ := number_c gd (lo := 0) (hi := 9) (by omega) (by omega)
        have xe2 : ∀ a i, a ≠ 16 → ¬ (a = 21 ∧ i = 3 * m + k) → MX2.1 a i = MX.1 a i := fun a i z1 z2 => by rw [f.1 a i z1, fx1.r.1 a i z1, uI_ne (by omega), fx.r.1 a i z1]
        have me2 : ∀ a i, (a ≠ 0 ∨ i < 4 ∨ 9 < i) → MM2.1 a i = MM.1 a i := fun a i z1 => by rw [g.1 a i z1, fm1.r.1 a i z1, fm.r.1 a i z1]
        have hx0 : ∀ R : Bool → Mem → Option (Bool × Mem), bp_ (X4_tellsOnce 21 (nI (3 * m + k)) MXa) R = R true MX1 := fun R => by
          unfold X4_tellsOnce
          rw [if_neg (nI_pos (by omega)), hz, if_neg (nI_ge (by omega) (by omega)), l1_s, if_neg Bool.false_ne_true, gd_in (by omega) (by omega), nI_clamp (by omega), c22, if_pos (show nI (mask / 2 ^ k % 2) = 0 by rw [show mask / 2 ^ k % 2 = 0 by omega]; rfl), lt_e, g1, bo_s, bp_s]
        rw [if_neg (fun y => z (hbit.mp y)), b1_s, km' MM1 g2, bp_s, show X12_numeral 0 9 MM1 = some (v, MM2) from e2, bp_s]
        rcases o with ⟨rfl, p2, q2, gd2, r2⟩ | ⟨rfl, bd⟩
        · obtain ⟨d, _, d2, rfl, d4⟩ := hv rfl
          have e11 : MM2.1 17 (5 * w + m) = nI mask := by rw [me2 17 _ (by omega), ← fm.r.1 17 _ (by omega)]; exact m2
          obtain ⟨XX, hXX⟩ : ∃ XX, XX = uI MX2 9 (3 * m + k) (nI d) := ⟨_, rfl⟩
          obtain ⟨VV, hVV⟩ : ∃ VV, VV = uI (uI MM2 17 (5 * w + m) (nI mask ||| ((1 : Int32) <<< (nI k &&& 31)))) 15 (3 * (5 * w + m) + k) (nI d) := ⟨_, rfl⟩
          have gd3 : GD XX VV n tx p2 q2 := by rw [hXX, hVV]; exact gd2
          have xe : ∀ a i, a ≠ 16 → ¬ ((a = 21 ∨ a = 9) ∧ i = 3 * m + k) → XX.1 a i = MX.1 a i := fun a i z1 z2 => by rw [hXX, uI_ne (by omega), xe2 a i z1 (by omega)]
          have me : ∀ a i, (a ≠ 0 ∨ i < 4 ∨ 9 < i) → ¬ ((a = 17 ∧ i = 5 * w + m) ∨ (a = 15 ∧ i = 3 * (5 * w + m) + k)) → VV.1 a i = MM.1 a i := fun a i z1 z2 => by rw [hVV, uI_ne (by omega), uI_ne (by omega), me2 a i z1]
          have hl2 : ∀ a i, a ≠ 16 → XX.2 a i = MX.2 a i := fun a i y => by rw [hXX]; exact ((f.2 a i y).trans (fx1.2 a i y)).trans (fx.2 a i y)
          have ml2 : ∀ a i, a ≠ 0 → VV.2 a i = MM.2 a i := fun a i y => by rw [hVV]; exact ((g.2 a i y).trans (fm1.2 a i y)).trans (fm.2 a i y)
          have xT : ∀ j, j < 3 → XX.1 21 (3 * m + j) = if j = k then 1 else MX.1 21 (3 * m + j) := fun j hj => by
            by_cases y : j = k
            · rw [if_pos y, y, hXX, uI_ne (by omega), f.1 _ _ (by decide), fx1.r.1 _ _ (by decide), uI_eq]
            · rw [if_neg y, xe 21 _ (by decide) (by omega)]
          have vT : VV.1 17 (5 * w + m) = nI mask ||| ((1 : Int32) <<< (nI k &&& 31)) := by rw [hVV, uI_ne (by omega), uI_eq]
          have hMK : MK (fun j => XX.1 21 (3 * m + j)) (VV.1 17 (5 * w + m)) 3 8 := by
            rw [vT, ← e11, me2 17 _ (by omega)]
            exact ((hD.2.2.2.2.1 m k1).2).put (by omega) (by omega) rfl xT
          have hRM := hD.2.1.pay (d9 := d) (k := k) (m := m) (X' := XX.1) (V' := VV.1) (fun a i y1 y2 y3 => xe a i (by omega) (by omega)) (fun a i y1 y2 y3 => me a i (by omega) (by omega)) k1 k1' d2 (by rw [hXX, uI_eq]) (by rw [hVV, uI_eq])
          have hD2 : DR XX VV w mn kd bn hr := by
            obtain ⟨⟨h1, h1'⟩, h2, h3, h4, h5, h6, h7, h8, h9, h10, h11, h12, h13⟩ := hD
            refine ⟨⟨(me 0 42 (by omega) (by omega)).trans h1, h1'⟩, hRM, h3.fr (fun i => hl2 18 i (by omega)) (fun i => ml2 26 i (by omega)), h4.fr (fun i => hl2 19 i (by omega)) (fun i => ml2 27 i (by omega)), fun m' hm' => ?_, fun j h1 h2 => ?_, ?_, ?_, ?_, ?_, fun i h1 h2 => ?_, ?_, ?_⟩
            · by_cases z9 : m' = m
              · rw [z9]
                refine ⟨?_, hMK⟩
                rw [me 16 _ (by omega) (by omega)]
                simp only [fun i => xe 20 i (by omega) (by omega)]
                exact (h5 m k1).1
              · refine ⟨?_, ?_⟩
                · obtain ⟨a1, a2, a3, a4⟩ := (h5 m' hm').1
                  exact ⟨a1, a2, by rw [me 16 _ (by omega) (by omega)]; exact a3, fun j hj => by show XX.1 20 (3 * m' + j) = _; rw [xe 20 _ (by omega) (by omega)]; exact a4 j hj⟩
                · obtain ⟨a1, a2, a3, a4⟩ := (h5 m' hm').2
                  exact ⟨a1, a2, by rw [me 17 _ (by omega) (by omega)]; exact a3, fun j hj => by show XX.1 21 (3 * m' + j) = _; rw [xe 21 _ (by omega) (by omega)]; exact a4 j hj⟩
            · rw [xe 20 j (by omega) (by omega), xe 21 j (by omega) (by omega), xe 8 j (by omega) (by omega), xe 9 j (by omega) (by omega)]; exact h6 j h1 h2
            · rw [me 11 _ (by omega) (by omega)]
              simp only [fun i => xe 22 i (by omega) (by omega)]
              exact h7
            · rw [xe 3 8 (by omega) (by omega), me 23 _ (by omega) (by omega)]; exact h8
            · rw [xe 3 9 (by omega) (by omega), me 24 _ (by omega) (by omega)]; exact h9
            · rw [xe 3 10 (by omega) (by omega), me 25 _ (by omega) (by omega)]; exact h10
            · rw [xe 6 i (by omega) (by omega), xe 7 i (by omega) (by omega)]; exact h11 i h1 h2
            · rw [me 10 _ (by omega) (by omega)]; exact h12
            · rw [xe 3 8 (by omega) (by omega), me 0 43 (by omega) (by omega), xe 13 2 (by omega) (by omega), xe 13 3 (by omega) (by omega), me 7 _ (by omega) (by omega)]; exact h13
          obtain ⟨ok, MX', MM', s1, s2, s3, s4, s5⟩ := end_c gd3 hD2
          have fX : XF MX XX := fun a i y => xe a i (by omega) (by omega)
          have fM : MF w MM VV := fun a i y => me a i (by omega) (by omega)
          refine ⟨ok, MX', MM', ?_, ?_, fX.tr s3, fM.tr s4, ?_⟩
          · unfold xPay
            rw [hx1, hDa.2.1.2.1.2.2.1, kx', bp_s, if_neg (nI_nm1 (by omega)), hix, hx0, if_pos rfl, show X6_takesNumber 0 9 MX1 = some (true, MX2) from e1, bp_s, if_pos rfl, d4, xp_in (by rw [show zlen zTX 9 = 15 from zlen_of aX_9]; omega), lt_e, ← hXX, s1, bp_s]
          · rw [gd2.good, if_pos rfl, gd_in (by omega) (by omega), e11, lt_e, show (3 : Int32) * nI (5 * w + m) = nI (3 * (5 * w + m)) from nI_mul 3 _, nI_add, gd_in (by omega) (by omega), nI_clamp (by omega), lt_e, ← hVV, bo_s, s2]
          · rcases s5 with ⟨y, p9, q9, mn', kd', bn', hr', y1, y2, y3⟩ | y
            · exact Or.inl ⟨y, p9, q9, mn', kd', bn', hr', y1, by have := gda.1.2.2.2.2.2.le; have := gd.1.2.2.2.2.2.le; have := gd2.1.2.2.2.2.2.le; omega, y3⟩
            · exact Or.inr y
        · refine ⟨false, MX2, MM2, ?_, ?_, fun a i y => xe2 a i (by omega) (by omega), fun a i y => me2 a i (by omega), Or.inr ⟨rfl, bd⟩⟩
          · unfold xPay
            rw [hx1, hDa.2.1.2.1.2.2.1, kx', bp_s, if_neg (nI_nm1 (by omega)), hix, hx0, if_pos rfl, show X6_takesNumber 0 9 MX1 = some (false, MX2) from e1, bp_s, if_neg Bool.false_ne_true]
          · rw [bd.bad, if_neg Bool.false_ne_true, bo_s, end_bad bd]
    · have bd := out_bad o
      refine ⟨false, MX', MM', ?_, ?_, fx.r.x.tr o.1.x, fm.r.m.tr o.2.1.m, Or.inr ⟨rfl, bd⟩⟩
      · unfold xPay
        rw [hx1, hDa.2.1.2.1.2.2.1, kx', bp_s, if_pos rfl]
      · rw [if_pos (by decide), b1_s, km', bp_s, show X12_numeral 0 9 MM' = some (0, MM') from bad_numeral bd, bp_s, bd.bad, if_neg Bool.false_ne_true, bo_s, end_bad bd]
  · have bd := out_bad o
    refine ⟨false, MX', MM', ?_, ?_, o.1.x, o.2.1.m, Or.inr ⟨rfl, bd⟩⟩
    · unfold xPay
      rw [c1, kx, bp_s, if_pos rfl]
    · rw [km, bp_s, lt_e, bd.bad, if_neg Bool.false_ne_true, bo_s, end_bad bd]
