/-! ===== phase 2: hedges ===== -/
noncomputable def xHedge (M1 : Mem) : Option (Bool × Mem) :=
  bp_ (X4_placeOfName 19 (M1.1 4 0) M1) fun v2 M3 =>
  if v2 = (-1) then
    some (false, M3)
  else
  bp_ (X4_tellsOnce 22 v2 M3) fun b5 M6 =>
  if b5 = true then
    bp_ (X6_takesNumber 0 10 M6) fun b8 M9 =>
    if b8 = true then
      lt_ (X11_put 7 v2 (M9.1 16 4) M9) fun M11 =>
      bp_ (X6_takesSign 59 M11) fun b12 M13 =>
      some (b12, M13)
    else
    some (false, M9)
  else
  some (false, M6)
theorem out_bad {n : Nat} {tx : Nat → Nat} {q : Nat} {MX MM MX' MM' : Mem} (o : OUT n tx q MX MM false MX' MM') : BD MX' MM' := by
  rcases o.2.2 with ⟨y, _⟩ | ⟨_, y⟩
  · exact absurd y Bool.false_ne_true
  · exact y
theorem hedge_c {MX MM : Mem} {n : Nat} {tx : Nat → Nat} {p q w mn kd bn hr : Nat} (h : GD MX MM n tx p q) (hD : DR MX MM w mn kd bn hr) : ∃ ok MX' MM', xHedge MX = some (ok, MX') ∧ bo_ (X12_readHedge MM) mEnd = some MM' ∧ LO n tx q w MX MM ok MX' MM' := by
  have hw := hD.1
  have hmn := hD.2.1.1.1
  have c1 : MX.1 4 0 = nI mn := hD.2.1.2.1.1
  have c2 : MM.1 4 w = nI mn := hD.2.1.2.1.2.1
  obtain ⟨t, t1, t2⟩ := place_c h hD.2.2.2.1
  have hman : X12_manHere MM = some t := by
    unfold X12_manHere
    rw [hw.1, gd_in (by omega) (by omega), nI_clamp (by omega), c2, show (5 : Int32) * nI w = nI (5 * w) from nI_mul 5 w, t1, bo_s]
  unfold X12_readHedge
  rw [hman, bo_s, h.good, if_pos rfl]
  rcases t2 with ⟨k, k1, rfl, k8, kx, km⟩ | ⟨rfl, MX', MM', kx, km, o⟩
  · obtain ⟨mask, m1, m2, m3⟩ := hD.2.2.2.2.2.2.1
    have hz : zlen zTX 22 = 5 := zlen_of aX_22
    have hs : ¬ MX.1 16 1 = 1 := by rw [(h.name k8).1]; decide
    have c22 : MX.1 22 k = nI (mask / 2 ^ k % 2) := m3 k (by omega)
    have hbit := sbit_c (i := k) m1 (by omega)
    rw [if_neg (nI_pos (by omega)), hw.1, gd_in (by omega) (by omega), nI_clamp (by omega), m2]
    by_cases z : mask / 2 ^ k % 2 = 1
    · obtain ⟨MX', MM', f1, f2, o⟩ := refuse_c h (f := 3) (by omega) (by omega) hs
      have bd := out_bad o
      refine ⟨false, MX', MM', ?_, ?_, o.1.x, o.2.1.m, Or.inr ⟨rfl, bd⟩⟩
      · unfold xHedge X4_tellsOnce
        rw [c1, kx, bp_s, if_neg (nI_nm1 (by omega)), if_neg (nI_pos (by omega)), hz, if_neg (nI_ge (by omega) (by omega)), l1_s, if_neg Bool.false_ne_true, gd_in (by omega) (by omega), nI_clamp (by omega), c22, z, if_neg (show ¬ nI 1 = 0 by decide), show (3 : Int32) = nI 3 from rfl, f1, lp_s, bp_s, if_neg Bool.false_ne_true]
      · rw [if_pos (hbit.mpr z), show (3 : Int32) = nI 3 from rfl, f2, lt_e, b1_s, bad_known bd, bp_s, show X12_numeral 0 10 MM' = some (0, MM') from bad_numeral bd, bp_s, bd.bad, if_neg Bool.false_ne_true, bo_s, end_bad bd]
    · have h' : GD (uI MX 22 k 1) MM n tx p q := h
      obtain ⟨MX1, MM1, p', q', f1, f2, fx, fm, gd, r1, _⟩ := stepG_c h'
      obtain ⟨ok, v, MX2, MM2, e1, e2, ⟨f, g, o⟩, hv⟩ := number_c gd (lo := 0) (hi := 10) (by omega) (by omega)
      have xe2 : ∀ a i, a ≠ 16 → ¬ (a = 22 ∧ i = k) → MX2.1 a i = MX.1 a i := fun a i z1 z2 => by rw [f.1 a i z1, fx.r.1 a i z1, uI_ne (by omega)]
      have me2 : ∀ a i, (a ≠ 0 ∨ i < 4 ∨ 9 < i) → MM2.1 a i = MM.1 a i := fun a i z1 => by rw [g.1 a i z1, fm.r.1 a i z1]
      have hx0 : ∀ R : Bool → Mem → Option (Bool × Mem), bp_ (X4_tellsOnce 22 (nI k) MX) R = R true MX1 := fun R => by
        unfold X4_tellsOnce
        rw [if_neg (nI_pos (by omega)), hz, if_neg (nI_ge (by omega) (by omega)), l1_s, if_neg Bool.false_ne_true, gd_in (by omega) (by omega), nI_clamp (by omega), c22, if_pos (show nI (mask / 2 ^ k % 2) = 0 by rw [show mask / 2 ^ k % 2 = 0 by omega]; rfl), lt_e, f1, bo_s, bp_s]
      rw [if_neg (fun y => z (hbit.mp y)), b1_s, km MM1 f2, bp_s, show X12_numeral 0 10 MM1 = some (v, MM2) from e2, bp_s]
      rcases o with ⟨rfl, p2, q2, gd2, r2⟩ | ⟨rfl, bd⟩
      · obtain ⟨d, _, d2, rfl, d4⟩ := hv rfl
        have e0 : MM2.1 0 42 = nI w := (me2 0 42 (by omega)).trans hw.1
        have e11 : MM2.1 11 w = nI mask := (me2 11 w (by omega)).trans m2
        obtain ⟨XX, hXX⟩ : ∃ XX, XX = uI MX2 7 k (nI d) := ⟨_, rfl⟩
        obtain ⟨VV, hVV⟩ : ∃ VV, VV = uI (uI MM2 11 w (nI mask ||| ((1 : Int32) <<< (nI k &&& 31)))) 13 (5 * w + k) (nI d) := ⟨_, rfl⟩
        have gd3 : GD XX VV n tx p2 q2 := by rw [hXX, hVV]; exact gd2
        have xe : ∀ a i, a ≠ 16 → ¬ (a = 22 ∧ i = k) → ¬ (a = 7 ∧ i = k) → XX.1 a i = MX.1 a i := fun a i z1 z2 z3 => by rw [hXX, uI_ne (by omega), xe2 a i z1 z2]
        have me : ∀ a i, (a ≠ 0 ∨ i < 4 ∨ 9 < i) → ¬ (a = 11 ∧ i = w) → ¬ (a = 13 ∧ i = 5 * w + k) → VV.1 a i = MM.1 a i := fun a i z1 z2 z3 => by rw [hVV, uI_ne (by omega), uI_ne (by omega), me2 a i z1]
        have hl2 : ∀ a i, a ≠ 16 → XX.2 a i = MX.2 a i := fun a i y => by rw [hXX]; exact (f.2 a i y).trans (fx.2 a i y)
        have ml2 : ∀ a i, a ≠ 0 → VV.2 a i = MM.2 a i := fun a i y => by rw [hVV]; exact (g.2 a i y).trans (fm.2 a i y)
        have x22 : ∀ j, j < 5 → XX.1 22 j = if j = k then 1 else MX.1 22 j := fun j hj => by
          rw [hXX, uI_ne (by omega), f.1 22 j (by omega), fx.r.1 22 j (by omega)]
          by_cases y : j = k
          · rw [if_pos y, y, uI_eq]
          · rw [if_neg y, uI_ne (by omega)]
        have v11 : VV.1 11 w = nI mask ||| ((1 : Int32) <<< (nI k &&& 31)) := by rw [hVV, uI_ne (by omega), uI_eq]
        have hMK : MK (fun j => XX.1 22 j) (VV.1 11 w) 5 32 := by
          rw [v11, ← m2]
          exact hD.2.2.2.2.2.2.1.put (by omega) (by omega) rfl x22
        have hRM := hD.2.1.hedge (k := d) (m := k) (X' := XX.1) (V' := VV.1) (fun a i y1 y2 y3 => xe a i (by omega) (by omega) (by omega)) (fun a i y1 y2 y3 => me a i (by omega) (by omega) (by omega)) k1 (by rw [hXX, uI_eq]) (by rw [hVV, uI_eq])
        have hD2 : DR XX VV w mn kd bn hr := by
          obtain ⟨⟨h1, h1'⟩, h2, h3, h4, h5, h6, h7, h8, h9, h10, h11, h12, h13⟩ := hD
          refine ⟨⟨(me 0 42 (by omega) (by omega) (by omega)).trans h1, h1'⟩, hRM, h3.fr (fun i => hl2 18 i (by omega)) (fun i => ml2 26 i (by omega)), h4.fr (fun i => hl2 19 i (by omega)) (fun i => ml2 27 i (by omega)), fun m hm' => ?_, fun j h1 h2 => ?_, hMK, ?_, ?_, ?_, fun i h1 h2 => ?_, ?_, ?_⟩
          · rw [me 16 _ (by omega) (by omega) (by omega), me 17 _ (by omega) (by omega) (by omega)]
            simp only [fun i => xe 20 i (by omega) (by omega) (by omega), fun i => xe 21 i (by omega) (by omega) (by omega)]
            exact h5 m hm'
          · rw [xe 20 j (by omega) (by omega) (by omega), xe 21 j (by omega) (by omega) (by omega), xe 8 j (by omega) (by omega) (by omega), xe 9 j (by omega) (by omega) (by omega)]; exact h6 j h1 h2
          · rw [xe 3 8 (by omega) (by omega) (by omega), me 23 _ (by omega) (by omega) (by omega)]; exact h8
          · rw [xe 3 9 (by omega) (by omega) (by omega), me 24 _ (by omega) (by omega) (by omega)]; exact h9
          · rw [xe 3 10 (by omega) (by omega) (by omega), me 25 _ (by omega) (by omega) (by omega)]; exact h10
          · rw [xe 6 i (by omega) (by omega) (by omega), xe 7 i (by omega) (by omega) (by omega)]; exact h11 i h1 h2
          · rw [me 10 _ (by omega) (by omega) (by omega)]; exact h12
          · rw [xe 3 8 (by omega) (by omega) (by omega), me 0 43 (by omega) (by omega) (by omega), xe 13 2 (by omega) (by omega) (by omega), xe 13 3 (by omega) (by omega) (by omega), me 7 _ (by omega) (by omega) (by omega)]; exact h13
        obtain ⟨ok, MX', MM', s1, s2, s3, s4, s5⟩ := end_c gd3 hD2
        have fX : XF MX XX := fun a i y => xe a i (by omega) (by omega) (by omega)
        have fM : MF w MM VV := fun a i y => me a i (by omega) (by omega) (by omega)
        refine ⟨ok, MX', MM', ?_, ?_, fX.tr s3, fM.tr s4, ?_⟩
        · unfold xHedge
          rw [c1, kx, bp_s, if_neg (nI_nm1 (by omega)), hx0, if_pos rfl, show X6_takesNumber 0 10 MX1 = some (true, MX2) from e1, bp_s, if_pos rfl, d4, xp_in (by rw [show zlen zTX 7 = 5 from zlen_of aX_7]; omega), lt_e, ← hXX, s1, bp_s]
        · rw [gd2.good, if_pos rfl, e0, gd_in (by omega) (by omega), nI_clamp (by omega), e11, lt_e, uI_ne (by omega), e0, show (5 : Int32) * nI w = nI (5 * w) from nI_mul 5 w, nI_add, gd_in (by omega) (by omega), nI_clamp (by omega), lt_e, ← hVV, bo_s, s2]
        · rcases s5 with ⟨y, p3, q3, mn', kd', bn', hr', y1, y2, y3⟩ | y
          · exact Or.inl ⟨y, p3, q3, mn', kd', bn', hr', y1, by have := gd.1.2.2.2.2.2.le; have := gd2.1.2.2.2.2.2.le; omega, y3⟩
          · exact Or.inr y
      · refine ⟨false, MX2, MM2, ?_, ?_, fun a i y => xe2 a i (by omega) (by omega), fun a i y => me2 a i (by omega), Or.inr ⟨rfl, bd⟩⟩
        · unfold xHedge
          rw [c1, kx, bp_s, if_neg (nI_nm1 (by omega)), hx0, if_pos rfl, show X6_takesNumber 0 10 MX1 = some (false, MX2) from e1, bp_s, if_neg Bool.false_ne_true]
        · rw [bd.bad, if_neg Bool.false_ne_true, bo_s, end_bad bd]
  · have bd := out_bad o
    refine ⟨false, MX', MM', ?_, ?_, o.1.x, o.2.1.m, Or.inr ⟨rfl, bd⟩⟩
    · unfold xHedge
      rw [c1, kx, bp_s, if_pos rfl]
    · rw [if_pos (by decide), b1_s, km, bp_s, show X12_numeral 0 10 MM' = some (0, MM') from bad_numeral bd, bp_s, bd.bad, if_neg Bool.false_ne_true, bo_s, end_bad bd]
