/-! ===== phase 2: the line of a rate ===== -/
theorem RM.rate {X X' V V' : Nat → Nat → Int32} {b mn kd bn hr r x y : Nat} (h : RM X 4 V b mn kd bn hr) (hx : ∀ a i, 4 ≤ a → a ≤ 14 → ¬ ((a = 4 ∧ i = 3) ∨ ((a = 10 ∨ a = 11) ∧ i = r)) → X' a i = X a i) (hv : ∀ a i, 3 ≤ a → a ≤ 29 → ¬ ((a = 6 ∧ i = b) ∨ ((a = 18 ∨ a = 19) ∧ i = 9 * b + r) ∨ a = 11 ∨ a = 16 ∨ a = 17 ∨ a = 24 ∨ a = 25) → V' a i = V a i) (hr9 : r < 9) (hxy : 1 ≤ x ∧ x ≤ 9 ∧ 1 ≤ y ∧ y ≤ 9) (e1 : X' 10 r = nI x) (e2 : V' 18 (9 * b + r) = nI x) (e3 : X' 11 r = nI y) (e4 : V' 19 (9 * b + r) = nI y) (e5 : X' 4 3 = X 4 3 + 1) (e6 : V' 6 b = V 6 b + 1) : RM X' 4 V' b mn kd bn hr := by
  obtain ⟨⟨h1, h2, h3, h4, h5⟩, ⟨m1, m2, m3, m4, m5, m6, m7, m8, m9⟩, d, k1, ⟨mask, q1, q2, q3⟩, hd, r1, r2, r3, r4, r5, u, len, F, D, f1, f2, f3, f4, f5, f6, f8, f9, f10⟩ := h
  refine ⟨⟨h1, h2, h3, h4, h5⟩, ⟨(hx 4 0 (by omega) (by omega) (by omega)).trans m1, (hv 4 b (by omega) (by omega) (by omega)).trans m2, (hx 4 1 (by omega) (by omega) (by omega)).trans m3, (hv 3 b (by omega) (by omega) (by omega)).trans m4, (hx 4 2 (by omega) (by omega) (by omega)).trans m5, (hv 5 b (by omega) (by omega) (by omega)).trans m6, by rw [e5, e6, m7], (hx 4 4 (by omega) (by omega) (by omega)).trans m8, (hv 8 b (by omega) (by omega) (by omega)).trans m9⟩, by rw [hx 4 5 (by omega) (by omega) (by omega), hv 9 b (by omega) (by omega) (by omega)]; exact d, fun i hi => by rw [hx (4 + 1) i (by omega) (by omega) (by omega), hv 12 _ (by omega) (by omega) (by omega)]; exact k1 i hi, ⟨mask, q1, (hv 10 b (by omega) (by omega) (by omega)).trans q2, fun i hi => (hx (4 + 2) i (by omega) (by omega) (by omega)).trans (q3 i hi)⟩, fun i hi => by rw [hx (4 + 3) i (by omega) (by omega) (by omega), hv 13 _ (by omega) (by omega) (by omega)]; exact hd i hi, fun i k hi hk => by rw [hx (4 + 4) _ (by omega) (by omega) (by omega), hv 14 _ (by omega) (by omega) (by omega)]; exact r1 i k hi hk, fun j h1 h2 => (hx (4 + 4) j (by omega) (by omega) (by omega)).trans (r2 j h1 h2), fun i k hi hk => by rw [hx (4 + 5) _ (by omega) (by omega) (by omega), hv 15 _ (by omega) (by omega) (by omega)]; exact r3 i k hi hk, fun r' hr' => by
    by_cases z : r' = r
    · rw [z]; exact ⟨x, hxy.2.1, e1, e2, fun _ => ⟨y, hxy.2.2.1, hxy.2.2.2, e3, e4⟩⟩
    · rw [hx (4 + 6) r' (by omega) (by omega) (by omega), hx (4 + 7) r' (by omega) (by omega) (by omega), hv 18 _ (by omega) (by omega) (by omega), hv 19 _ (by omega) (by omega) (by omega)]; exact r4 r' hr', fun i hi => by rw [hx (4 + 8) i (by omega) (by omega) (by omega), hv 20 _ (by omega) (by omega) (by omega)]; exact r5 i hi, u, len, F, D, f1, (hx (4 + 9) 3 (by omega) (by omega) (by omega)).trans f2, (hv 7 b (by omega) (by omega) (by omega)).trans f3, (hx (4 + 9) 2 (by omega) (by omega) (by omega)).trans f4, f5, f6, f8, by rw [hv 23 b (by omega) (by omega) (by omega), hv 21 b (by omega) (by omega) (by omega), hv 22 b (by omega) (by omega) (by omega)]; exact f9, fun i hi => by rw [hx (4 + 9 + 1) i (by omega) (by omega) (by omega), hv 28 _ (by omega) (by omega) (by omega), hv 29 _ (by omega) (by omega) (by omega)]; exact f10 i hi⟩
noncomputable def xRate2 (v2 y9 : Int32) (M11 : Mem) : Option (Bool × Mem) :=
      bp_ (X4_placeOfName 18 (M11.1 4 1) M11) fun v13 M14 =>
      if v13 = (-1) then
        some (false, M14)
      else
      l1_ (α := Bool) (
        if v13 = v2 then
          true
        else
        if (X3_rateGiven 4 v2 v13 M14) = 0 then
          false
        else
        true) fun t18 =>
      if t18 = true then
        lp_ (X6_refuse 3 M14) fun b20 M21 =>
        some (b20, M21)
      else
      bo_ (X6_step M14) fun M22 =>
      bp_ (X6_takesNumber 1 9 M22) fun b23 M24 =>
      if b23 = true then
        lt_ (X11_put 10 ((v2 * 3) + v13) y9 M24) fun M26 =>
        lt_ (X11_put 11 ((v2 * 3) + v13) (M26.1 16 4) M26) fun M27 =>
        lt_ (uI M27 4 3 ((M27.1 4 3) + 1)) fun M28 =>
        bp_ (X6_takesSign 59 M28) fun b29 M30 =>
        some (b29, M30)
      else
      some (false, M24)
noncomputable def xRate (M1 : Mem) : Option (Bool × Mem) :=
  bp_ (X4_placeOfName 18 (M1.1 4 1) M1) fun v2 M3 =>
  if v2 = (-1) then
    some (false, M3)
  else
  bo_ (X6_step M3) fun M5 =>
  bp_ (X6_takesNumber 1 9 M5) fun b6 M7 =>
  if b6 = true then
    lt_ (α := Int32) (M7.1 16 4) fun y9 =>
    bp_ (X6_takesWord 29 M7) fun b10 M11 =>
    if b10 = true then
      xRate2 v2 y9 M11
    else
    some (false, M11)
  else
  some (false, M7)
theorem WC_29 : WC 29 = 6713202 := by decide +kernel
theorem lnRate_c {MX MM : Mem} {n : Nat} {tx : Nat → Nat} {p q w mn kd bn hr : Nat} (h : GD MX MM n tx p q) (hD : DR MX MM w mn kd bn hr) : ∃ ok MX' MM', xRate MX = some (ok, MX') ∧ bo_ (X12_readRate MM) mEnd = some MM' ∧ LO n tx q w MX MM ok MX' MM' := by
  have hw := hD.1
  have hkd := hD.2.1.1.2.1
  have c3 : MX.1 4 1 = nI kd := hD.2.1.2.1.2.2.1
  have kh : ∀ (Y M : Mem) (t : Int32), DR Y M w mn kd bn hr → X12_here 26 (nI (3 * w)) (nI kd) M = some t → X12_kindHere M = some t := fun Y M t d e => by
    unfold X12_kindHere
    rw [d.1.1, gd_in (by omega) (by omega), nI_clamp (by omega), d.2.1.2.1.2.2.2.1, show (3 : Int32) * nI w = nI (3 * w) from nI_mul 3 w, e, bo_s]
  obtain ⟨t, t1, t2⟩ := place_c h hD.2.2.1
  unfold X12_readRate
  rw [kh MX MM t hD t1, bo_s]
  rcases t2 with ⟨k, k1, rfl, k8, kx, km⟩ | ⟨rfl, MX', MM', kx, km, o⟩
  · obtain ⟨MXa, MMa, pa, qa, f1, f2, fx, fm, gda, ra, _⟩ := stepG_c h
    have hDa : DR MXa MMa w mn kd bn hr := hD.fr fx.r fm.r
    obtain ⟨ok1, v1, MXb, MMb, e1, e2, ⟨fb, gb, ob⟩, hv1⟩ := number_c gda (lo := 1) (hi := 9) (by omega) (by omega)
    rw [km MMa f2, bp_s, show X12_numeral 1 9 MMa = some (v1, MMb) from e2, bp_s]
    rcases ob with ⟨rfl, pb, qb, gdb, rb⟩ | ⟨rfl, bd⟩
    · obtain ⟨x, x1, x2, rfl, x4⟩ := hv1 rfl
      obtain ⟨ok2, MXc, MMc, w1, w2, ⟨fc, gc, oc⟩⟩ := takesWord_c gdb (w := 29) (by omega)
      rw [WC_29] at w2
      rw [w2, bo_s]
      have hpre : ∀ R, xRate2 (nI k) (nI x) MXc = R → ok2 = true → xRate MX = R := fun R hR h2 => by
        unfold xRate
        rw [c3, kx, bp_s, if_neg (nI_nm1 (by omega)), f1, bo_s, show X6_takesNumber 1 9 MXa = some (true, MXb) from e1, bp_s, if_pos rfl, x4, lt_e (nI x), w1, bp_s, if_pos h2, hR]
      rcases oc with ⟨rfl, pc, qc, gdc, rc⟩ | ⟨rfl, bd⟩
      · rw [gdc.good, if_pos rfl]
        have hDc : DR MXc MMc w mn kd bn hr := (hDa.fr fb gb).fr fc gc
        have xec : ∀ a i, a ≠ 16 → MXc.1 a i = MX.1 a i := fun a i y => by rw [fc.1 a i y, fb.1 a i y, fx.r.1 a i y]
        have mec : ∀ a i, (a ≠ 0 ∨ i < 4 ∨ 9 < i) → MMc.1 a i = MM.1 a i := fun a i y => by rw [gc.1 a i y, gb.1 a i y, fm.r.1 a i y]
        obtain ⟨t', t1', t2'⟩ := place_c gdc hDc.2.2.1
        rw [kh MXc MMc t' hDc t1', bo_s]
        rcases t2' with ⟨j, j1, rfl, j8, jx, jm⟩ | ⟨rfl, MX', MM', jx, jm, o⟩
        · obtain ⟨g, g1, g2, g3, g4⟩ := hDc.2.1.2.2.2.2.2.2.2.2.2.1 (3 * k + j) (by omega)
          have hz : zlen zTX 10 = 9 := zlen_of aX_10
          have hz2 : zlen zTX 11 = 9 := zlen_of aX_11
          have hs : ¬ MXc.1 16 1 = 1 := by rw [(gdc.name j8).1]; decide
          have hix : nI k * 3 + nI j = nI (3 * k + j) := by
            rw [show nI k * 3 = nI (k * 3) from nI_mul k 3, nI_add, Nat.mul_comm k 3]
          have him : ∀ M : Mem, M.1 0 42 = nI w → 9 * M.1 0 42 + 3 * nI k + nI j = nI (9 * w + (3 * k + j)) := fun M hM => by
            rw [hM, show (9 : Int32) * nI w = nI (9 * w) from nI_mul 9 w, show (3 : Int32) * nI k = nI (3 * k) from nI_mul 3 k, nI_add, nI_add, Nat.add_assoc]
          have hrg : X3_rateGiven 4 (nI k) (nI j) MXc = nI g := by
            unfold X3_rateGiven
            rw [hix, xc_in (by rw [show zlen zTX (4 + 6) = 9 from hz]; omega)]
            exact g2
          obtain ⟨b, B1, B2, B3⟩ : ∃ b : Bool, (if nI j < 0 then some false else if nI j = nI k then some true else gd_ (inb (9 * MMc.1 0 42 + 3 * nI k + nI j) 18 = true) (if MMc.1 18 (9 * MMc.1 0 42 + 3 * nI k + nI j).toNatClampNeg ≤ 0 then some false else some true)) = some b ∧ (if nI j = nI k then true else if X3_rateGiven 4 (nI k) (nI j) MXc = 0 then false else true) = b ∧ True := by
            rw [hrg, him MMc hDc.1.1, if_neg (nI_pos (by omega)), gd_in (by omega) (by omega), nI_clamp (by omega), g3]
            by_cases z : j = k
            · refine ⟨true, ?_, ?_, trivial⟩
              · rw [if_pos (by rw [z])]
              · rw [if_pos (by rw [z])]
            · have z' : ¬ nI j = nI k := fun y => z ((nI_eq (by omega) (by omega)).mp y)
              rw [if_neg z', if_neg z']
              by_cases y : g = 0
              · refine ⟨false, ?_, ?_, trivial⟩
                · rw [if_pos (by rw [y]; decide)]
                · rw [if_pos (by rw [y]; rfl)]
              · refine ⟨true, ?_, ?_, trivial⟩
                · rw [if_neg (show ¬ nI g ≤ 0 from nI_ge (a := 0) (by omega) (by omega))]
                · rw [if_neg (show ¬ nI g = 0 from fun z => y ((nI_eq (b := 0) (by omega) (by omega)).mp z))]
          rw [B1, b1_s]
          cases b with
          | true =>
            obtain ⟨MX', MM', g1, g2, o⟩ := refuse_c gdc (f := 3) (by omega) (by omega) hs
            have bd := out_bad o
            refine ⟨false, MX', MM', hpre _ ?_ rfl, ?_, XF.tr (M1 := MXc) (fun a i y => xec a i (by omega)) o.1.x, MF.tr (M1 := MMc) (fun a i y => mec a i (by omega)) o.2.1.m, Or.inr ⟨rfl, bd⟩⟩
            · unfold xRate2
              rw [xec 4 1 (by decide), c3, jx, bp_s, if_neg (nI_nm1 (by omega)), B2, l1_s, if_pos rfl, show (3 : Int32) = nI 3 from rfl, g1, lp_s]
            · rw [if_pos rfl, show X12_fails 3 (MMc.1 0 6) MMc = MM' from g2, lt_e, b1_s, bad_known bd, bp_s, bad_numeral bd, bp_s, bd.bad, if_neg Bool.false_ne_true, bo_s, end_bad bd]
          | false =>
            obtain ⟨MXd, MMd, pd, qd, h1, h2, fd, gmd, gdd, rd, _⟩ := stepG_c gdc
            obtain ⟨ok3, v3, MXe, MMe, i1, i2, ⟨fe, ge, oe⟩, hv3⟩ := number_c gdd (lo := 1) (hi := 9) (by omega) (by omega)
            rw [if_neg Bool.false_ne_true, b1_s, jm MMd h2, bp_s, show X12_numeral 1 9 MMd = some (v3, MMe) from i2, bp_s]
            have xee : ∀ a i, a ≠ 16 → MXe.1 a i = MX.1 a i := fun a i y => by rw [fe.1 a i y, fd.r.1 a i y, xec a i y]
            have mee : ∀ a i, (a ≠ 0 ∨ i < 4 ∨ 9 < i) → MMe.1 a i = MM.1 a i := fun a i y => by rw [ge.1 a i y, gmd.r.1 a i y, mec a i y]
            rcases oe with ⟨rfl, pe, qe, gde, re⟩ | ⟨rfl, bd⟩
            · obtain ⟨y, y1, y2, rfl, y4⟩ := hv3 rfl
              obtain ⟨XX, hXX⟩ : ∃ XX, XX = uI (uI (uI MXe 10 (3 * k + j) (nI x)) 11 (3 * k + j) (nI y)) 4 3 (MX.1 4 3 + 1) := ⟨_, rfl⟩
              obtain ⟨VV, hVV⟩ : ∃ VV, VV = uI (uI (uI MMe 18 (9 * w + (3 * k + j)) (nI x)) 19 (9 * w + (3 * k + j)) (nI y)) 6 w (MM.1 6 w + 1) := ⟨_, rfl⟩
              have gd3 : GD XX VV n tx pe qe := by rw [hXX, hVV]; exact gde
              have xe : ∀ a i, a ≠ 16 → ¬ ((a = 4 ∧ i = 3) ∨ ((a = 10 ∨ a = 11) ∧ i = 3 * k + j)) → XX.1 a i = MX.1 a i := fun a i z1 z2 => by rw [hXX, uI_ne (by omega), uI_ne (by omega), uI_ne (by omega), xee a i z1]
              have me : ∀ a i, (a ≠ 0 ∨ i < 4 ∨ 9 < i) → ¬ ((a = 6 ∧ i = w) ∨ ((a = 18 ∨ a = 19) ∧ i = 9 * w + (3 * k + j))) → VV.1 a i = MM.1 a i := fun a i z1 z2 => by rw [hVV, uI_ne (by omega), uI_ne (by omega), uI_ne (by omega), mee a i z1]
              have hl2 : ∀ a i, a ≠ 16 → XX.2 a i = MX.2 a i := fun a i z => by rw [hXX]; exact ((((fe.2 a i z).trans (fd.2 a i z)).trans (fc.2 a i z)).trans (fb.2 a i z)).trans (fx.2 a i z)
              have ml2 : ∀ a i, a ≠ 0 → VV.2 a i = MM.2 a i := fun a i z => by rw [hVV]; exact ((((ge.2 a i z).trans (gmd.2 a i z)).trans (gc.2 a i z)).trans (gb.2 a i z)).trans (fm.2 a i z)
              have hRM := hD.2.1.rate (r := 3 * k + j) (x := x) (y := y) (X' := XX.1) (V' := VV.1) (fun a i z1 z2 z3 => xe a i (by omega) (by omega)) (fun a i z1 z2 z3 => me a i (by omega) (by omega)) (by omega) ⟨x1, x2, y1, y2⟩ (by rw [hXX, uI_ne (by omega), uI_ne (by omega), uI_eq]) (by rw [hVV, uI_ne (by omega), uI_ne (by omega), uI_eq]) (by rw [hXX, uI_ne (by omega), uI_eq]) (by rw [hVV, uI_ne (by omega), uI_eq]) (by rw [hXX, uI_eq]) (by rw [hVV, uI_eq])
              have hD2 : DR XX VV w mn kd bn hr := hD.gen hRM (fun a i z1 z2 => xe a i (by omega) (by omega)) (fun a i z => hl2 a i (by omega)) (fun a i z => me a i (by omega) (by omega)) (fun a i z => ml2 a i (by omega)) (by rw [xe 3 9 (by omega) (by omega), me 24 _ (by omega) (by omega)]; exact hD.2.2.2.2.2.2.2.2.1) (by rw [xe 3 10 (by omega) (by omega), me 25 _ (by omega) (by omega)]; exact hD.2.2.2.2.2.2.2.2.2.1)
              obtain ⟨ok, MX', MM', s1, s2, s3, s4, s5⟩ := end_c gd3 hD2
              have fX : XF MX XX := fun a i z => xe a i (by omega) (by omega)
              have fM : MF w MM VV := fun a i z => me a i (by omega) (by omega)
              refine ⟨ok, MX', MM', hpre _ ?_ rfl, ?_, fX.tr s3, fM.tr s4, ?_⟩
              · unfold xRate2
                rw [xec 4 1 (by decide), c3, jx, bp_s, if_neg (nI_nm1 (by omega)), B2, l1_s, if_neg Bool.false_ne_true, h1, bo_s, show X6_takesNumber 1 9 MXd = some (true, MXe) from i1, bp_s, if_pos rfl, hix, xp_in (by rw [hz]; omega), lt_e (uI MXe 10 (3 * k + j) (nI x)), uI_ne (by omega), y4, xp_in (by rw [hz2]; omega), lt_e (uI (uI MXe 10 (3 * k + j) (nI x)) 11 (3 * k + j) (nI y)), uI_ne (by omega), uI_ne (by omega), xee 4 3 (by decide), lt_e, ← hXX, s1, bp_s]
              · rw [gde.good, if_pos rfl, him MMe ((mee 0 42 (by omega)).trans hw.1), gd_in (by omega) (by omega), nI_clamp (by omega), lt_e (uI MMe 18 (9 * w + (3 * k + j)) (nI x)), him (uI MMe 18 (9 * w + (3 * k + j)) (nI x)) ((mee 0 42 (by omega)).trans hw.1), gd_in (by omega) (by omega), nI_clamp (by omega), lt_e (uI (uI MMe 18 (9 * w + (3 * k + j)) (nI x)) 19 (9 * w + (3 * k + j)) (nI y)), show (uI (uI MMe 18 (9 * w + (3 * k + j)) (nI x)) 19 (9 * w + (3 * k + j)) (nI y)).1 0 42 = nI w from (mee 0 42 (by omega)).trans hw.1, gd_in (by omega) (by omega), nI_clamp (by omega), uI_ne (by omega), uI_ne (by omega), mee 6 w (by omega), lt_e, ← hVV, bo_s, s2]
              · rcases s5 with ⟨z, p9, q9, mn', kd', bn', hr', z1, z2, z3⟩ | z
                · exact Or.inl ⟨z, p9, q9, mn', kd', bn', hr', z1, by have := gda.1.2.2.2.2.2.le; have := gdb.1.2.2.2.2.2.le; have := gdc.1.2.2.2.2.2.le; have := gdd.1.2.2.2.2.2.le; have := gde.1.2.2.2.2.2.le; omega, z3⟩
                · exact Or.inr z
            · refine ⟨false, MXe, MMe, hpre _ ?_ rfl, ?_, fun a i z => xee a i (by omega), fun a i z => mee a i (by omega), Or.inr ⟨rfl, bd⟩⟩
              · unfold xRate2
                rw [xec 4 1 (by decide), c3, jx, bp_s, if_neg (nI_nm1 (by omega)), B2, l1_s, if_neg Bool.false_ne_true, h1, bo_s, show X6_takesNumber 1 9 MXd = some (false, MXe) from i1, bp_s, if_neg Bool.false_ne_true]
              · rw [bd.bad, if_neg Bool.false_ne_true, bo_s, end_bad bd]
        · have bd := out_bad o
          refine ⟨false, MX', MM', hpre _ ?_ rfl, ?_, XF.tr (M1 := MXc) (fun a i y => xec a i (by omega)) o.1.x, MF.tr (M1 := MMc) (fun a i y => mec a i (by omega)) o.2.1.m, Or.inr ⟨rfl, bd⟩⟩
          · unfold xRate2
            rw [xec 4 1 (by decide), c3, jx, bp_s, if_pos rfl]
          · rw [if_pos (by decide), b1_s, if_neg Bool.false_ne_true, b1_s, jm, bp_s, bad_numeral bd, bp_s, bd.bad, if_neg Bool.false_ne_true, bo_s, end_bad bd]
      · refine ⟨false, MXc, MMc, ?_, ?_, fun a i y => by rw [fc.1 a i (by omega), fb.1 a i (by omega), fx.r.1 a i (by omega)], fun a i y => by rw [gc.1 a i (by omega), gb.1 a i (by omega), fm.r.1 a i (by omega)], Or.inr ⟨rfl, bd⟩⟩
        · unfold xRate
          rw [c3, kx, bp_s, if_neg (nI_nm1 (by omega)), f1, bo_s, show X6_takesNumber 1 9 MXa = some (true, MXb) from e1, bp_s, if_pos rfl, x4, lt_e (nI x), w1, bp_s, if_neg Bool.false_ne_true]
        · rw [bd.bad, if_neg Bool.false_ne_true, bo_s, end_bad bd]
    · refine ⟨false, MXb, MMb, ?_, ?_, fun a i y => by rw [fb.1 a i (by omega), fx.r.1 a i (by omega)], fun a i y => by rw [gb.1 a i (by omega), fm.r.1 a i (by omega)], Or.inr ⟨rfl, bd⟩⟩
      · unfold xRate
        rw [c3, kx, bp_s, if_neg (nI_nm1 (by omega)), f1, bo_s, show X6_takesNumber 1 9 MXa = some (false, MXb) from e1, bp_s, if_neg Bool.false_ne_true]
      · rw [bad_must bd, bo_s, bd.bad, if_neg Bool.false_ne_true, bo_s, end_bad bd]
  · have bd := out_bad o
    refine ⟨false, MX', MM', ?_, ?_, o.1.x, o.2.1.m, Or.inr ⟨rfl, bd⟩⟩
    · unfold xRate
      rw [c3, kx, bp_s, if_pos rfl]
    · rw [km, bp_s, bad_numeral bd, bp_s, bad_must bd, bo_s, bd.bad, if_neg Bool.false_ne_true, bo_s, end_bad bd]

