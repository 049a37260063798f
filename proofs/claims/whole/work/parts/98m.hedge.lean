/-! ===== phase 2: hedges ===== -/
noncomputable def xHedge (M1 : Mem) : Option (Bool × Mem) :=
  bp_ (X4_placeOfName 19 (M1.1 4 0) M1) fun v2 M3 =>
  if v2 = (-1) then
    some (false, M3)
  else
  bp_ (X4_tellsOnce 22 v2 M3) fun b5 M6 =>
  if b5 = true then
    bp_ (X6_takesNumber 0 10 M6) fun b8 M9 =>
    if b8 = true then
      lt_ (X11_put 7 v2 (M9.1 16 4) M9) fun M11 =>
      bp_ (X6_takesSign 59 M11) fun b12 M13 =>
      some (b12, M13)
    else
    some (false, M9)
  else
  some (false, M6)
theorem out_bad {n : Nat} {tx : Nat → Nat} {q : Nat} {MX MM MX' MM' : Mem} (o : OUT n tx q MX MM false MX' MM') : BD MX' MM' := by
  rcases o.2.2 with ⟨y, _⟩ | ⟨_, y⟩
  · exact absurd y Bool.false_ne_true
  · exact y
theorem hedge_c {MX MM : Mem} {n : Nat} {tx : Nat → Nat} {p q w mn kd bn hr : Nat} (h : GD MX MM n tx p q) (hD : DR MX MM w mn kd bn hr) : ∃ ok MX' MM', xHedge MX = some (ok, MX') ∧ bo_ (X12_readHedge MM) mEnd = some MM' ∧ LO n tx q w MX MM ok MX' MM' := by
  have hw := hD.1
  have hmn := hD.2.1.1.1
  have c1 : MX.1 4 0 = nI mn := hD.2.1.2.1.1
  have c2 : MM.1 4 w = nI mn := hD.2.1.2.1.2.1
  obtain ⟨t, t1, t2⟩ := place_c h hD.2.2.2.1
  have hman : X12_manHere MM = some t := by
    unfold X12_manHere
    rw [hw.1, gd_in (by omega) (by omega), nI_clamp (by omega), c2, show (5 : Int32) * nI w = nI (5 * w) from nI_mul 5 w, t1, bo_s]
  unfold X12_readHedge
  rw [hman, bo_s, h.good, if_pos rfl]
  rcases t2 with ⟨k, k1, rfl, k8, kx, km⟩ | ⟨rfl, MX', MM', kx, km, o⟩
  · obtain ⟨mask, m1, m2, m3⟩ := hD.2.2.2.2.2.2.1
    have hz : zlen zTX 22 = 5 := zlen_of aX_22
    have hs : ¬ MX.1 16 1 = 1 := by rw [(h.name k8).1]; decide
    have c22 : MX.1 22 k = nI (mask / 2 ^ k % 2) := m3 k (by omega)
    have hbit := sbit_c (i := k) m1 (by omega)
    rw [if_neg (nI_pos (by omega)), hw.1, gd_in (by omega) (by omega), nI_clamp (by omega), m2]
    by_cases z : mask / 2 ^ k % 2 = 1
    · obtain ⟨MX', MM', f1, f2, o⟩ := refuse_c h (f := 3) (by omega) (by omega) hs
      have bd := out_bad o
      refine ⟨false, MX', MM', ?_, ?_, o.1.x, o.2.1.m, Or.inr ⟨rfl, bd⟩⟩
      · unfold xHedge X4_tellsOnce
        rw [c1, kx, bp_s, if_neg (nI_nm1 (by omega)), if_neg (nI_pos (by omega)), hz, if_neg (nI_ge (by omega) (by omega)), l1_s, if_neg Bool.false_ne_true, gd_in (by omega) (by omega), nI_clamp (by omega), c22, z, if_neg (show ¬ nI 1 = 0 by decide), show (3 : Int32) = nI 3 from rfl, f1, lp_s, bp_s, if_neg Bool.false_ne_true]
      · rw [if_pos (hbit.mpr z), show (3 : Int32) = nI 3 from rfl, f2, lt_e, b1_s, bad_known bd, bp_s, show X12_numeral 0 10 MM' = some (0, MM') from bad_numeral bd, bp_s, bd.bad, if_neg Bool.false_ne_true, bo_s, end_bad bd]
    · have h' : GD (uI MX 22 k 1) MM n tx p q := h
      obtain ⟨MX1, MM1, p', q', f1, f2, fx, fm, gd, r1, _⟩ := stepG_c h'
      obtain ⟨ok, v, MX2, MM2, e1, e2, ⟨f, g, o⟩, hv⟩ := number_c gd (lo := 0) (hi := 10) (by omega) (by omega)
      have xe2 : ∀ a i, a ≠ 16 → ¬ (a = 22 ∧ i = k) → MX2.1 a i = MX.1 a i := fun a i z1 z2 => by rw [f.1 a i z1, fx.r.1 a i z1, uI_ne (by omega)]
      have me2 : ∀ a i, (a ≠ 0 ∨ i < 4 ∨ 9 < i) → MM2.1 a i = MM.1 a i := fun a i z1 => by rw [g.1 a i z1, fm.r.1 a i z1]
      have hx0 : ∀ R : Bool → Mem → Option (Bool × Mem), bp_ (X4_tellsOnce 22 (nI k) MX) R = R true MX1 := fun R => by
        unfold X4_tellsOnce
        rw [if_neg (nI_pos (by omega)), hz, if_neg (nI_ge (by omega) (by omega)), l1_s, if_neg Bool.false_ne_true, gd_in (by omega) (by omega), nI_clamp (by omega), c22, if_pos (show nI (mask / 2 ^ k % 2) = 0 by rw [show mask / 2 ^ k % 2 = 0 by omega]; rfl), lt_e, f1, bo_s, bp_s]
      rw [if_neg (fun y => z (hbit.mp y)), b1_s, km MM1 f2, bp_s, show X12_numeral 0 10 MM1 = some (v, MM2) from e2, bp_s]
      rcases o with ⟨rfl, p2, q2, gd2, r2⟩ | ⟨rfl, bd⟩
      · sorry
      · refine ⟨false, MX2, MM2, ?_, ?_, fun a i y => xe2 a i (by omega) (by omega), fun a i y => me2 a i (by omega), Or.inr ⟨rfl, bd⟩⟩
        · unfold xHedge
          rw [c1, kx, bp_s, if_neg (nI_nm1 (by omega)), hx0, if_pos rfl, show X6_takesNumber 0 10 MX1 = some (false, MX2) from e1, bp_s, if_neg Bool.false_ne_true]
        · rw [bd.bad, if_neg Bool.false_ne_true, bo_s, end_bad bd]
  · have bd := out_bad o
    refine ⟨false, MX', MM', ?_, ?_, o.1.x, o.2.1.m, Or.inr ⟨rfl, bd⟩⟩
    · unfold xHedge
      rw [c1, kx, bp_s, if_pos rfl]
    · rw [if_pos (by decide), b1_s, km, bp_s, show X12_numeral 0 10 MM' = some (0, MM') from bad_numeral bd, bp_s, bd.bad, if_neg Bool.false_ne_true, bo_s, end_bad bd]
