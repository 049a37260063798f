/-! ===== phase 2: hours ===== -/
noncomputable def mHours (M57 : Mem) : Option Mem :=
        gd_ (inb (M57.1 0 42) (2) = true) (
        lt_ (uI M57 24 ((M57.1 0 42).toNatClampNeg) 1) fun M60 =>
        bp_ (X12_numeral 1 8 M60) fun v61 M62 =>
        gd_ (inb (M60.1 0 42) (2) = true) (
        lt_ (uI M62 8 ((M60.1 0 42).toNatClampNeg) v61) fun M64 =>
        some M64))
noncomputable def xHours (M4 : Mem) : Option (Bool × Mem) :=
    bp_ (X6_takesNumber 1 8 M4) fun b6 M7 =>
    if b6 = true then
      lt_ (uI M7 3 9 1) fun M9 =>
      lt_ (uI M9 4 4 (M9.1 16 4)) fun M10 =>
      bp_ (X6_takesSign 59 M10) fun b11 M12 =>
      some (b11, M12)
    else
    some (false, M7)
theorem hours_c {MX MM : Mem} {n : Nat} {tx : Nat → Nat} {p q w mn kd bn hr : Nat} (h : GD MX MM n tx p q) (hD : DR MX MM w mn kd bn hr) : ∃ ok MX' MM', xHours MX = some (ok, MX') ∧ bo_ (mHours MM) mEnd = some MM' ∧ LO n tx q w MX MM ok MX' MM' := by
  have hw := hD.1
  have h' : GD MX (uI MM 24 w 1) n tx p q := h
  have fm0 : MF w MM (uI MM 24 w 1) := fun a i z => uI_ne (by omega)
  obtain ⟨ok, v, MX1, MM1, e1, e2, ⟨f, g, o⟩, hv⟩ := number_c h' (lo := 1) (hi := 8) (by omega) (by omega)
  have em : mHours MM = some (uI MM1 8 w v) := by
    unfold mHours
    rw [hw.1, gd_in (by omega) (by omega), nI_clamp (by omega), lt_e (uI MM 24 w 1), show X12_numeral 1 8 (uI MM 24 w 1) = some (v, MM1) from e2, bp_s, show (uI MM 24 w 1).1 0 42 = nI w from hw.1, gd_in (by omega) (by omega), nI_clamp (by omega), lt_e]
  have fm1 : MF w MM (uI MM1 8 w v) := (fm0.tr g.m).tr (fun a i z => uI_ne (by omega))
  rcases o with ⟨rfl, p', q', gd, r⟩ | ⟨rfl, bd⟩
  · obtain ⟨k, k1, k2, rfl, k4⟩ := hv rfl
    have gd2 : GD (uI (uI MX1 3 9 1) 4 4 (nI k)) (uI MM1 8 w (nI k)) n tx p' q' := gd
    have xe : ∀ a i, a ≠ 16 → ¬ (a = 3 ∧ i = 9) → ¬ (a = 4 ∧ i = 4) → (uI (uI MX1 3 9 1) 4 4 (nI k)).1 a i = MX.1 a i := fun a i z1 z2 z3 => by rw [uI_ne (by omega), uI_ne (by omega), f.1 a i z1]
    have me : ∀ a i, (a ≠ 0 ∨ i < 4 ∨ 9 < i) → ¬ (a = 24 ∧ i = w) → ¬ (a = 8 ∧ i = w) → (uI MM1 8 w (nI k)).1 a i = MM.1 a i := fun a i z1 z2 z3 => by rw [uI_ne (by omega), g.1 a i z1, uI_ne (by omega)]
    have hRM := hD.2.1.hours (X' := (uI (uI MX1 3 9 1) 4 4 (nI k)).1) (V' := (uI MM1 8 w (nI k)).1) (fun a i z1 z2 z3 => xe a i (by omega) (by omega) (by omega)) (fun a i z1 z2 z3 => me a i (by omega) (by omega) (by omega)) ⟨k1, k2⟩ (uI_eq _ _ _ _) (uI_eq _ _ _ _)
    have hD2 : DR (uI (uI MX1 3 9 1) 4 4 (nI k)) (uI MM1 8 w (nI k)) w mn kd bn k := hD.gen hRM (fun a i z1 z2 => xe a i (by omega) (by omega) (by omega)) (fun a i z => f.2 a i (by omega)) (fun a i z => me a i (by omega) (by omega) (by omega)) (fun a i z => (g.2 a i (by omega))) ⟨1, by omega, by rw [uI_ne (by omega), uI_eq]; rfl, by rw [uI_ne (by omega), g.1 24 w (by omega), uI_eq]; rfl⟩ ⟨hD.2.2.2.2.2.2.2.2.2.1.choose, hD.2.2.2.2.2.2.2.2.2.1.choose_spec.1, (xe 3 10 (by omega) (by omega) (by omega)).trans hD.2.2.2.2.2.2.2.2.2.1.choose_spec.2.1, (me 25 w (by omega) (by omega) (by omega)).trans hD.2.2.2.2.2.2.2.2.2.1.choose_spec.2.2⟩
    obtain ⟨ok, MX', MM', s1, s2, s3, s4, s5⟩ := end_c gd2 hD2
    refine ⟨ok, MX', MM', ?_, by rw [em, bo_s, s2], ?_, fm1.tr s4, ?_⟩
    · unfold xHours
      rw [show X6_takesNumber 1 8 MX = some (true, MX1) from e1, bp_s, if_pos rfl, lt_e (uI MX1 3 9 1), uI_ne (by omega), k4, lt_e, s1, bp_s]
    · exact XF.tr (M1 := uI (uI MX1 3 9 1) 4 4 (nI k)) (fun a i z => xe a i (by omega) (by omega) (by omega)) s3
    · rcases s5 with ⟨y, p2, q2, mn', kd', bn', hr', y1, y2, y3⟩ | y
      · exact Or.inl ⟨y, p2, q2, mn', kd', bn', hr', y1, by have := gd.1.2.2.2.2.2.le; omega, y3⟩
      · exact Or.inr y
  · have bd2 : BD MX1 (uI MM1 8 w v) := bd.fr rfl rfl rfl rfl rfl rfl
    refine ⟨false, MX1, uI MM1 8 w v, ?_, by rw [em, bo_s, end_bad bd2], f.x, fm1, Or.inr ⟨rfl, bd2⟩⟩
    unfold xHours
    rw [show X6_takesNumber 1 8 MX = some (false, MX1) from e1, bp_s, if_neg Bool.false_ne_true]
