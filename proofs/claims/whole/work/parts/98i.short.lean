/-! ===== phase 2: the short lines ===== -/
theorem DR.gen {MX MM X M : Mem} {w mn kd bn hr bn' hr' : Nat} (hD : DR MX MM w mn kd bn hr) (hRM : RM X.1 4 M.1 w mn kd bn' hr')
    (hx : ∀ a i, a = 3 ∨ (6 ≤ a ∧ a ≤ 9) ∨ a = 13 ∨ (20 ≤ a ∧ a ≤ 22) → ¬ (a = 3 ∧ (i = 9 ∨ i = 10)) → X.1 a i = MX.1 a i) (hx2 : ∀ a i, a = 18 ∨ a = 19 → X.2 a i = MX.2 a i)
    (hm : ∀ a i, (a = 0 ∧ (i = 42 ∨ i = 43)) ∨ a = 7 ∨ a = 10 ∨ a = 11 ∨ a = 16 ∨ a = 17 ∨ a = 23 → M.1 a i = MM.1 a i) (hm2 : ∀ a i, a = 26 ∨ a = 27 → M.2 a i = MM.2 a i)
    (k9 : ∃ g, g ≤ 1 ∧ X.1 3 9 = nI g ∧ M.1 24 w = nI g) (k10 : ∃ g, g ≤ 1 ∧ X.1 3 10 = nI g ∧ M.1 25 w = nI g) : DR X M w mn kd bn' hr' := by
  obtain ⟨⟨h1, h1'⟩, h2, h3, h4, h5, h6, h7, h8, h9, h10, h11, h12, h13⟩ := hD
  refine ⟨⟨(hm 0 42 (by omega)).trans h1, h1'⟩, hRM, h3.fr (fun i => hx2 18 i (by omega)) (fun i => hm2 26 i (by omega)), h4.fr (fun i => hx2 19 i (by omega)) (fun i => hm2 27 i (by omega)), fun m hm' => ?_, fun j h1 h2 => ?_, ?_, ?_, k9, k10, fun i h1 h2 => ?_, ?_, ?_⟩
  · rw [hm 16 _ (by omega), hm 17 _ (by omega)]
    simp only [fun i => hx 20 i (by omega) (by omega), fun i => hx 21 i (by omega) (by omega)]
    exact h5 m hm'
  · rw [hx 20 j (by omega) (by omega), hx 21 j (by omega) (by omega), hx 8 j (by omega) (by omega), hx 9 j (by omega) (by omega)]; exact h6 j h1 h2
  · rw [hm 11 _ (by omega)]
    simp only [fun i => hx 22 i (by omega) (by omega)]
    exact h7
  · rw [hx 3 8 (by omega) (by omega), hm 23 _ (by omega)]; exact h8
  · rw [hx 6 i (by omega) (by omega), hx 7 i (by omega) (by omega)]; exact h11 i h1 h2
  · rw [hm 10 _ (by omega)]; exact h12
  · rw [hx 3 8 (by omega) (by omega), hm 0 43 (by omega), hx 13 2 (by omega) (by omega), hx 13 3 (by omega) (by omega), hm 7 _ (by omega)]; exact h13
noncomputable def mDraw (M57 : Mem) : Option Mem :=
        gd_ (inb (M57.1 0 42) (2) = true) (
        lt_ (uI M57 25 ((M57.1 0 42).toNatClampNeg) 1) fun M60 =>
        bp_ (X12_numeral 0 999 M60) fun v61 M62 =>
        gd_ (inb (M60.1 0 42) (2) = true) (
        lt_ (uI M62 9 ((M60.1 0 42).toNatClampNeg) v61) fun M64 =>
        some M64))
noncomputable def xDraw (M4 : Mem) : Option (Bool × Mem) :=
    bp_ (X6_takesNumber 0 999 M4) fun b6 M7 =>
    if b6 = true then
      lt_ (uI M7 3 10 1) fun M9 =>
      lt_ (uI M9 4 5 (M9.1 16 4)) fun M10 =>
      bp_ (X6_takesSign 59 M10) fun b11 M12 =>
      some (b11, M12)
    else
    some (false, M7)
theorem draw_c {MX MM : Mem} {n : Nat} {tx : Nat → Nat} {p q w mn kd bn hr : Nat} (h : GD MX MM n tx p q) (hD : DR MX MM w mn kd bn hr) : ∃ ok MX' MM', xDraw MX = some (ok, MX') ∧ bo_ (mDraw MM) mEnd = some MM' ∧ LO n tx q w MX MM ok MX' MM' := by
  have hw := hD.1
  have h' : GD MX (uI MM 25 w 1) n tx p q := h
  have fm0 : MF w MM (uI MM 25 w 1) := fun a i z => uI_ne (by omega)
  obtain ⟨ok, v, MX1, MM1, e1, e2, ⟨f, g, o⟩, hv⟩ := number_c h' (lo := 0) (hi := 999) (by omega) (by omega)
  have em : mDraw MM = some (uI MM1 9 w v) := by
    unfold mDraw
    rw [hw.1, gd_in (by omega) (by omega), nI_clamp (by omega), lt_e (uI MM 25 w 1), show X12_numeral 0 999 (uI MM 25 w 1) = some (v, MM1) from e2, bp_s, show (uI MM 25 w 1).1 0 42 = nI w from hw.1, gd_in (by omega) (by omega), nI_clamp (by omega), lt_e]
  have fm1 : MF w MM (uI MM1 9 w v) := (fm0.tr g.m).tr (fun a i z => uI_ne (by omega))
  rcases o with ⟨rfl, p', q', gd, r⟩ | ⟨rfl, bd⟩
  · obtain ⟨k, _, k2, rfl, k4⟩ := hv rfl
    have gd2 : GD (uI (uI MX1 3 10 1) 4 5 (nI k)) (uI MM1 9 w (nI k)) n tx p' q' := gd
    have xe : ∀ a i, a ≠ 16 → ¬ (a = 3 ∧ i = 10) → ¬ (a = 4 ∧ i = 5) → (uI (uI MX1 3 10 1) 4 5 (nI k)).1 a i = MX.1 a i := fun a i z1 z2 z3 => by rw [uI_ne (by omega), uI_ne (by omega), f.1 a i z1]
    have me : ∀ a i, (a ≠ 0 ∨ i < 4 ∨ 9 < i) → ¬ (a = 25 ∧ i = w) → ¬ (a = 9 ∧ i = w) → (uI MM1 9 w (nI k)).1 a i = MM.1 a i := fun a i z1 z2 z3 => by rw [uI_ne (by omega), g.1 a i z1, uI_ne (by omega)]
    have hRM := hD.2.1.draw (X' := (uI (uI MX1 3 10 1) 4 5 (nI k)).1) (V' := (uI MM1 9 w (nI k)).1) (fun a i z1 z2 z3 => xe a i (by omega) (by omega) (by omega)) (fun a i z1 z2 z3 => me a i (by omega) (by omega) (by omega)) k2 (uI_eq _ _ _ _) (uI_eq _ _ _ _)
    have hD2 : DR (uI (uI MX1 3 10 1) 4 5 (nI k)) (uI MM1 9 w (nI k)) w mn kd bn hr := hD.gen hRM (fun a i z1 z2 => xe a i (by omega) (by omega) (by omega)) (fun a i z => f.2 a i (by omega)) (fun a i z => me a i (by omega) (by omega) (by omega)) (fun a i z => (g.2 a i (by omega))) ⟨hD.2.2.2.2.2.2.2.2.1.choose, hD.2.2.2.2.2.2.2.2.1.choose_spec.1, (xe 3 9 (by omega) (by omega) (by omega)).trans hD.2.2.2.2.2.2.2.2.1.choose_spec.2.1, (me 24 w (by omega) (by omega) (by omega)).trans hD.2.2.2.2.2.2.2.2.1.choose_spec.2.2⟩ ⟨1, by omega, by rw [uI_ne (by omega), uI_eq]; rfl, by rw [uI_ne (by omega), g.1 25 w (by omega), uI_eq]; rfl⟩
    obtain ⟨ok, MX', MM', s1, s2, s3, s4, s5⟩ := end_c gd2 hD2
    refine ⟨ok, MX', MM', ?_, by rw [em, bo_s, s2], ?_, fm1.tr s4, ?_⟩
    · unfold xDraw
      rw [show X6_takesNumber 0 999 MX = some (true, MX1) from e1, bp_s, if_pos rfl, lt_e (uI MX1 3 10 1), uI_ne (by omega), k4, lt_e, s1, bp_s]
    · exact XF.tr (M1 := uI (uI MX1 3 10 1) 4 5 (nI k)) (fun a i z => xe a i (by omega) (by omega) (by omega)) s3
    · rcases s5 with ⟨y, p2, q2, mn', kd', bn', hr', y1, y2, y3⟩ | y
      · exact Or.inl ⟨y, p2, q2, mn', kd', bn', hr', y1, by have := gd.1.2.2.2.2.2.le; omega, y3⟩
      · exact Or.inr y
  · have bd2 : BD MX1 (uI MM1 9 w v) := bd.fr rfl rfl rfl rfl rfl rfl
    refine ⟨false, MX1, uI MM1 9 w v, ?_, by rw [em, bo_s, end_bad bd2], f.x, fm1, Or.inr ⟨rfl, bd2⟩⟩
    unfold xDraw
    rw [show X6_takesNumber 0 999 MX = some (false, MX1) from e1, bp_s, if_neg Bool.false_ne_true]
