/-! ===== phase 2: books ===== -/
noncomputable def mBook (M35 : Mem) : Option Mem :=
        gd_ (inb (M35.1 0 42) (2) = true) (
        bp_ (X12_numeral 0 99 M35) fun v38 M39 =>
        gd_ (inb ((5 * (M35.1 0 42)) + (M35.1 5 ((M35.1 0 42).toNatClampNeg))) (10) = true) (
        lt_ (uI M39 20 (((5 * (M35.1 0 42)) + (M35.1 5 ((M35.1 0 42).toNatClampNeg))).toNatClampNeg) v38) fun M41 =>
        gd_ (inb (M41.1 0 42) (2) = true) (
        lt_ (uI M41 5 ((M41.1 0 42).toNatClampNeg) ((M41.1 5 ((M41.1 0 42).toNatClampNeg)) + 1)) fun M43 =>
        some M43)))
noncomputable def xBook (M4 : Mem) : Option (Bool × Mem) :=
    bp_ (X6_takesNumber 0 99 M4) fun b6 M7 =>
    if b6 = true then
      lt_ (X11_put 12 (M7.1 4 2) (M7.1 16 4) M7) fun M9 =>
      lt_ (uI M9 4 2 ((M9.1 4 2) + 1)) fun M10 =>
      bp_ (X6_takesSign 59 M10) fun b11 M12 =>
      some (b11, M12)
    else
    some (false, M7)
theorem book_c {MX MM : Mem} {n : Nat} {tx : Nat → Nat} {p q w mn kd bn hr : Nat} (h : GD MX MM n tx p q) (hD : DR MX MM w mn kd bn hr) (hb : bn < 5) : ∃ ok MX' MM', xBook MX = some (ok, MX') ∧ bo_ (mBook MM) mEnd = some MM' ∧ LO n tx q w MX MM ok MX' MM' := by
  have hw := hD.1
  have hz : zlen zTX 12 = 5 := zlen_of aX_12
  have b1 : MX.1 4 2 = nI bn := hD.2.1.2.1.2.2.2.2.1
  have b2 : MM.1 5 w = nI bn := hD.2.1.2.1.2.2.2.2.2.1
  obtain ⟨ok, v, MX1, MM1, e1, e2, ⟨f, g, o⟩, hv⟩ := number_c h (lo := 0) (hi := 99) (by omega) (by omega)
  have c1 : MX1.1 4 2 = nI bn := (f.1 4 2 (by omega)).trans b1
  have c2 : MM1.1 5 w = nI bn := (g.1 5 w (by omega)).trans b2
  have em : mBook MM = some (uI (uI MM1 20 (5 * w + bn) v) 5 w (nI (bn + 1))) := by
    unfold mBook
    rw [hw.1, gd_in (by omega) (by omega), nI_clamp (by omega), b2, show X12_numeral 0 99 MM = some (v, MM1) from e2, bp_s, show (5 : Int32) * nI w = nI (5 * w) from nI_mul 5 w, nI_add, gd_in (by omega) (by omega), nI_clamp (by omega), lt_e (uI MM1 20 (5 * w + bn) v), show (uI MM1 20 (5 * w + bn) v).1 0 42 = nI w from (g.1 0 42 (by omega)).trans hw.1, gd_in (by omega) (by omega), nI_clamp (by omega), uI_ne (by omega), c2, show nI bn + 1 = nI (bn + 1) from nI_add bn 1, lt_e]
  have me : ∀ a i, (a ≠ 0 ∨ i < 4 ∨ 9 < i) → ¬ (a = 20 ∧ i = 5 * w + bn) → ¬ (a = 5 ∧ i = w) → (uI (uI MM1 20 (5 * w + bn) v) 5 w (nI (bn + 1))).1 a i = MM.1 a i := fun a i z1 z2 z3 => by rw [uI_ne (by omega), uI_ne (by omega), g.1 a i z1]
  have fm1 : MF w MM (uI (uI MM1 20 (5 * w + bn) v) 5 w (nI (bn + 1))) := fun a i z => me a i (by omega) (by omega) (by omega)
  rcases o with ⟨rfl, p', q', gd, r⟩ | ⟨rfl, bd⟩
  · obtain ⟨k, _, k2, rfl, k4⟩ := hv rfl
    have gd2 : GD (uI (uI MX1 12 bn (nI k)) 4 2 (nI (bn + 1))) (uI (uI MM1 20 (5 * w + bn) (nI k)) 5 w (nI (bn + 1))) n tx p' q' := gd
    have xe : ∀ a i, a ≠ 16 → ¬ (a = 12 ∧ i = bn) → ¬ (a = 4 ∧ i = 2) → (uI (uI MX1 12 bn (nI k)) 4 2 (nI (bn + 1))).1 a i = MX.1 a i := fun a i z1 z2 z3 => by rw [uI_ne (by omega), uI_ne (by omega), f.1 a i z1]
    have hRM := hD.2.1.book (k := k) (X' := (uI (uI MX1 12 bn (nI k)) 4 2 (nI (bn + 1))).1) (V' := (uI (uI MM1 20 (5 * w + bn) (nI k)) 5 w (nI (bn + 1))).1) (fun a i z1 z2 z3 => xe a i (by omega) (by omega) (by omega)) (fun a i z1 z2 z3 => me a i (by omega) (by omega) (by omega)) hb (uI_eq _ _ _ _) (uI_eq _ _ _ _) (by rw [uI_ne (by omega), uI_eq]) (by rw [uI_ne (by omega), uI_eq])
    have hD2 := hD.gen hRM (fun a i z1 z2 => xe a i (by omega) (by omega) (by omega)) (fun a i z => f.2 a i (by omega)) (fun a i z => me a i (by omega) (by omega) (by omega)) (fun a i z => (g.2 a i (by omega))) ⟨hD.2.2.2.2.2.2.2.2.1.choose, hD.2.2.2.2.2.2.2.2.1.choose_spec.1, (xe 3 9 (by omega) (by omega) (by omega)).trans hD.2.2.2.2.2.2.2.2.1.choose_spec.2.1, (me 24 w (by omega) (by omega) (by omega)).trans hD.2.2.2.2.2.2.2.2.1.choose_spec.2.2⟩ ⟨hD.2.2.2.2.2.2.2.2.2.1.choose, hD.2.2.2.2.2.2.2.2.2.1.choose_spec.1, (xe 3 10 (by omega) (by omega) (by omega)).trans hD.2.2.2.2.2.2.2.2.2.1.choose_spec.2.1, (me 25 w (by omega) (by omega) (by omega)).trans hD.2.2.2.2.2.2.2.2.2.1.choose_spec.2.2⟩
    obtain ⟨ok, MX', MM', s1, s2, s3, s4, s5⟩ := end_c gd2 hD2
    refine ⟨ok, MX', MM', ?_, by rw [em, bo_s, s2], ?_, fm1.tr s4, ?_⟩
    · unfold xBook
      rw [show X6_takesNumber 0 99 MX = some (true, MX1) from e1, bp_s, if_pos rfl, c1, k4, xp_in (by omega), lt_e (uI MX1 12 bn (nI k)), uI_ne (by omega), c1, show nI bn + 1 = nI (bn + 1) from nI_add bn 1, lt_e, s1, bp_s]
    · exact XF.tr (M1 := uI (uI MX1 12 bn (nI k)) 4 2 (nI (bn + 1))) (fun a i z => xe a i (by omega) (by omega) (by omega)) s3
    · rcases s5 with ⟨y, p2, q2, mn', kd', bn', hr', y1, y2, y3⟩ | y
      · exact Or.inl ⟨y, p2, q2, mn', kd', bn', hr', y1, by have := gd.1.2.2.2.2.2.le; omega, y3⟩
      · exact Or.inr y
  · have bd2 : BD MX1 (uI (uI MM1 20 (5 * w + bn) v) 5 w (nI (bn + 1))) := bd.fr rfl rfl rfl rfl rfl rfl
    refine ⟨false, MX1, _, ?_, by rw [em, bo_s, end_bad bd2], f.x, fm1, Or.inr ⟨rfl, bd2⟩⟩
    unfold xBook
    rw [show X6_takesNumber 0 99 MX = some (false, MX1) from e1, bp_s, if_neg Bool.false_ne_true]
