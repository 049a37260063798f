/-! ===== phase 2: the line of a kind ===== -/
noncomputable def mKind (M10 : Mem) : Option Mem :=
        gd_ (inb (M10.1 0 42) (2) = true) (
        bo_ (X12_kindHere M10) fun v13 =>
        bp_ (X12_fresh v13 M10) fun l14 M15 =>
        gd_ (inb ((3 * (M10.1 0 42)) + (M10.1 3 ((M10.1 0 42).toNatClampNeg))) (6) = true) (
        lt_ (uL M15 26 (((3 * (M10.1 0 42)) + (M10.1 3 ((M10.1 0 42).toNatClampNeg))).toNatClampNeg) l14) fun M17 =>
        gd_ (inb (M17.1 0 42) (2) = true) (
        lt_ (uI M17 3 ((M17.1 0 42).toNatClampNeg) ((M17.1 3 ((M17.1 0 42).toNatClampNeg)) + 1)) fun M19 =>
        some M19)))
noncomputable def xKind (M4 : Mem) : Option (Bool × Mem) :=
    bp_ (X4_newName 18 (M4.1 4 1) M4) fun b6 M7 =>
    if b6 = true then
      lt_ (uI M7 4 1 ((M7.1 4 1) + 1)) fun M9 =>
      bp_ (X6_takesSign 59 M9) fun b10 M11 =>
      some (b10, M11)
    else
    some (false, M7)
theorem lnKind_c {MX MM : Mem} {n : Nat} {tx : Nat → Nat} {p q w mn kd bn hr : Nat} (h : GD MX MM n tx p q) (hD : DR MX MM w mn kd bn hr) (hk : kd < 3) : ∃ ok MX' MM', xKind MX = some (ok, MX') ∧ bo_ (mKind MM) mEnd = some MM' ∧ LO n tx q w MX MM ok MX' MM' := by
  have hw := hD.1
  have c1 : MX.1 4 1 = nI kd := hD.2.1.2.1.2.2.1
  have c2 : MM.1 3 w = nI kd := hD.2.1.2.1.2.2.2.1
  obtain ⟨t, ok, l, MX1, MM1, t1, t2, t3, t4⟩ := new_c h hD.2.2.1 (by rw [show zlen zTX 18 = 3 from zlen_of aX_18]; omega) (by decide)
  have fm1 : FMr MM MM1 := by
    rcases t4 with ⟨_, _, _, g, _⟩ | ⟨_, o⟩
    · exact g
    · exact o.2.1
  have hkh : X12_kindHere MM = some t := by
    unfold X12_kindHere
    rw [hw.1, gd_in (by omega) (by omega), nI_clamp (by omega), c2, show (3 : Int32) * nI w = nI (3 * w) from nI_mul 3 w, t1, bo_s]
  have em : mKind MM = some (uI (uL MM1 26 (3 * w + kd) l) 3 w (nI (kd + 1))) := by
    unfold mKind
    rw [hkh, hw.1, gd_in (by omega) (by omega), bo_s, t3, bp_s, nI_clamp (by omega), c2, show (3 : Int32) * nI w = nI (3 * w) from nI_mul 3 w, nI_add, gd_in (by omega) (by omega), nI_clamp (by omega), lt_e (uL MM1 26 (3 * w + kd) l), show (uL MM1 26 (3 * w + kd) l).1 0 42 = nI w from (fm1.1 0 42 (by omega)).trans hw.1, gd_in (by omega) (by omega), nI_clamp (by omega), show (uL MM1 26 (3 * w + kd) l).1 3 w = nI kd from (fm1.1 3 w (by omega)).trans c2, show nI kd + 1 = nI (kd + 1) from nI_add kd 1, lt_e]
  rcases t4 with ⟨rfl, k1, k2, g, k3, k4, p', q', gd, r⟩ | ⟨rfl, o⟩
  · obtain ⟨XX, hXX⟩ : ∃ XX, XX = uI MX1 4 1 (nI (kd + 1)) := ⟨_, rfl⟩
    obtain ⟨VV, hVV⟩ : ∃ VV, VV = uI (uL MM1 26 (3 * w + kd) l) 3 w (nI (kd + 1)) := ⟨_, rfl⟩
    have gd2 : GD XX VV n tx p' q' := by rw [hXX, hVV]; exact gd
    have xe : ∀ a i, a ≠ 16 → ¬ (a = 4 ∧ i = 1) → XX.1 a i = MX.1 a i := fun a i z1 z2 => by rw [hXX, uI_ne (by omega), k3 a i z1]
    have me : ∀ a i, (a ≠ 0 ∨ i < 4 ∨ 9 < i) → ¬ (a = 3 ∧ i = w) → VV.1 a i = MM.1 a i := fun a i z1 z2 => by rw [hVV, uI_ne (by omega)]; exact g.1 a i z1
    have hl2' : ∀ a i, a ≠ 16 → ¬ (a = 18 ∧ i = kd) → XX.2 a i = MX.2 a i := fun a i y y2 => by rw [hXX]; exact k4 a i y y2
    have ml2' : ∀ a i, a ≠ 0 → ¬ (a = 26 ∧ i = 3 * w + kd) → VV.2 a i = MM.2 a i := fun a i y y2 => by
      rw [hVV]
      show (uL MM1 26 (3 * w + kd) l).2 a i = _
      rw [uL_g, if_neg y2]
      exact g.2 a i y
    have x18 : XX.2 18 kd = MX.2 16 2 := by rw [hXX]; exact k2
    have v26 : VV.2 26 (3 * w + kd) = l := by
      rw [hVV]
      show (uL MM1 26 (3 * w + kd) l).2 26 _ = _
      rw [uL_g, if_pos ⟨rfl, rfl⟩]
    have hRM := hD.2.1.kind (X' := XX.1) (V' := VV.1) (fun a i y1 y2 y3 => xe a i (by omega) (by omega)) (fun a i y1 y2 y3 => me a i (by omega) (by omega)) hk (by rw [hXX, uI_eq]) (by rw [hVV, uI_eq])
    have hNS : NS XX VV 18 26 (3 * w) (kd + 1) := by
      obtain ⟨n1, n2, n3, n4, n5⟩ := hD.2.2.1
      refine ⟨by omega, by rw [show zlen zTX 18 = 3 from zlen_of aX_18]; omega, by rw [show zlen zTM 26 = 6 from zlen_of aM_26]; omega, n4, fun k hk' => ?_⟩
      by_cases z : k = kd
      · rw [z, x18, v26]; exact k1
      · rw [hl2' 18 k (by decide) (by omega), ml2' 26 _ (by decide) (by omega)]; exact n5 k (by omega)
    have hD2 : DR XX VV w mn (kd + 1) bn hr := by
      obtain ⟨⟨h1, h1'⟩, h2, h3, h4, h5, h6, h7, h8, h9, h10, h11, h12, h13⟩ := hD
      refine ⟨⟨(me 0 42 (by omega) (by omega)).trans h1, h1'⟩, hRM, hNS, h4.fr (fun i => hl2' 19 i (by omega) (by omega)) (fun i => ml2' 27 i (by omega) (by omega)), fun m hm' => ?_, fun j h1 h2 => ?_, ?_, ?_, ?_, ?_, fun i h1 h2 => ?_, ?_, ?_⟩
      · rw [me 16 _ (by omega) (by omega), me 17 _ (by omega) (by omega)]
        simp only [fun i => xe 20 i (by omega) (by omega), fun i => xe 21 i (by omega) (by omega)]
        exact h5 m hm'
      · rw [xe 20 j (by omega) (by omega), xe 21 j (by omega) (by omega), xe 8 j (by omega) (by omega), xe 9 j (by omega) (by omega)]; exact h6 j h1 h2
      · rw [me 11 _ (by omega) (by omega)]
        simp only [fun i => xe 22 i (by omega) (by omega)]
        exact h7
      · rw [xe 3 8 (by omega) (by omega), me 23 _ (by omega) (by omega)]; exact h8
      · rw [xe 3 9 (by omega) (by omega), me 24 _ (by omega) (by omega)]; exact h9
      · rw [xe 3 10 (by omega) (by omega), me 25 _ (by omega) (by omega)]; exact h10
      · rw [xe 6 i (by omega) (by omega), xe 7 i (by omega) (by omega)]; exact h11 i h1 h2
      · rw [me 10 _ (by omega) (by omega)]; exact h12
      · rw [xe 3 8 (by omega) (by omega), me 0 43 (by omega) (by omega), xe 13 2 (by omega) (by omega), xe 13 3 (by omega) (by omega), me 7 _ (by omega) (by omega)]; exact h13
    obtain ⟨ok, MX', MM', s1, s2, s3, s4, s5⟩ := end_c gd2 hD2
    have fX : XF MX XX := fun a i y => xe a i (by omega) (by omega)
    have fM : MF w MM VV := fun a i y => me a i (by omega) (by omega)
    refine ⟨ok, MX', MM', ?_, by rw [em, bo_s, ← hVV, s2], fX.tr s3, fM.tr s4, ?_⟩
    · unfold xKind
      rw [c1, t2, bp_s, if_pos rfl, k3 4 1 (by decide), c1, show nI kd + 1 = nI (kd + 1) from nI_add kd 1, lt_e, ← hXX, s1, bp_s]
    · rcases s5 with ⟨y, p9, q9, mn', kd', bn', hr', y1, y2, y3⟩ | y
      · exact Or.inl ⟨y, p9, q9, mn', kd', bn', hr', y1, by have := gd.1.2.2.2.2.2.le; omega, y3⟩
      · exact Or.inr y
  · have bd : BD MX1 (uI (uL MM1 26 (3 * w + kd) l) 3 w (nI (kd + 1))) := (out_bad o).fr rfl rfl rfl rfl rfl rfl
    refine ⟨false, MX1, _, ?_, by rw [em, bo_s, end_bad bd], o.1.x, fun a i z => by rw [uI_ne (by omega)]; exact fm1.m (w := w) a i z, Or.inr ⟨rfl, bd⟩⟩
    unfold xKind
    rw [c1, t2, bp_s, if_neg Bool.false_ne_true]
