/-! ===== phase 2: the text is begun ===== -/
theorem start_c {MX MM : Mem} {b mn kd bn hr : Nat} (h : RP MX.1 MM.1 b mn kd bn hr) : ∃ M1 M2 MX3 MM12 MM13 n tx p q w, w ≤ 1 ∧ b ≤ 1 ∧ b ≠ w ∧ X3_clear 4 MX = some M1 ∧ X4_forgetTold M1 = some M2 ∧ X6_begin M2 = some MX3 ∧
    (∀ R : Mem → Option (Int32 × Mem), (lt_ (uI MM 0 4 0) fun M1 => lt_ (uI M1 0 5 (-1)) fun M2 => lt_ (uI M2 0 3 (M2.1 0 2)) fun M3 => b1_ (α := Mem) (X12_mill_L1 zFU 0 M3) fun M8 => lt_ (uI M8 0 2 0) fun M9 => lt_ (uI M9 0 7 0) fun M10 => lt_ (uI M10 0 42 (1 - (M10.1 0 41))) fun M11 => bo_ (X12_clearBank M11) R) = R MM12) ∧ X12_goOn MM12 = some MM13 ∧
    XF MX MX3 ∧ MF w (uI MM 0 2 0) MM13 ∧ GD MX3 MM13 n tx p q ∧ DR MX3 MM13 w 0 0 0 6 := by
  obtain ⟨_, _, _, _, _, _, ⟨n, hn, x1, v2, htx⟩, _, _, hb1, hb, _⟩ := h
  obtain ⟨M1, e1, f1, ⟨a0, a1, a2, a3, a4, a5⟩, a6, a8, a10, a13, a14⟩ := clear4_c (M := MX)
  obtain ⟨M2, e2, f2, ⟨b8, b9, b10⟩, b22, b20⟩ := forgetTold_c (M := M1)
  obtain ⟨XX, hXX⟩ : ∃ XX, XX = uI (uI (uI M2 16 5 0) 16 6 (-1)) 16 8 0 := ⟨_, rfl⟩
  obtain ⟨w, hw1, hbw, hw⟩ : ∃ w, w ≤ 1 ∧ b ≠ w ∧ (1 : Int32) - nI b = nI w := by
    rcases (by omega : b = 0 ∨ b = 1) with z | z
    · exact ⟨1, by omega, by omega, by rw [z]; rfl⟩
    · exact ⟨0, by omega, by omega, by rw [z]; rfl⟩
  obtain ⟨A, hA⟩ : ∃ A, A = uI (uI (uI MM 0 4 0) 0 5 (-1)) 0 3 (MM.1 0 2) := ⟨_, rfl⟩
  obtain ⟨B, eB, fB, gB⟩ := copyM_c (M := A) (n := n) (by rw [hA, uI_eq, v2]) hn
  obtain ⟨C, hC⟩ : ∃ C, C = uI (uI (uI B 0 2 0) 0 7 0) 0 42 (nI w) := ⟨_, rfl⟩
  have cB : ∀ a i, ¬ (a = 0 ∧ (i = 2 ∨ i = 7 ∨ i = 42)) → C.1 a i = B.1 a i := fun a i z => by rw [hC, uI_ne (by omega), uI_ne (by omega), uI_ne (by omega)]
  have bA : ∀ a i, a ≠ 2 → B.1 a i = A.1 a i := fun a i z => fB.2 a i (fun y => z y.1)
  have aM : ∀ a i, ¬ (a = 0 ∧ (i = 3 ∨ i = 4 ∨ i = 5)) → A.1 a i = MM.1 a i := fun a i z => by rw [hA, uI_ne (by omega), uI_ne (by omega), uI_ne (by omega)]
  obtain ⟨D, eD, fD, gD, gD18, gD43⟩ := clearBank_c (M := C) (w := w) (by rw [hC, uI_eq]) hw1
  have dC : ∀ a i, ¬ ((((3 ≤ a ∧ a ≤ 11) ∨ a = 23 ∨ a = 24 ∨ a = 25) ∧ i = w) ∨ (a = 18 ∧ 9 * w ≤ i ∧ i < 9 * w + 9) ∨ (a = 0 ∧ i = 43)) → D.1 a i = C.1 a i := fun a i z => fD.2 a i z
  obtain ⟨tx, htx2⟩ : ∃ tx : Nat → Nat, ∀ i, tx i < 256 ∧ (MX.1 2 i) &&& 255 = nI (tx i) := ⟨fun i => (and255 (MX.1 2 i)).choose, fun i => (and255 (MX.1 2 i)).choose_spec⟩
  have x2 : ∀ i, XX.1 2 i = MX.1 2 i := fun i => by rw [hXX, uI_ne (by omega), uI_ne (by omega), uI_ne (by omega), f2.2 2 i (by unfold SXt; omega), f1.2 2 i (by unfold SXc; omega)]
  have hTX : TX XX D n tx := by
    refine ⟨hn, ?_, ?_, fun i hi => ⟨(htx2 i).1, by rw [x2 i]; exact (htx2 i).2, ?_⟩⟩
    · rw [hXX, uI_ne (by omega), uI_ne (by omega), uI_ne (by omega), f2.2 1 1 (by unfold SXt; omega), f1.2 1 1 (by unfold SXc; omega), x1]
    · rw [dC 0 3 (by omega), cB 0 3 (by omega), bA 0 3 (by omega), hA, uI_eq, v2]
    · obtain ⟨z, z1, z2⟩ := htx i hi
      have := gB i hi
      rw [Nat.zero_add, aM 1 i (by omega), z2] at this
      rw [dC 2 i (by omega), cB 2 i (by omega), this, ← (htx2 i).2, z1]
      congr 1
      simp
  obtain ⟨MX3, MM13, p, q, s1, s2, fx, fm, at3, _⟩ := step_c hTX (q := 0) (by omega) (by rw [hXX, uI_eq]; rfl) (by rw [dC 0 7 (by omega), hC, uI_ne (by omega), uI_eq]; rfl)
  have x3 : ∀ a i, ¬ (a = 16) → MX3.1 a i = M2.1 a i := fun a i z => by rw [fx.1 a i (Or.inl z), hXX, uI_ne (by omega), uI_ne (by omega), uI_ne (by omega)]
  have x31 : ∀ a i, a ≠ 16 → ¬ SXt a i → MX3.1 a i = M1.1 a i := fun a i z y => by rw [x3 a i z, f2.2 a i y]
  have m13 : ∀ a i, ¬ (a = 0 ∧ (6 ≤ i ∧ i ≤ 9)) → MM13.1 a i = D.1 a i := fun a i z => fm.1 a i (by omega)
  refine ⟨M1, M2, MX3, D, MM13, n, tx, p, q, w, hw1, hb1, hbw, e1, e2, ?_, fun R => ?_, s2, fun a i z => ?_, fun a i z => ?_, ⟨at3, ?_, ?_, ?_, ?_⟩, ?_⟩
  · unfold X6_begin
    rw [lt_e (uI M2 16 5 0), lt_e (uI (uI M2 16 5 0) 16 6 (-1)), lt_e (uI (uI (uI M2 16 5 0) 16 6 (-1)) 16 8 0), ← hXX, s1, bo_s]
  · rw [lt_e (uI MM 0 4 0), lt_e (uI (uI MM 0 4 0) 0 5 (-1)), show (uI (uI MM 0 4 0) 0 5 (-1)).1 0 2 = MM.1 0 2 from rfl, lt_e (uI (uI (uI MM 0 4 0) 0 5 (-1)) 0 3 (MM.1 0 2)), ← hA, eB, b1_s, lt_e (uI B 0 2 0), lt_e (uI (uI B 0 2 0) 0 7 0), show (uI (uI B 0 2 0) 0 7 0).1 0 41 = nI b by
      show B.1 0 41 = nI b
      rw [bA 0 41 (by omega), aM 0 41 (by omega), hb], hw, lt_e, ← hC, eD, bo_s]
  · rw [x3 a i (by omega), f2.2 a i (by unfold SXt; omega), f1.2 a i (by unfold SXc; omega)]
  · by_cases z2 : a = 0 ∧ i = 2
    · rw [z2.1, z2.2, uI_eq, m13 0 2 (by omega), dC 0 2 (by omega), hC]; rfl
    · rw [uI_ne z2, m13 a i (by omega), dC a i (by omega), cB a i (by omega), bA a i (by omega), aM a i (by omega)]
  · rw [fx.1 16 5 (by omega), hXX]; rfl
  · rw [fx.1 16 6 (by omega), hXX]; rfl
  · rw [m13 0 4 (by omega), dC 0 4 (by omega), cB 0 4 (by omega), bA 0 4 (by omega), hA]; rfl
  · rw [m13 0 5 (by omega), dC 0 5 (by omega), cB 0 5 (by omega), bA 0 5 (by omega), hA]; rfl
  · have g : ∀ a, ((3 ≤ a ∧ a ≤ 11) ∨ a = 23 ∨ a = 24 ∨ a = 25) → MM13.1 a w = if a = 8 then nI 6 else 0 := fun a z => by rw [m13 a w (by omega)]; exact gD a z
    have x6 : ∀ i, i < 5 → MX3.1 6 i = 0 ∧ MX3.1 7 i = 10 := fun i hi => by rw [x31 6 i (by omega) (by unfold SXt; omega), x31 7 i (by omega) (by unfold SXt; omega)]; exact a6 i hi
    have x8 : ∀ i, i < 15 → MX3.1 8 i = 0 ∧ MX3.1 9 i = 0 := fun i hi => by rw [x31 8 i (by omega) (by unfold SXt; omega), x31 9 i (by omega) (by unfold SXt; omega)]; exact a8 i hi
    have x10 : ∀ i, i < 9 → MX3.1 10 i = 0 ∧ MX3.1 11 i = 0 := fun i hi => by rw [x31 10 i (by omega) (by unfold SXt; omega), x31 11 i (by omega) (by unfold SXt; omega)]; exact a10 i hi
    have x132 : MX3.1 13 2 = 0 := by rw [x31 13 2 (by omega) (by unfold SXt; omega)]; exact a13
    have x133 : MX3.1 13 3 = 0 := by rw [x31 13 3 (by omega) (by unfold SXt; omega)]; exact a14
    have x4 : ∀ i, MX3.1 4 i = M1.1 4 i := fun i => x31 4 i (by omega) (by unfold SXt; omega)
    have v43 : MM13.1 0 43 = nI (560 * w) := by rw [m13 0 43 (by omega), gD43]
    refine ⟨⟨by rw [m13 0 42 (by omega), dC 0 42 (by omega), hC, uI_eq], hw1⟩, ?_, ?_, ?_, fun m hm => by omega, fun j h1 _ => ?_, ?_, ⟨0, by omega, ?_, by rw [g 23 (by omega)]; rfl⟩, ⟨0, by omega, ?_, by rw [g 24 (by omega)]; rfl⟩, ⟨0, by omega, ?_, by rw [g 25 (by omega)]; rfl⟩, fun i h1 _ => x6 i h1, ⟨0, by omega, by rw [g 10 (by omega)]; rfl⟩, fun _ => ⟨v43, x132, x133, by rw [g 7 (by omega)]; rfl⟩⟩
    · refine ⟨by omega, ⟨by rw [x4]; exact a0, by rw [g 4 (by omega)]; rfl, by rw [x4]; exact a1, by rw [g 3 (by omega)]; rfl, by rw [x4]; exact a2, by rw [g 5 (by omega)]; rfl, by rw [x4, g 6 (by omega)]; exact a3, by rw [x4]; exact a4, by rw [g 8 (by omega)]; rfl⟩, ⟨0, by omega, by rw [x4]; exact a5, by rw [g 9 (by omega)]; rfl⟩, fun i hi => by omega, ⟨0, by omega, by rw [g 10 (by omega)]; rfl, fun i hi => by omega⟩, fun i hi => by omega, fun i k hi => by omega, fun j h1 _ => (x8 j h1).1, fun i k hi => by omega, fun r hr => ⟨0, by omega, (x10 r hr).1, ?_, fun y => absurd rfl y⟩, fun i hi => by omega, 0, 0, 560 * w, fun _ => 0, by omega, x133, by rw [g 7 (by omega)]; rfl, x132, by omega, ⟨by omega, rfl⟩, rfl, Or.inl ⟨by rw [g 23 (by omega)]; rfl, rfl⟩, fun i hi => by omega⟩
      rw [m13 18 _ (by omega)]
      exact gD18 r hr
    · exact ⟨by omega, by omega, by rw [show zlen zTM 26 = 6 from zlen_of aM_26]; omega, by omega, fun k hk => by omega⟩
    · exact ⟨by omega, by omega, by rw [show zlen zTM 27 = 10 from zlen_of aM_27]; omega, by omega, fun k hk => by omega⟩
    · rw [x3 20 j (by omega), x3 21 j (by omega)]
      exact ⟨(b20 j h1).1, (b20 j h1).2, x8 j h1⟩
    · refine ⟨0, by omega, by rw [g 11 (by omega)]; rfl, fun k hk => ?_⟩
      show MX3.1 22 k = _
      rw [x3 22 k (by omega), b22 k hk, Nat.zero_div]; rfl
    · rw [x3 3 8 (by omega)]; exact b8
    · rw [x3 3 9 (by omega)]; exact b9
    · rw [x3 3 10 (by omega)]; exact b10
