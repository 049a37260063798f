/-! ===== phase 2: the line of a man ===== -/
theorem RM.man {X X' V V' : Nat → Nat → Int32} {b mn kd bn hr : Nat} (h : RM X 4 V b mn kd bn hr) (hx : ∀ a i, 4 ≤ a → a ≤ 14 → ¬ ((a = 4 ∧ i = 0) ∨ ((a = 5 ∨ a = 6) ∧ i = mn)) → X' a i = X a i) (hv : ∀ a i, 3 ≤ a → a ≤ 29 → ¬ ((a = 4 ∧ i = b) ∨ (a = 10 ∧ i = b) ∨ ((a = 12 ∨ a = 13) ∧ i = 5 * b + mn) ∨ ((a = 14 ∨ a = 15) ∧ 3 * (5 * b + mn) ≤ i ∧ i < 3 * (5 * b + mn) + 3) ∨ a = 11 ∨ a = 16 ∨ a = 17 ∨ a = 24 ∨ a = 25) → V' a i = V a i) (hmn : mn < 5) (e1 : X' 4 0 = nI (mn + 1)) (e2 : V' 4 b = nI (mn + 1)) (e3 : X' 5 mn = V' 12 (5 * b + mn)) (hq : MK (fun k => X' 6 k) (V' 10 b) (mn + 1) (2 ^ (mn + 1))) (e4 : X' 7 mn = V' 13 (5 * b + mn)) (e5 : ∀ k, k < 3 → V' 14 (3 * (5 * b + mn) + k) = 0 ∧ V' 15 (3 * (5 * b + mn) + k) = 0) (e6 : ∀ j, j < 15 → 3 * mn ≤ j → X 9 j = 0) : RM X' 4 V' b (mn + 1) kd bn hr := by
  obtain ⟨⟨h1, h2, h3, h4, h5⟩, ⟨m1, m2, m3, m4, m5, m6, m7, m8, m9⟩, d, k1, ⟨mask, q1, q2, q3⟩, hd, r1, r2, r3, r4, r5, u, len, F, D, f1, f2, f3, f4, f5, f6, f8, f9, f10⟩ := h
  refine ⟨⟨by omega, h2, h3, h4, h5⟩, ⟨e1, e2, (hx 4 1 (by omega) (by omega) (by omega)).trans m3, (hv 3 b (by omega) (by omega) (by omega)).trans m4, (hx 4 2 (by omega) (by omega) (by omega)).trans m5, (hv 5 b (by omega) (by omega) (by omega)).trans m6, ((hx 4 3 (by omega) (by omega) (by omega)).trans m7).trans (hv 6 b (by omega) (by omega) (by omega)).symm, (hx 4 4 (by omega) (by omega) (by omega)).trans m8, (hv 8 b (by omega) (by omega) (by omega)).trans m9⟩, by rw [hx 4 5 (by omega) (by omega) (by omega), hv 9 b (by omega) (by omega) (by omega)]; exact d, fun i hi => by
    by_cases z : i = mn
    · rw [z]; exact e3
    · rw [hx (4 + 1) i (by omega) (by omega) (by omega), hv 12 _ (by omega) (by omega) (by omega)]; exact k1 i (by omega), by
    obtain ⟨mk, y1, y2, y3⟩ := hq
    have : 2 ^ (mn + 1) ≤ 2 ^ 5 := Nat.pow_le_pow_right (by omega) (by omega)
    exact ⟨mk, by omega, y2, y3⟩, fun i hi => by
    by_cases z : i = mn
    · rw [z]; exact e4
    · rw [hx (4 + 3) i (by omega) (by omega) (by omega), hv 13 _ (by omega) (by omega) (by omega)]; exact hd i (by omega), fun i k hi hk => by
    by_cases z : i = mn
    · rw [z, hx (4 + 4) _ (by omega) (by omega) (by omega)]; exact ⟨0, by omega, (r2 _ (by omega) (by omega)), (e5 k hk).1, fun _ => rfl⟩
    · rw [hx (4 + 4) _ (by omega) (by omega) (by omega), hv 14 _ (by omega) (by omega) (by omega)]; exact r1 i k (by omega) hk, fun j h1 h2 => (hx (4 + 4) j (by omega) (by omega) (by omega)).trans (r2 j h1 (by omega)), fun i k hi hk => by
    by_cases z : i = mn
    · rw [z, hx (4 + 5) _ (by omega) (by omega) (by omega)]; exact ⟨0, by omega, (e6 _ (by omega) (by omega)), (e5 k hk).2, fun _ => rfl⟩
    · rw [hx (4 + 5) _ (by omega) (by omega) (by omega), hv 15 _ (by omega) (by omega) (by omega)]; exact r3 i k (by omega) hk, fun r hr => by rw [hx (4 + 6) r (by omega) (by omega) (by omega), hx (4 + 7) r (by omega) (by omega) (by omega), hv 18 _ (by omega) (by omega) (by omega), hv 19 _ (by omega) (by omega) (by omega)]; exact r4 r hr, fun i hi => by rw [hx (4 + 8) i (by omega) (by omega) (by omega), hv 20 _ (by omega) (by omega) (by omega)]; exact r5 i hi, u, len, F, D, f1, (hx (4 + 9) 3 (by omega) (by omega) (by omega)).trans f2, (hv 7 b (by omega) (by omega) (by omega)).trans f3, (hx (4 + 9) 2 (by omega) (by omega) (by omega)).trans f4, f5, f6, f8, by rw [hv 23 b (by omega) (by omega) (by omega), hv 21 b (by omega) (by omega) (by omega), hv 22 b (by omega) (by omega) (by omega)]; exact f9, fun i hi => by rw [hx (4 + 9 + 1) i (by omega) (by omega) (by omega), hv 28 _ (by omega) (by omega) (by omega), hv 29 _ (by omega) (by omega) (by omega)]; exact f10 i hi⟩
noncomputable def mManTail (y2 : Int32) (M18 : Mem) : Option Mem :=
  gd_ (inb y2 (10) = true) (
  lt_ (uI M18 13 y2.toNatClampNeg 10) fun M20 =>
  gd_ (inb y2 (10) = true) (
  lt_ (uI M20 16 y2.toNatClampNeg 0) fun M22 =>
  gd_ (inb y2 (10) = true) (
  lt_ (uI M22 17 y2.toNatClampNeg 0) fun M24 =>
  b1_ (α := Mem) (X12_readMan_L1 y2 zFU 0 M24) fun M30 =>
  gd_ (inb (M30.1 0 42) (2) = true) (
  lt_ (uI M30 4 ((M30.1 0 42).toNatClampNeg) ((M30.1 4 ((M30.1 0 42).toNatClampNeg)) + 1)) fun M32 =>
  some M32))))
noncomputable def mMan3 (y2 v8 : Int32) (M9 : Mem) : Option Mem :=
  gd_ (inb y2 (10) = true) (
  lt_ (uI M9 12 y2.toNatClampNeg v8) fun M11 =>
  b1_ (α := Mem) (
    if (X12_isGood M11) = true then
      if (X12_isWord 465726042981 M11) = true then
        gd_ (inb (M11.1 0 42) (2) = true) (
        gd_ (inb (M11.1 0 42) (2) = true) (
        lt_ (uI M11 10 ((M11.1 0 42).toNatClampNeg) ((M11.1 10 ((M11.1 0 42).toNatClampNeg)) ||| (1 <<< ((M11.1 4 ((M11.1 0 42).toNatClampNeg)) &&& 31)))) fun M16 =>
        bo_ (X12_goOn M16) fun M17 =>
        some M17))
      else
      some M11
    else
    some M11) fun M18 =>
  mManTail y2 M18)
noncomputable def mMan2 (y2 : Int32) (M7 : Mem) : Option Mem :=
  bp_ (X12_after 1668444016 0 99 M7) fun v8 M9 =>
  mMan3 y2 v8 M9
noncomputable def mMan (M : Mem) : Option Mem :=
  gd_ (inb (M.1 0 42) (2) = true) (
  lt_ (α := Int32) ((5 * (M.1 0 42)) + (M.1 4 ((M.1 0 42).toNatClampNeg))) fun y2 =>
  bo_ (X12_manHere M) fun v3 =>
  bp_ (X12_fresh v3 M) fun l4 M5 =>
  gd_ (inb y2 (10) = true) (
  lt_ (uL M5 27 y2.toNatClampNeg l4) fun M7 =>
  mMan2 y2 M7))
theorem mMan_e (M : Mem) : X12_readMan M = mMan M := rfl
noncomputable def xMan (y1 : Int32) (M5 : Mem) : Option (Bool × Mem) :=
    bp_ (X4_newName 19 y1 M5) fun b7 M8 =>
    if b7 = true then
      bp_ (X6_takesWord 23 M8) fun b10 M11 =>
      if b10 = true then
        bp_ (X6_takesNumber 0 99 M11) fun b13 M14 =>
        if b13 = true then
          lt_ (X11_put 5 y1 (M14.1 16 4) M14) fun M16 =>
          bo_ (X6_says 24 M16) fun b17 =>
          b1_ (α := Mem) (
            if b17 = true then
              lt_ (X11_put 6 y1 1 M16) fun M19 =>
              bo_ (X6_step M19) fun M20 =>
              some M20
            else
            some M16) fun M21 =>
          lt_ (uI M21 4 0 ((M21.1 4 0) + 1)) fun M22 =>
          bp_ (X6_takesSign 59 M22) fun b23 M24 =>
          some (b23, M24)
        else
        some (false, M14)
      else
      some (false, M11)
    else
    some (false, M8)
theorem manTail_c {M : Mem} {w y c : Nat} (hw : M.1 0 42 = nI w) (h1 : w ≤ 1) (hy : y < 10) (h4 : M.1 4 w = nI c) : ∃ M', mManTail (nI y) M = some M' ∧ M'.2 = M.2 ∧ (∀ a i, ¬ ((a = 4 ∧ i = w) ∨ ((a = 13 ∨ a = 16 ∨ a = 17) ∧ i = y) ∨ ((a = 14 ∨ a = 15) ∧ 3 * y ≤ i ∧ i < 3 * y + 3)) → M'.1 a i = M.1 a i) ∧ M'.1 13 y = 10 ∧ M'.1 16 y = 0 ∧ M'.1 17 y = 0 ∧ (∀ k, k < 3 → M'.1 14 (3 * y + k) = 0 ∧ M'.1 15 (3 * y + k) = 0) ∧ M'.1 4 w = nI (c + 1) := by
  obtain ⟨M24, hM⟩ : ∃ M24, M24 = uI (uI (uI M 13 y 10) 16 y 0) 17 y 0 := ⟨_, rfl⟩
  have key := up_zFU (σ := Int32 × Mem) (fun N s => X12_readMan_L1 (nI y) N s.1 s.2) (fun k s => ∃ T, s = (nI k, T) ∧ Fr (fun a b => (a = 14 ∨ a = 15) ∧ 3 * y ≤ b ∧ b < 3 * y + 3) M24 T ∧ ∀ j, j < k → T.1 14 (3 * y + j) = 0 ∧ T.1 15 (3 * y + j) = 0) (fun t => Fr (fun a b => (a = 14 ∨ a = 15) ∧ 3 * y ≤ b ∧ b < 3 * y + 3) M24 t ∧ ∀ j, j < 3 → t.1 14 (3 * y + j) = 0 ∧ t.1 15 (3 * y + j) = 0) 3 (by omega) (by
    rintro N s ⟨T, rfl, f, g⟩
    refine ⟨T, ?_, f, g⟩
    show X12_readMan_L1 (nI y) (N + 1) (nI 3) T = some T
    rw [X12_readMan_L1, if_pos (show (3 : Int32) ≤ nI 3 by decide)]) (by
    rintro N k s hk ⟨T, rfl, f, g⟩
    left
    refine ⟨(nI (k + 1), uI (uI T 14 (3 * y + k) 0) 15 (3 * y + k) 0), ⟨_, rfl, (f.up 0 (by omega)).up 0 (by omega), fun j hj => ?_⟩, ?_⟩
    · by_cases z : j = k
      · rw [z, uI_ne (by omega), uI_eq, uI_eq]; exact ⟨rfl, rfl⟩
      · rw [uI_ne (by omega), uI_ne (by omega), uI_ne (by omega), uI_ne (by omega)]; exact g j (by omega)
    · show X12_readMan_L1 (nI y) (N + 1) (nI k) T = X12_readMan_L1 (nI y) N (nI (k + 1)) (uI (uI T 14 (3 * y + k) 0) 15 (3 * y + k) 0)
      rw [X12_readMan_L1, if_neg (show ¬ (3 : Int32) ≤ nI k from nI_ge (b := 3) hk (by omega)), show (3 : Int32) * nI y = nI (3 * y) from nI_mul 3 y, nI_add, gd_in (by omega) (by omega), nI_clamp (by omega), lt_e (uI T 14 (3 * y + k) 0), gd_in (by omega) (by omega), lt_e, show nI k + 1 = nI (k + 1) from nI_add k 1]) (nI 0, M24) 0 (by omega) ⟨M24, rfl, Fr.rf, fun j hj => by omega⟩
  obtain ⟨T, e, f, g⟩ := key
  have e : X12_readMan_L1 (nI y) zFU 0 M24 = some T := e
  have t42 : T.1 0 42 = nI w := by rw [f.2 0 42 (by omega), hM]; exact hw
  have t4 : T.1 4 w = nI c := by rw [f.2 4 w (by omega), hM]; exact h4
  refine ⟨uI T 4 w (nI (c + 1)), ?_, by rw [uI_g2, f.1, hM]; rfl, fun a i z => ?_, ?_, ?_, ?_, fun k hk => ?_, uI_eq _ _ _ _⟩
  · unfold mManTail
    rw [gd_in (by omega) (by omega), nI_clamp (by omega), lt_e (uI M 13 y 10), gd_in (by omega) (by omega), lt_e (uI (uI M 13 y 10) 16 y 0), gd_in (by omega) (by omega), lt_e (uI (uI (uI M 13 y 10) 16 y 0) 17 y 0), ← hM, e, b1_s, t42, gd_in (by omega) (by omega), nI_clamp (by omega), t4, show nI c + 1 = nI (c + 1) from nI_add c 1, lt_e]
  · rw [uI_ne (by omega), f.2 a i (by omega), hM, uI_ne (by omega), uI_ne (by omega), uI_ne (by omega)]
  · rw [uI_ne (by omega), f.2 13 y (by omega), hM, uI_ne (by omega), uI_ne (by omega), uI_eq]
  · rw [uI_ne (by omega), f.2 16 y (by omega), hM, uI_ne (by omega), uI_eq]
  · rw [uI_ne (by omega), f.2 17 y (by omega), hM, uI_eq]
  · rw [uI_ne (by omega), uI_ne (by omega)]; exact g k hk
theorem man3_bad {MX M : Mem} {w mn : Nat} {v : Int32} (h : BD MX M) (hw : M.1 0 42 = nI w) (h1 : w ≤ 1) (h4 : M.1 4 w = nI mn) (hm : mn < 5) : ∃ M', mMan3 (nI (5 * w + mn)) v M = some M' ∧ BD MX M' ∧ MF w M M' := by
  have bd : BD MX (uI M 12 (5 * w + mn) v) := h.fr rfl rfl rfl rfl rfl rfl
  obtain ⟨M', e, f2, f, _⟩ := manTail_c (M := uI M 12 (5 * w + mn) v) (w := w) (y := 5 * w + mn) (c := mn) hw h1 (by omega) h4
  refine ⟨M', ?_, bd.fr rfl rfl (f 0 4 (by omega)) (f 0 5 (by omega)) (f 0 6 (by omega)) (f 0 3 (by omega)), fun a i z => ?_⟩
  · unfold mMan3
    rw [gd_in (by omega) (by omega), nI_clamp (by omega), lt_e (uI M 12 (5 * w + mn) v), bd.bad, if_neg Bool.false_ne_true, b1_s, e]
  · rw [f a i (by omega), uI_ne (by omega)]
theorem WC_23 : WC 23 = 1668444016 := by decide +kernel
theorem WC_24 : WC 24 = 465726042981 := by decide +kernel
theorem lnMan_c {MX MM : Mem} {n : Nat} {tx : Nat → Nat} {p q w mn kd bn hr : Nat} (h : GD MX MM n tx p q) (hD : DR MX MM w mn kd bn hr) (hm : mn < 5) : ∃ ok MX' MM', xMan (nI mn) MX = some (ok, MX') ∧ bo_ (X12_readMan MM) mEnd = some MM' ∧ LO n tx q w MX MM ok MX' MM' := by
  have hw := hD.1
  have hw1 := hw.2
  have c1 : MX.1 4 0 = nI mn := hD.2.1.2.1.1
  have c2 : MM.1 4 w = nI mn := hD.2.1.2.1.2.1
  obtain ⟨t, ok, l, MX1, MM1, t1, t2, t3, t4⟩ := new_c h hD.2.2.2.1 (by rw [show zlen zTX 19 = 5 from zlen_of aX_19]; omega) (by decide)
  have fm1 : FMr MM MM1 := by
    rcases t4 with ⟨_, _, _, g, _⟩ | ⟨_, o⟩
    · exact g
    · exact o.2.1
  have hman : X12_manHere MM = some t := by
    unfold X12_manHere
    rw [hw.1, gd_in (by omega) (by omega), nI_clamp (by omega), c2, show (5 : Int32) * nI w = nI (5 * w) from nI_mul 5 w, t1, bo_s]
  obtain ⟨M7, hM7⟩ : ∃ M7, M7 = uL MM1 27 (5 * w + mn) l := ⟨_, rfl⟩
  have h7 : ∀ a i, (a ≠ 0 ∨ i < 4 ∨ 9 < i) → M7.1 a i = MM.1 a i := fun a i z => by rw [hM7]; exact fm1.1 a i z
  have h7f : FMr MM M7 ∨ True := Or.inr trivial
  have e2 : X12_readMan MM = mMan2 (nI (5 * w + mn)) M7 := by
    rw [mMan_e]
    unfold mMan
    rw [hman, hw.1, gd_in (by omega) (by omega), nI_clamp (by omega), c2, show (5 : Int32) * nI w = nI (5 * w) from nI_mul 5 w, nI_add, lt_e (nI (5 * w + mn)), bo_s, t3, bp_s, gd_in (by omega) (by omega), nI_clamp (by omega), lt_e, ← hM7]
  rw [e2]
  rcases t4 with ⟨rfl, k1, k2, g, k3, k4, p', q', gd0, r⟩ | ⟨rfl, o⟩
  · have gd : GD MX1 M7 n tx p' q' := by rw [hM7]; exact gd0
    have hMK0 : MK (fun k => MX.1 6 k) (MM.1 10 w) (mn + 1) (2 ^ (mn + 1)) := by
      obtain ⟨_, h2, _, _, _, _, _, _, _, _, h11, ⟨ma, a1, a2⟩, _⟩ := hD
      obtain ⟨_, _, _, _, ⟨mb, b1, b2, b3⟩, _⟩ := h2
      have hp : 2 ^ mn ≤ 2 ^ 5 := Nat.pow_le_pow_right (by omega) (by omega)
      have hab : ma = mb := (nI_eq (by omega) (by omega)).mp (a2.symm.trans b2)
      refine ⟨ma, by have : 2 ^ (mn + 1) = 2 ^ mn * 2 := Nat.pow_succ 2 mn; omega, a2, fun k hk => ?_⟩
      by_cases z : k = mn
      · rw [z, Nat.div_eq_of_lt a1]; exact (h11 mn (by omega) (by omega)).1
      · rw [hab]; exact b3 k (by omega)
    have v26 : M7.2 27 (5 * w + mn) = l := by rw [hM7, uL_g, if_pos ⟨rfl, rfl⟩]
    have m7l : ∀ a i, a ≠ 0 → ¬ (a = 27 ∧ i = 5 * w + mn) → M7.2 a i = MM.2 a i := fun a i y y2 => by rw [hM7, uL_g, if_neg y2]; exact g.2 a i y
    have fin : ∀ (MXg MMg : Mem) (pg qg v : Nat), GD MXg MMg n tx pg qg → q ≤ pg → (∀ a i, a ≠ 16 → ¬ ((a = 5 ∨ a = 6) ∧ i = mn) → MXg.1 a i = MX.1 a i) → (∀ a i, (a ≠ 0 ∨ i < 4 ∨ 9 < i) → ¬ ((a = 12 ∧ i = 5 * w + mn) ∨ (a = 10 ∧ i = w)) → MMg.1 a i = MM.1 a i) → MXg.1 5 mn = nI v → MMg.1 12 (5 * w + mn) = nI v → MK (fun k => MXg.1 6 k) (MMg.1 10 w) (mn + 1) (2 ^ (mn + 1)) → (∀ a i, a ≠ 16 → MXg.2 a i = MX1.2 a i) → (∀ a i, a ≠ 0 → MMg.2 a i = M7.2 a i) → ∃ ok MX' MM', (lt_ (uI MXg 4 0 ((MXg.1 4 0) + 1)) fun M22 => bp_ (X6_takesSign 59 M22) fun b23 M24 => some (b23, M24)) = some (ok, MX') ∧ bo_ (mManTail (nI (5 * w + mn)) MMg) mEnd = some MM' ∧ LO n tx q w MX MM ok MX' MM' := by
      intro MXg MMg pg qg v gg hq xg mg x5 m12 hmk xl ml
      obtain ⟨VV, e, VV2, fV, V13, V16, V17, V45, V4⟩ := manTail_c (M := MMg) (w := w) (y := 5 * w + mn) (c := mn) ((mg 0 42 (by omega) (by omega)).trans hw.1) hw1 (by omega) ((mg 4 w (by omega) (by omega)).trans c2)
      obtain ⟨XX, hXX⟩ : ∃ XX, XX = uI MXg 4 0 (nI (mn + 1)) := ⟨_, rfl⟩
      have gd3 : GD XX VV n tx pg qg := by
        have g0 : GD XX MMg n tx pg qg := by rw [hXX]; exact gg
        obtain ⟨⟨g1, g2, g3, g4, g5, g6⟩, g7, g8, g9, g10⟩ := g0
        have v0 : ∀ i, VV.1 0 i = MMg.1 0 i := fun i => fV 0 i (by omega)
        refine ⟨⟨g1, (v0 6).trans g2, g3, (v0 7).trans g4, ?_, ?_⟩, g7, g8, (v0 4).trans g9, (v0 5).trans g10⟩
        · obtain ⟨t1, t2, t3, t4⟩ := g5
          exact ⟨t1, t2, (v0 3).trans t3, fun i hi => by rw [fV 2 i (by omega)]; exact t4 i hi⟩
        · unfold TOK at g6 ⊢
          rw [v0 8, v0 9, VV2]
          exact g6
      have xe : ∀ a i, a ≠ 16 → ¬ ((a = 4 ∧ i = 0) ∨ ((a = 5 ∨ a = 6) ∧ i = mn)) → XX.1 a i = MX.1 a i := fun a i z1 z2 => by rw [hXX, uI_ne (by omega), xg a i z1 (by omega)]
      have me : ∀ a i, (a ≠ 0 ∨ i < 4 ∨ 9 < i) → ¬ ((a = 4 ∧ i = w) ∨ (a = 10 ∧ i = w) ∨ ((a = 12 ∨ a = 13 ∨ a = 16 ∨ a = 17) ∧ i = 5 * w + mn) ∨ ((a = 14 ∨ a = 15) ∧ 3 * (5 * w + mn) ≤ i ∧ i < 3 * (5 * w + mn) + 3)) → VV.1 a i = MM.1 a i := fun a i z1 z2 => by rw [fV a i (by omega), mg a i z1 (by omega)]
      have hl2' : ∀ a i, a ≠ 16 → ¬ (a = 19 ∧ i = mn) → XX.2 a i = MX.2 a i := fun a i y y2 => by rw [hXX, uI_g2, xl a i y]; exact k4 a i y y2
      have ml2' : ∀ a i, a ≠ 0 → ¬ (a = 27 ∧ i = 5 * w + mn) → VV.2 a i = MM.2 a i := fun a i y y2 => by rw [VV2, ml a i y, m7l a i y y2]
      have hmk2 : MK (fun k => XX.1 6 k) (VV.1 10 w) (mn + 1) (2 ^ (mn + 1)) := by
        rw [fV 10 w (by omega)]
        simp only [hXX, fun k => uI_ne (M := MXg) (k := 4) (i := 0) (x := nI (mn + 1)) (a := 6) (b := k) (by omega)]
        exact hmk
      have hRM := hD.2.1.man (X' := XX.1) (V' := VV.1) (fun a i y1 y2 y3 => xe a i (by omega) (by omega)) (fun a i y1 y2 y3 => me a i (by omega) (by omega)) hm (by rw [hXX, uI_eq]) V4 (by rw [hXX, uI_ne (by omega), x5, fV 12 _ (by omega), m12]) hmk2 (by rw [xe 7 mn (by omega) (by omega), V13]; exact (hD.2.2.2.2.2.2.2.2.2.2.1 mn (by omega) (by omega)).2) V45 (fun j j1 j2 => (hD.2.2.2.2.2.1 j j1 j2).2.2.2)
      have hNS : NS XX VV 19 27 (5 * w) (mn + 1) := by
        obtain ⟨n1, n2, n3, n4, n5⟩ := hD.2.2.2.1
        refine ⟨by omega, by rw [show zlen zTX 19 = 5 from zlen_of aX_19]; omega, by rw [show zlen zTM 27 = 10 from zlen_of aM_27]; omega, n4, fun k hk' => ?_⟩
        by_cases z : k = mn
        · rw [z, hXX, uI_g2, xl 19 mn (by decide), k2, VV2, ml 27 _ (by decide), v26]; exact k1
        · rw [hl2' 19 k (by decide) (by omega), ml2' 27 _ (by decide) (by omega)]; exact n5 k (by omega)
      have hD2 : DR XX VV w (mn + 1) kd bn hr := by
        obtain ⟨⟨h1, h1'⟩, h2, h3, h4, h5, h6, h7, h8, h9, h10, h11, h12, h13⟩ := hD
        refine ⟨⟨(me 0 42 (by omega) (by omega)).trans h1, h1'⟩, hRM, h3.fr (fun i => hl2' 18 i (by omega) (by omega)) (fun i => ml2' 26 i (by omega) (by omega)), hNS, fun m hm' => ?_, fun j h1 h2 => ?_, ?_, ?_, ?_, ?_, fun i h1 h2 => ?_, ?_, ?_⟩
        · by_cases z9 : m = mn
          · rw [z9, V16, V17]
            refine ⟨⟨0, by omega, rfl, fun j hj => ?_⟩, ⟨0, by omega, rfl, fun j hj => ?_⟩⟩
            · show XX.1 20 (3 * mn + j) = _
              rw [xe 20 _ (by omega) (by omega), (h6 _ (by omega) (by omega)).1, Nat.zero_div]; rfl
            · show XX.1 21 (3 * mn + j) = _
              rw [xe 21 _ (by omega) (by omega), (h6 _ (by omega) (by omega)).2.1, Nat.zero_div]; rfl
          · rw [me 16 _ (by omega) (by omega), me 17 _ (by omega) (by omega)]
            simp only [fun i => xe 20 i (by omega) (by omega), fun i => xe 21 i (by omega) (by omega)]
            exact h5 m (by omega)
        · rw [xe 20 j (by omega) (by omega), xe 21 j (by omega) (by omega), xe 8 j (by omega) (by omega), xe 9 j (by omega) (by omega)]; exact h6 j h1 (by omega)
        · rw [me 11 _ (by omega) (by omega)]
          simp only [fun i => xe 22 i (by omega) (by omega)]
          exact h7
        · rw [xe 3 8 (by omega) (by omega), me 23 _ (by omega) (by omega)]; exact h8
        · rw [xe 3 9 (by omega) (by omega), me 24 _ (by omega) (by omega)]; exact h9
        · rw [xe 3 10 (by omega) (by omega), me 25 _ (by omega) (by omega)]; exact h10
        · rw [xe 6 i (by omega) (by omega), xe 7 i (by omega) (by omega)]; exact h11 i h1 (by omega)
        · obtain ⟨mk, y1, y2, y3⟩ := hmk2
          exact ⟨mk, y1, y2⟩
        · rw [xe 3 8 (by omega) (by omega), me 0 43 (by omega) (by omega), xe 13 2 (by omega) (by omega), xe 13 3 (by omega) (by omega), me 7 _ (by omega) (by omega)]; exact h13
      obtain ⟨ok, MX', MM', s1, s2, s3, s4, s5⟩ := end_c gd3 hD2
      have fX : XF MX XX := fun a i y => xe a i (by omega) (by omega)
      have fM : MF w MM VV := fun a i y => me a i (by omega) (by omega)
      refine ⟨ok, MX', MM', ?_, by rw [e, bo_s, s2], fX.tr s3, fM.tr s4, ?_⟩
      · rw [xg 4 0 (by decide) (by omega), c1, show nI mn + 1 = nI (mn + 1) from nI_add mn 1, lt_e, ← hXX, s1, bp_s]
      · rcases s5 with ⟨y, p9, q9, mn', kd', bn', hr', y1, y2, y3⟩ | y
        · exact Or.inl ⟨y, p9, q9, mn', kd', bn', hr', y1, by have := gg.1.2.2.2.2.2.le; omega, y3⟩
        · exact Or.inr y
    obtain ⟨ok2, MX2, MM2, w1, w2, ⟨fc, gc, oc⟩⟩ := takesWord_c gd (w := 23) (by omega)
    rw [WC_23] at w2
    have m2e : ∀ a i, (a ≠ 0 ∨ i < 4 ∨ 9 < i) → MM2.1 a i = MM.1 a i := fun a i z => by rw [gc.1 a i z, h7 a i z]
    have x2e : ∀ a i, a ≠ 16 → MX2.1 a i = MX.1 a i := fun a i z => by rw [fc.1 a i z, k3 a i z]
    rcases oc with ⟨rfl, p2, q2, gd2, r2⟩ | ⟨rfl, bd⟩
    · obtain ⟨ok3, v, MX3, MM3, i1, i2, ⟨fe, ge, oe⟩, hv⟩ := number_c gd2 (lo := 0) (hi := 99) (by omega) (by omega)
      have m3e : ∀ a i, (a ≠ 0 ∨ i < 4 ∨ 9 < i) → MM3.1 a i = MM.1 a i := fun a i z => by rw [ge.1 a i z, m2e a i z]
      have x3e : ∀ a i, a ≠ 16 → MX3.1 a i = MX.1 a i := fun a i z => by rw [fe.1 a i z, x2e a i z]
      have e3 : mMan2 (nI (5 * w + mn)) M7 = mMan3 (nI (5 * w + mn)) v MM3 := by
        unfold mMan2 X12_after
        rw [w2, bo_s, show X12_numeral 0 99 MM2 = some (v, MM3) from i2, bp_s, bp_s]
      rw [e3]
      rcases oe with ⟨rfl, p3, q3, gd3, r3⟩ | ⟨rfl, bd⟩
      · obtain ⟨c, _, _, rfl, c4⟩ := hv rfl
        obtain ⟨XA, hXA⟩ : ∃ XA, XA = uI MX3 5 mn (nI c) := ⟨_, rfl⟩
        obtain ⟨VA, hVA⟩ : ∃ VA, VA = uI MM3 12 (5 * w + mn) (nI c) := ⟨_, rfl⟩
        have gd4 : GD XA VA n tx p3 q3 := by rw [hXA, hVA]; exact gd3
        have hx : ∀ R : Mem → Option (Bool × Mem), xMan (nI mn) MX = (bo_ (X6_says 24 XA) fun b17 => b1_ (α := Mem) (if b17 = true then lt_ (X11_put 6 (nI mn) 1 XA) fun M19 => bo_ (X6_step M19) fun M20 => some M20 else some XA) fun M21 => lt_ (uI M21 4 0 ((M21.1 4 0) + 1)) fun M22 => bp_ (X6_takesSign 59 M22) fun b23 M24 => some (b23, M24)) := fun R => by
          unfold xMan
          rw [t2, bp_s, if_pos rfl, w1, bp_s, if_pos rfl, show X6_takesNumber 0 99 MX2 = some (true, MX3) from i1, bp_s, if_pos rfl, c4, xp_in (by rw [show zlen zTX 5 = 5 from zlen_of aX_5]; omega), lt_e, ← hXA]
        have hm3 : mMan3 (nI (5 * w + mn)) (nI c) MM3 = b1_ (α := Mem) (if (X12_isWord 465726042981 VA) = true then bo_ (X12_goOn (uI VA 10 w (VA.1 10 w ||| (1 <<< (nI mn &&& 31))))) fun M17 => some M17 else some VA) fun M18 => mManTail (nI (5 * w + mn)) M18 := by
          have a42 : VA.1 0 42 = nI w := by rw [hVA]; exact (m3e 0 42 (by omega)).trans hw.1
          have a4 : VA.1 4 w = nI mn := by rw [hVA]; exact (m3e 4 w (by omega)).trans c2
          unfold mMan3
          rw [gd_in (by omega) (by omega), nI_clamp (by omega), lt_e, ← hVA, gd4.good, if_pos rfl, a42, gd_in (by omega) (by omega), gd_in (by omega) (by omega), nI_clamp (by omega), a4, lt_e]
        rw [hx (fun _ => none), hm3, word_c gd4.1 (w := 24) (by omega), WC_24, bo_s]
        have xA : ∀ a i, a ≠ 16 → ¬ (a = 5 ∧ i = mn) → XA.1 a i = MX.1 a i := fun a i z1 z2 => by rw [hXA, uI_ne (by omega), x3e a i z1]
        have vA : ∀ a i, (a ≠ 0 ∨ i < 4 ∨ 9 < i) → ¬ (a = 12 ∧ i = 5 * w + mn) → VA.1 a i = MM.1 a i := fun a i z1 z2 => by rw [hVA, uI_ne (by omega), m3e a i z1]
        have xlA : ∀ a i, a ≠ 16 → XA.2 a i = MX1.2 a i := fun a i z => by rw [hXA, uI_g2]; exact (fe.2 a i z).trans (fc.2 a i z)
        have vlA : ∀ a i, a ≠ 0 → VA.2 a i = M7.2 a i := fun a i z => by rw [hVA, uI_g2]; exact (ge.2 a i z).trans (gc.2 a i z)
        cases hb : X12_isWord 465726042981 VA with
        | false =>
          rw [if_neg Bool.false_ne_true, if_neg Bool.false_ne_true, b1_s, b1_s]
          refine fin XA VA p3 q3 c gd4 (by have := gd.1.2.2.2.2.2.le; have := gd2.1.2.2.2.2.2.le; omega) (fun a i z1 z2 => xA a i z1 (by omega)) (fun a i z1 z2 => vA a i z1 (by omega)) (by rw [hXA, uI_eq]) (by rw [hVA, uI_eq]) ?_ xlA vlA
          rw [vA 10 w (by omega) (by omega)]
          simp only [fun k => xA 6 k (by omega) (by omega)]
          exact hMK0
        | true =>
          obtain ⟨XB, hXB⟩ : ∃ XB, XB = uI XA 6 mn 1 := ⟨_, rfl⟩
          obtain ⟨VB, hVB⟩ : ∃ VB, VB = uI VA 10 w (VA.1 10 w ||| (1 <<< (nI mn &&& 31))) := ⟨_, rfl⟩
          have gd5 : GD XB VB n tx p3 q3 := by rw [hXB, hVB]; exact gd4
          obtain ⟨XC, VC, pc, qc, s1, s2, fs, gs, gd6, r6, _⟩ := stepG_c gd5
          rw [if_pos rfl, if_pos rfl, xp_in (by rw [show zlen zTX 6 = 5 from zlen_of aX_6]; omega), lt_e, ← hXB, ← hVB, s1, s2, bo_s, bo_s, b1_s, b1_s]
          refine fin XC VC pc qc c gd6 (by have := gd.1.2.2.2.2.2.le; have := gd2.1.2.2.2.2.2.le; have := gd3.1.2.2.2.2.2.le; omega) (fun a i z1 z2 => by rw [fs.r.1 a i z1, hXB, uI_ne (by omega), xA a i z1 (by omega)]) (fun a i z1 z2 => by rw [gs.r.1 a i z1, hVB, uI_ne (by omega), vA a i z1 (by omega)]) (by rw [fs.r.1 5 mn (by decide), hXB, uI_ne (by omega), hXA, uI_eq]) (by rw [gs.r.1 12 _ (by omega), hVB, uI_ne (by omega), hVA, uI_eq]) ?_ (fun a i z => by rw [fs.2 a i z, hXB, uI_g2, xlA a i z]) (fun a i z => by rw [gs.2 a i z, hVB, uI_g2, vlA a i z])
          rw [gs.r.1 10 w (by omega), hVB, uI_eq, vA 10 w (by omega) (by omega)]
          refine hMK0.put (i := mn) (by omega) (by omega) rfl (fun k hk => ?_)
          show XC.1 6 k = _
          rw [fs.r.1 6 k (by decide), hXB]
          by_cases z : k = mn
          · rw [if_pos z, z, uI_eq]
          · rw [if_neg z, uI_ne (by omega), xA 6 k (by decide) (by omega)]
      · obtain ⟨M', e4, bd4, f4⟩ := man3_bad (v := v) bd ((m3e 0 42 (by omega)).trans hw.1) hw1 ((m3e 4 w (by omega)).trans c2) hm
        refine ⟨false, MX3, M', ?_, by rw [e4, bo_s, end_bad bd4], fun a i z => x3e a i (by omega), MF.tr (M1 := MM3) (fun a i z => m3e a i (by omega)) f4, Or.inr ⟨rfl, bd4⟩⟩
        unfold xMan
        rw [t2, bp_s, if_pos rfl, w1, bp_s, if_pos rfl, show X6_takesNumber 0 99 MX2 = some (false, MX3) from i1, bp_s, if_neg Bool.false_ne_true]
    · have e3 : mMan2 (nI (5 * w + mn)) M7 = mMan3 (nI (5 * w + mn)) 0 MM2 := by
        unfold mMan2 X12_after
        rw [w2, bo_s, bad_numeral bd, bp_s, bp_s]
      obtain ⟨M', e4, bd4, f4⟩ := man3_bad (v := 0) bd ((m2e 0 42 (by omega)).trans hw.1) hw1 ((m2e 4 w (by omega)).trans c2) hm
      refine ⟨false, MX2, M', ?_, by rw [e3, e4, bo_s, end_bad bd4], fun a i z => x2e a i (by omega), MF.tr (M1 := MM2) (fun a i z => m2e a i (by omega)) f4, Or.inr ⟨rfl, bd4⟩⟩
      unfold xMan
      rw [t2, bp_s, if_pos rfl, w1, bp_s, if_neg Bool.false_ne_true]
  · have bd : BD MX1 M7 := by rw [hM7]; exact (out_bad o).fr rfl rfl rfl rfl rfl rfl
    have e3 : mMan2 (nI (5 * w + mn)) M7 = mMan3 (nI (5 * w + mn)) 0 M7 := by
      unfold mMan2 X12_after
      rw [bad_must bd, bo_s, bad_numeral bd, bp_s, bp_s]
    obtain ⟨M', e4, bd4, f4⟩ := man3_bad (v := 0) bd ((h7 0 42 (by omega)).trans hw.1) hw1 ((h7 4 w (by omega)).trans c2) hm
    refine ⟨false, MX1, M', ?_, by rw [e3, e4, bo_s, end_bad bd4], o.1.x, MF.tr (M1 := M7) (fun a i z => h7 a i (by omega)) f4, Or.inr ⟨rfl, bd4⟩⟩
    unfold xMan
    rw [t2, bp_s, if_neg Bool.false_ne_true]
