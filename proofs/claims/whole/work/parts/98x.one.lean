/-! ===== phase 2: the formula: its levels put together ===== -/
theorem sg_more {s : Nat} (h : s ∈ [43, 45, 42, 47, 37, 60, 62, 61]) : s ∈ [43, 45, 42, 47, 37, 60, 62, 61, 38, 124] := by
  simp only [List.mem_cons, List.not_mem_nil, or_false] at h ⊢
  omega
theorem term_c {d : Nat} {fE : Int32 → Mem → Option (Bool × Mem)} (hF : SPN 7 6 7 8 (X2_readUnit fE (nI d)) d) : SPN 6 5 6 8 (X2_readTerm fE (nI d)) d := by
  refine lvl_c (l := 6) (lE := 7) (c := 5) (s := 8) (F := X2_readUnit fE (nI d)) (G := X2_readTerm_L1 fE (nI d)) (op := fun M => some (X2_isTermSign (M.1 16 1))) (cd := fun M => 20000 + M.1 16 1) (by omega) (by omega) (by omega) (by omega) hF (fun N c3 M => ?_) (fun N c3 M h => ?_) (fun N k M h hk => ?_) (fun MX MM p q v hv => ?_) (fun MX MM p q hv => ?_)
  · rw [X2_readTerm_L1]
    split
    · rfl
    · rw [if_pos rfl]
  · rw [X2_readTerm_L1]
    split
    · rfl
    · rw [if_neg (show ¬ (1 : Int32) = 0 by decide), Option.some.inj h, if_neg Bool.false_ne_true]
  · rw [X2_readTerm_L1, if_neg (show ¬ (1600 : Int32) ≤ nI k from nI_ge (b := 1600) hk (by omega)), if_neg (show ¬ (1 : Int32) = 0 by decide), Option.some.inj h, if_pos rfl, show nI k + 1 = nI (k + 1) from nI_add k 1]
    rfl
  · show some (X2_isTermSign (MX.1 16 1)) = _
    rw [hv.2.2.2.2.2.2.1]
  · obtain ⟨s, h1, h2, h3⟩ := hv.2.2.2.2.2.2.2.2.2 (by omega)
    exact ⟨s, by show 20000 + MX.1 16 1 = _; rw [h1]; exact nI_add 20000 s, sg_more h3, Or.inr (Or.inr ⟨by omega, h1⟩)⟩
theorem sum_c {d : Nat} {fE : Int32 → Mem → Option (Bool × Mem)} (hF : SPN 6 5 6 8 (X2_readTerm fE (nI d)) d) : SPN 5 4 5 8 (X2_readSum fE (nI d)) d := by
  refine lvl_c (l := 5) (lE := 6) (c := 4) (s := 8) (F := X2_readTerm fE (nI d)) (G := X2_readSum_L1 fE (nI d)) (op := fun M => some (X2_isSumSign (M.1 16 1))) (cd := fun M => 20000 + M.1 16 1) (by omega) (by omega) (by omega) (by omega) hF (fun N c3 M => ?_) (fun N c3 M h => ?_) (fun N k M h hk => ?_) (fun MX MM p q v hv => ?_) (fun MX MM p q hv => ?_)
  · rw [X2_readSum_L1]
    split
    · rfl
    · rw [if_pos rfl]
  · rw [X2_readSum_L1]
    split
    · rfl
    · rw [if_neg (show ¬ (1 : Int32) = 0 by decide), Option.some.inj h, if_neg Bool.false_ne_true]
  · rw [X2_readSum_L1, if_neg (show ¬ (1600 : Int32) ≤ nI k from nI_ge (b := 1600) hk (by omega)), if_neg (show ¬ (1 : Int32) = 0 by decide), Option.some.inj h, if_pos rfl, show nI k + 1 = nI (k + 1) from nI_add k 1]
    rfl
  · show some (X2_isSumSign (MX.1 16 1)) = _
    rw [hv.2.2.2.2.2.1]
  · obtain ⟨s, h1, h2, h3⟩ := hv.2.2.2.2.2.2.2.2.2 (by omega)
    exact ⟨s, by show 20000 + MX.1 16 1 = _; rw [h1]; exact nI_add 20000 s, sg_more h3, Or.inr (Or.inr ⟨by omega, h1⟩)⟩
theorem fBoth_c {d : Nat} (hd : d ≤ 7) {fO fE : Int32 → Mem → Option (Bool × Mem)} (hF : SPN 4 3 3 (d + 1) (X2_readOne fO fE (nI d)) d) : SPN 2 2 2 (d + 1) (X2_readBoth fO fE (nI d)) d := by
  refine lvl_c (l := 2) (lE := 4) (c := 2) (s := d + 1) (F := X2_readOne fO fE (nI d)) (G := X2_readBoth_L1 fO fE (nI d)) (op := X6_says 39) (cd := fun M => 20038) (by omega) (by omega) (by omega) (by omega) hF (fun N c3 M => ?_) (fun N c3 M h => ?_) (fun N k M h hk => ?_) (fun MX MM p q v hv => ?_) (fun MX MM p q hv => ?_)
  · rw [X2_readBoth_L1]
    split
    · rfl
    · rw [if_pos rfl]
  · rw [X2_readBoth_L1]
    split
    · rfl
    · rw [if_neg (show ¬ (1 : Int32) = 0 by decide), h, bo_s, if_neg Bool.false_ne_true]
  · rw [X2_readBoth_L1, if_neg (show ¬ (1600 : Int32) ≤ nI k from nI_ge (b := 1600) hk (by omega)), if_neg (show ¬ (1 : Int32) = 0 by decide), h, bo_s, if_pos rfl, show nI k + 1 = nI (k + 1) from nI_add k 1]
    rfl
  · exact hv.2.2.2.1
  · exact ⟨38, rfl, by decide, Or.inl ⟨rfl, rfl⟩⟩
theorem fEither_c {d : Nat} (hd : d ≤ 7) {fO fE : Int32 → Mem → Option (Bool × Mem)} (hF : SPN 2 2 2 (d + 1) (X2_readBoth fO fE (nI d)) d) : SPN 1 1 1 (d + 1) (X2_readEither fO fE (nI d)) d := by
  refine lvl_c (l := 1) (lE := 2) (c := 1) (s := d + 1) (F := X2_readBoth fO fE (nI d)) (G := X2_readEither_L1 fO fE (nI d)) (op := X6_says 40) (cd := fun M => 20124) (by omega) (by omega) (by omega) (by omega) hF (fun N c3 M => ?_) (fun N c3 M h => ?_) (fun N k M h hk => ?_) (fun MX MM p q v hv => ?_) (fun MX MM p q hv => ?_)
  · rw [X2_readEither_L1]
    split
    · rfl
    · rw [if_pos rfl]
  · rw [X2_readEither_L1]
    split
    · rfl
    · rw [if_neg (show ¬ (1 : Int32) = 0 by decide), h, bo_s, if_neg Bool.false_ne_true]
  · rw [X2_readEither_L1, if_neg (show ¬ (1600 : Int32) ≤ nI k from nI_ge (b := 1600) hk (by omega)), if_neg (show ¬ (1 : Int32) = 0 by decide), h, bo_s, if_pos rfl, show nI k + 1 = nI (k + 1) from nI_add k 1]
    rfl
  · exact hv.2.2.2.2.1
  · exact ⟨124, rfl, by decide, Or.inr (Or.inl ⟨rfl, rfl⟩)⟩
theorem BD.wr {MX MM : Mem} (h : BD MX MM) (x : Int32) : BD (X1_write 13 x MX) MM := by
  have e : ∀ i, (X1_write 13 x MX).1 16 i = MX.1 16 i := fun i => by
    unfold X1_write
    split
    · rfl
    · split
      · rfl
      · rw [lt_e, lt_e]; rfl
  exact h.fr (e 5) (e 6) rfl rfl rfl rfl
theorem FXf.wr {M M1 : Mem} (h : FXf M M1) (x : Int32) : FXf M (X1_write 13 x M1) := by
  refine h.tr ?_
  unfold X1_write
  split
  · exact FXf.rf
  · split
    · exact FXf.rf
    · rw [lt_e, lt_e]; exact FXf.rf.w _ _ _
theorem one_c {d : Nat} (hd : d ≤ 7) {fO fE : Int32 → Mem → Option (Bool × Mem)} (hO : d < 7 → SPN 4 3 3 (d + 2) (fO (nI (d + 1))) (d + 1)) (hS : SPN 5 4 5 8 (X2_readSum fE (nI d)) d) : SPN 4 3 3 (d + 1) (X2_readOne fO fE (nI d)) d := by
  intro n tx w B L u D p q MX MM h _
  obtain ⟨gd, es, hB1, ⟨t, ht, ht8, htl⟩, hd', hu30, hL, hDL, hB⟩ := id h
  obtain ⟨a1, a2, a3, a4, a5, a6, a7, a8, a9, a10, a11, a12⟩ := id es
  have hle := gd.1.2.2.2.2.2.le
  rw [Nat.add_zero] at a8 a3
  have a44 : MM.1 0 44 = nI d := a9
  have s32 := word_c gd.1 (w := 32) (by omega)
  rw [WC_32] at s32
  cases hw : X12_isWord 7237492 MM with
  | true =>
    rw [hw] at s32
    have hpq : p < q := by
      rcases unit_tok gd.1 with ⟨z, _⟩ | ⟨z, _⟩ | ⟨_, _, _, _, _, z⟩
      · exact z
      · exact z
      · exact z hw
    have s40 : X12_isSignHere 40 MM = some (decide (MX.1 16 1 = 40)) := sgn_c gd.1 (c := 40) (by unfold SGN; omega)
    have e0 : X12_unit MM = uM3 1 (decide (MX.1 16 1 = 40)) (X12_wordHere MM) (if u = 30 then 1 else 0) MM := by
      rw [unit1_c a8 hB1 (by omega) ht ht8, if_pos ⟨by omega, hw⟩, uM2_c s40 rfl a1 a2 a5 a6 hu30]
    by_cases hd7 : d = 7
    · obtain ⟨MXz, MMz, z1, z2, oz⟩ := misplaced_c gd
      have bdz := out_bad oz
      refine ⟨false, MXz, ?_, bad_fin (by omega) (fun N => ?_) oz⟩
      · unfold X2_readOne
        rw [s32, bo_s, if_pos rfl, if_neg (show ¬ nI d < 7 by rw [hd7]; decide), z1, lp_s]
      · rw [eU N gd.good a8 hB1 (by omega) (by rw [e0, uM3_not7 (by rw [a44, hd7]; rfl), z2]; exact uM4_bad bdz)]; rfl
    · have n44 : ¬ MM.1 0 44 = 7 := by
        rw [a44]
        exact fun y => hd7 ((nI_eq (b := 7) (by omega) (by omega)).mp y)
      have hm := uM3_not (y19 := if u = 30 then 1 else 0) (b := decide (MX.1 16 1 = 40)) (y := X12_wordHere MM) n44
      rw [uM4_not gd.good a1 a2 a5 a6] at hm
      obtain ⟨MU, hMU⟩ : ∃ MU, MU = uI (uI MM 7 w (nI u)) 0 46 (nI u) := ⟨_, rfl⟩
      have gd1 : GD MX MU n tx p q := by rw [hMU]; exact gd
      obtain ⟨MX2, MM2, p2, q2, s1, s2, fs, gs, gd2, r2, _⟩ := stepG_c gd1
      have xf : ∀ a i, a ≠ 16 → MX2.1 a i = MX.1 a i := fun a i z1 => fs.r.1 a i z1
      have mf : ∀ a i, (a ≠ 0 ∨ i < 4 ∨ 9 < i) → MM2.1 a i = MM.1 a i := fun a i z1 => by
        rw [gs.r.1 a i z1, hMU]
        by_cases y : a = 0 ∧ i = 46
        · rw [y.1, y.2, uI_eq, a6]
        · rw [uI_ne y]
          by_cases y : a = 7 ∧ i = w
          · rw [y.1, y.2, uI_eq, a5]
          · rw [uI_ne y]
      obtain ⟨VV, hVV⟩ : ∃ VV, VV = uI (uI (uI (uI MM2 30 B 3) 31 B 126) 0 45 (nI (B + 1))) 0 44 (nI (d + 1)) := ⟨_, rfl⟩
      have vf : ∀ a i, ¬ (a = 0 ∧ (i = 44 ∨ i = 45)) → ¬ ((a = 30 ∨ a = 31) ∧ i = B) → VV.1 a i = MM2.1 a i := fun a i z1 z2 => by rw [hVV, uI_ne (by omega), uI_ne (by omega), uI_ne (by omega), uI_ne (by omega)]
      have hun : X12_unit MM = some (true, VV) := by
        rw [e0, hm, ← hMU, s2, bo_s, pushE_c 3 126 (by rw [mf 0 45 (by omega), a8]) (by omega), bo_s, show (uI (uI (uI MM2 30 B 3) 31 B 126) 0 45 (nI (B + 1))).1 0 44 = nI d from (mf 0 44 (by omega)).trans a44, show nI d + 1 = nI (d + 1) from nI_add d 1, lt_e, ← hVV]
      have gd3 : GD MX2 VV n tx p2 q2 := by rw [hVV]; exact gd2
      have hle2 := gd3.1.2.2.2.2.2.le
      have e1 : ∀ N, X12_e_L1 (N + 1) 1 MM = X12_e_L1 N 1 VV := fun N => by rw [eU N gd.good a8 hB1 (by omega) hun]; rfl
      have fMV : FMf w MM VV := ⟨fun a i z => by rw [vf a i (by omega) (by omega), mf a i (by omega)], fun a i z => by rw [hVV]; show MM2.2 a i = _; rw [gs.r.2 a i z, hMU]; rfl⟩
      have es2 : ES w (B + 1) 0 L u (d + 1) D MX2 VV := by
        refine ⟨by rw [vf 0 42 (by omega) (by omega), mf 0 42 (by omega)]; exact a1, a2, by rw [xf 13 2 (by decide), a3, Nat.add_zero], ?_, ?_, ?_, ?_, ?_, ?_, a10, fun i hi => ?_, fun i hi => by omega⟩
        · rw [xf 13 3 (by decide), a4]
        · rw [vf 7 w (by omega) (by omega), mf 7 w (by omega), a5]
        · rw [vf 0 46 (by omega) (by omega), mf 0 46 (by omega), a6]
        · rw [vf 0 43 (by omega) (by omega), mf 0 43 (by omega), a7]
        · rw [hVV, uI_ne (by omega), uI_eq, Nat.add_zero]
        · rw [hVV, uI_eq]; rfl
        · rw [xf 14 i (by decide), vf 28 _ (by omega) (by omega), vf 29 _ (by omega) (by omega), mf 28 _ (by omega), mf 29 _ (by omega)]
          exact a11 i hi
      have v30 : VV.1 30 B = nI 3 := by rw [hVV, uI_ne (by omega), uI_ne (by omega), uI_ne (by omega), uI_eq]; rfl
      have v31 : VV.1 31 B = nI 126 := by rw [hVV, uI_ne (by omega), uI_ne (by omega), uI_eq]; rfl
      obtain ⟨ok, MX3, x3, f3⟩ := hO (by omega) n tx w (B + 1) L u D p2 q2 MX2 VV ⟨gd3, es2, by omega, ⟨3, by rw [Nat.add_sub_cancel]; exact v30, by omega, by omega⟩, by omega, by omega, by omega, by omega, by omega⟩ (fun z => by omega)
      have hX : X2_readOne fO fE (nI d) MX = some (ok, X1_write 13 20033 MX3) := by
        unfold X2_readOne
        rw [s32, bo_s, if_pos rfl, if_pos (show nI d < 7 from nI_lt (b := 7) (by omega) (by omega)), s1, bo_s, show nI d + 1 = nI (d + 1) from nI_add d 1, x3, bp_s, lt_e]
      refine ⟨ok, _, hX, ?_⟩
      cases ok with
      | true =>
        obtain ⟨fx3, MM3, p3, q3, k, r, u3, D3, j, F1, F2, F3, gd4, es4, F4, F5, F6, F7, F8, F9, F10, F11⟩ := f3.ok
        have hle3 := gd4.1.2.2.2.2.2.le
        have hwr := write_c (M := MX3) (L := r + k) 20033 es4.2.2.1 (by omega)
        have m30 : MM3.1 30 B = nI 3 := by rw [(F6 B (by omega)).1, v30]
        have m31 : MM3.1 31 B = nI 126 := by rw [(F6 B (by omega)).2, v31]
        have es5 := ret_c (d := d) (x := nI 20033) (e := D3 (r + k)) es4 (by omega) (by rw [m30, if_pos (show nI 3 = 3 from rfl)]) (by rw [m31]; exact Or.inl ⟨rfl, rfl, by omega, rfl⟩)
        refine ⟨((FXr.f fs.r).tr fx3).wr _, Or.inl ⟨rfl, MM3, p3, q3, k + 1, r, u3, fun i => if i ≤ r + k then D3 i else D3 (r + k), j + 1, by omega, fun N => ?_, fMV.tr F3, ?_, ?_, fun i hi => ?_, F5, fun i hi => ?_, F7, F8, by omega, ?_, by omega⟩⟩
        · rw [show N + (j + 1) = (N + j) + 1 by omega, e1, F2]
        · rw [hwr]; exact gd4
        · rw [hwr]; exact es5
        · by_cases z : i = 0
          · rw [z]; exact ⟨3, by omega, by omega, m30⟩
          · have := F4 (i - 1) (by omega)
            rw [show B + 1 + (i - 1) = B + i by omega] at this
            exact this
        · rw [(F6 i (by omega)).1, (F6 i (by omega)).2, vf 30 i (by omega) (by omega), vf 31 i (by omega) (by omega), mf 30 i (by omega), mf 31 i (by omega)]
          exact ⟨rfl, rfl⟩
        · show (if r + (k + 1) ≤ r + k then D3 (r + (k + 1)) else D3 (r + k)) = D L + 1
          rw [if_neg (by omega), F10]
      | false =>
        obtain ⟨fx3, MM3, j, F1, F2, F3, bd⟩ := f3.no
        exact ⟨((FXr.f fs.r).tr fx3).wr _, Or.inr ⟨rfl, MM3, j + 1, by omega, fun N => by rw [show N + (j + 1) = (N + j) + 1 by omega, e1, F2], fMV.tr F3, bd.wr _⟩⟩
  | false =>
    rw [hw] at s32
    obtain ⟨ok, MX1, x1, F1⟩ := hS n tx w B L u D p q MX MM ⟨gd, es, hB1, ⟨t, ht, ht8, by omega⟩, hd', hu30, hL, hDL, by omega⟩ (fun _ y => absurd (hw.symm.trans y) Bool.false_ne_true)
    cases ok with
    | false =>
      obtain ⟨f1, r⟩ := F1.no
      refine ⟨false, MX1, ?_, f1, Or.inr ⟨rfl, r⟩⟩
      unfold X2_readOne
      rw [s32, bo_s, if_neg Bool.false_ne_true, x1, bp_s, lt_e, if_neg Bool.false_ne_true, l1_s, if_neg Bool.false_ne_true]
    | true =>
      obtain ⟨f1, MM1, p1, q1, k, r, u1, D1, j, G1, G2, G3, G4, G5, G6, G7, G8, G9, G10, G11, G12, G13⟩ := F1.ok
      obtain ⟨v, hv⟩ := rank_c G4.1
      have hle1 := G4.1.2.2.2.2.2.le
      have m1t : MM1.1 30 (B - 1) = nI t := by rw [(G8 (B - 1) (by omega)).1, ht]
      by_cases hv4 : v = 4
      · rw [hv4] at hv
        have hcmp : X12_isCompared MM1 = some false := by
          rw [cmp_c (T := B + k) (j := B - 1) G5.2.2.2.2.2.2.2.1 (by omega) (by omega) (fun i i1 i2 => by
            obtain ⟨t', t1, t2, t3⟩ := G6 (i - B) (by omega)
            rw [show B + (i - B) = i by omega] at t3
            rw [t3]
            rcases (by omega : t' = 5 ∨ t' = 6) with rfl | rfl
            · exact Or.inl rfl
            · exact Or.inr rfl) (by
            rw [m1t]
            exact ⟨fun y => by have := (nI_eq (b := 5) (by omega) (by omega)).mp y; omega, fun y => by have := (nI_eq (b := 6) (by omega) (by omega)).mp y; omega⟩), m1t, decide_eq_false (fun y => by have := (nI_eq (b := 4) (by omega) (by omega)).mp y; omega)]
        obtain ⟨s, h1, h2, h3⟩ := hv.2.2.2.2.2.2.2.2.2 (by omega)
        obtain ⟨MXd, ok2, MX2, s1, x2, fx2, R⟩ := more_c (c := 3) (l := 4) (lE := 5) (v := 4) (s := d + 1) (s2 := 8) (D0 := D L) (p := p) (u := u) (MM0 := MM) (sg := s) ⟨by omega, by omega, by omega, by omega⟩ (fun z => by omega) (by omega) (by omega) (by omega) ⟨by omega, by omega⟩ hS ⟨G1, G2, G3, G4, G5, fun i hi => by
          obtain ⟨t', t1, t2, t3⟩ := G6 i hi
          exact ⟨t', by omega, t2, t3⟩, G8, G9, G10, G11, G12, G13⟩ hv (fun _ => hcmp) hB1 ⟨t, m1t, ht8, htl⟩ hd hL hDL hB (sg_more h3) (Or.inr (Or.inr ⟨by omega, h1⟩))
        have hX : X2_readOne fO fE (nI d) MX = some (ok2, X1_write 13 (nI (20000 + s)) MX2) := by
          unfold X2_readOne
          rw [s32, bo_s, if_neg Bool.false_ne_true, x1, bp_s, lt_e (MX1.1 16 1), if_pos rfl, hv.2.2.2.2.2.2.2.1, decide_eq_true rfl, l1_s, if_pos rfl, s1, bo_s, x2, bp_s, h1, show (20000 : Int32) + nI s = nI (20000 + s) from nI_add 20000 s, lt_e]
        refine ⟨ok2, _, hX, f1.tr fx2, ?_⟩
        rcases R with ⟨rfl, MM2, p2, q2, k2, r2, u2, D2, j2, hp2, nx2, m30, mr, hk1, T1, T2, T3, T4, T5, T6, T7, T8, T9, T10, T11, T12⟩ | ⟨rfl, hF2⟩
        · obtain ⟨v2, hv2⟩ := rank_c T4.1
          refine Or.inl ⟨rfl, MM2, p2, q2, k2, r2, u2, D2, j2, T1, T2, T3, T4, T5, fun i hi => ?_, fun v' y1 y2 y3 => ?_, T7, T8, T9, T10, T11, T12⟩
          · obtain ⟨t', t1, t2, t3⟩ := T6 i hi
            exact ⟨t', by omega, t2, t3⟩
          · have e := Option.some.inj (y1.symm.trans hv2.1)
            have e' := (nI_eq (a := v') (b := v2) (by omega) (by have := hv2.2.1; omega)).mp e
            have := hv2.2.2.1
            have v4 : v' = 4 := by
              by_cases z : 5 ≤ v'
              · have := (nx2 v' y1 y2 z).1; omega
              · omega
            refine ⟨v4, ?_⟩
            rw [cmp_c (T := B + k2) (j := B) T5.2.2.2.2.2.2.2.1 (by omega) (by omega) (fun i i1 i2 => by
              obtain ⟨t', t1, t2, t3⟩ := mr (i - B) (by omega) (by omega)
              rw [show B + (i - B) = i by omega] at t3
              rw [t3]
              rcases (by omega : t' = 5 ∨ t' = 6) with rfl | rfl
              · exact Or.inl rfl
              · exact Or.inr rfl) (by rw [m30]; decide), m30]
            rfl
        · exact Or.inr ⟨rfl, hF2⟩
      · refine ⟨true, MX1, ?_, f1, Or.inl ⟨rfl, MM1, p1, q1, k, r, u1, D1, j, G1, G2, G3, G4, G5, fun i hi => ?_, fun v' y1 y2 y3 => ?_, G8, G9, G10, by omega, G12, G13⟩⟩
        · unfold X2_readOne
          rw [s32, bo_s, if_neg Bool.false_ne_true, x1, bp_s, lt_e (MX1.1 16 1), if_pos rfl, hv.2.2.2.2.2.2.2.1, decide_eq_false hv4, l1_s, if_neg Bool.false_ne_true]
        · obtain ⟨t', t1, t2, t3⟩ := G6 i hi
          exact ⟨t', by omega, t2, t3⟩
        · have e := Option.some.inj (y1.symm.trans hv.1)
          have e' := (nI_eq (a := v') (b := v) (by omega) (by have := hv.2.1; omega)).mp e
          have := hv.2.2.1
          have := (G7 v' y1 y2 (by omega)).1
          omega
theorem rr_c : ∀ m d, d + m = 10 → d ≤ 7 → SPN 1 1 1 (d + 1) ((X2_RR m).1 (nI d)) d ∧ SPN 4 3 3 (d + 1) ((X2_RR m).2 (nI d)) d := by
  intro m
  induction m with
  | zero => intro d h1 h2; omega
  | succ m ih =>
    intro d h1 h2
    have hU : SPN 7 6 7 8 (X2_readUnit (X2_RR m).1 (nI d)) d := unit_c (fun h => (ih (d + 1) (by omega) (by omega)).1)
    have hO : SPN 4 3 3 (d + 1) (X2_readOne (X2_RR m).2 (X2_RR m).1 (nI d)) d := one_c h2 (fun h => (ih (d + 1) (by omega) (by omega)).2) (sum_c (term_c hU))
    exact ⟨fEither_c h2 (fBoth_c h2 hO), hO⟩
