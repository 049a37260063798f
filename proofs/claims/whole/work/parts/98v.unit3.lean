/-! ===== phase 2: the formula: a unit, both sides ===== -/
theorem bad_fin {MX MM MX' MM' : Mem} {l s n w B L u d D0 p q : Nat} {tx : Nat → Nat} (hp : p ≤ n) (hu : ∀ N, X12_e_L1 (N + 1) 1 MM = X12_e_L1 N 1 MM') (o : OUT n tx q MX MM false MX' MM') : FIN l s n tx w B L u d D0 p MX MM false MX' :=
  ⟨o.1.f, Or.inr ⟨rfl, MM', 2, by omega, fun N => by rw [show N + 2 = (N + 1) + 1 from rfl, hu (N + 1), eZ N 1 (out_bad o)], o.2.1.f, out_bad o⟩⟩
theorem xU_bad {MX : Mem} {fE : Int32 → Mem → Option (Bool × Mem)} {x1 : Int32} (h : (¬ MX.1 16 1 = 40 ∧ X2_leafTold MX = some (-1)) ∨ ((MX.1 16 1 = 40 ∨ ∃ y, X2_leafTold MX = some y ∧ ¬ y = -1) ∧ MX.1 13 3 = nI 30) ∨ (MX.1 16 1 = 40 ∧ ¬ x1 < 7)) : X2_readUnit fE x1 MX = (lp_ (X6_refuse 2 MX) fun b M => some (b, M)) := by
  unfold X2_readUnit
  have n30 : ¬ nI 30 < 30 := by decide
  rcases h with ⟨h1, h2⟩ | ⟨h1 | ⟨y, h1, h2⟩, h3⟩ | ⟨h1, h2⟩
  · rw [if_neg h1, l1_s, if_pos rfl, h2, bo_s, b1_s, if_pos rfl, if_pos rfl, l1_s, if_neg Bool.false_ne_true]
  · rw [if_pos h1, l1_s, if_neg (show ¬ (1 : Int32) = 0 by decide), b1_s, if_neg (show ¬ (1 : Int32) = 0 by decide), l1_s, if_pos rfl, h3, if_neg n30]
  · by_cases z : MX.1 16 1 = 40
    · rw [if_pos z, l1_s, if_neg (show ¬ (1 : Int32) = 0 by decide), b1_s, if_neg (show ¬ (1 : Int32) = 0 by decide), l1_s, if_pos rfl, h3, if_neg n30]
    · rw [if_neg z, l1_s, if_pos rfl, h1, bo_s, b1_s, if_pos rfl, if_neg h2, l1_s, if_pos rfl, h3, if_neg n30]
  · rw [if_pos h1, l1_s, if_neg (show ¬ (1 : Int32) = 0 by decide), b1_s, if_neg (show ¬ (1 : Int32) = 0 by decide), l1_s, if_pos rfl, if_neg (show ¬ (1 : Int32) = 0 by decide), if_neg h2, l1_s, if_neg Bool.false_ne_true]
    split <;> rfl
theorem xU_leaf {MX : Mem} {fE : Int32 → Mem → Option (Bool × Mem)} {x1 y : Int32} {u : Nat} (h1 : ¬ MX.1 16 1 = 40) (h2 : X2_leafTold MX = some y) (h3 : ¬ y = -1) (h4 : MX.1 13 3 = nI u) (h5 : u < 30) : X2_readUnit fE x1 MX = bo_ (X6_step (uI MX 13 3 (nI (u + 1)))) fun M16 => some (true, X1_write 13 y M16) := by
  unfold X2_readUnit
  rw [if_neg h1, l1_s, if_pos rfl, h2, bo_s, b1_s, if_pos rfl, if_neg h3, l1_s, if_pos rfl, h4, if_pos (show nI u < 30 from nI_lt (b := 30) h5 (by omega)), if_pos rfl, l1_s, if_pos rfl, show nI u + 1 = nI (u + 1) from nI_add u 1, lt_e]
  rfl
theorem xU_par {MX : Mem} {fE : Int32 → Mem → Option (Bool × Mem)} {x1 : Int32} {u : Nat} (h1 : MX.1 16 1 = 40) (h2 : x1 < 7) (h4 : MX.1 13 3 = nI u) (h5 : u < 30) : X2_readUnit fE x1 MX = bo_ (X6_step (uI MX 13 3 (nI (u + 1)))) fun M16 => bp_ (fE (x1 + 1) M16) fun b18 M19 => if b18 = true then if (M19.1 16 1) = 41 then bo_ (X6_step M19) fun M22 => some (true, M22) else lp_ (X6_refuse 2 M19) fun b23 M24 => some (b23, M24) else some (false, M19) := by
  unfold X2_readUnit
  rw [if_pos h1, l1_s, if_neg (show ¬ (1 : Int32) = 0 by decide), b1_s, if_neg (show ¬ (1 : Int32) = 0 by decide), l1_s, if_pos rfl, h4, if_pos (show nI u < 30 from nI_lt (b := 30) h5 (by omega)), if_neg (show ¬ (1 : Int32) = 0 by decide), if_pos h2, l1_s, if_pos rfl, show nI u + 1 = nI (u + 1) from nI_add u 1, lt_e]
  rfl
theorem b0 {M M17 : Mem} {B : Nat} (h : X12_rankHere M = some (nI 0)) (hp : X12_behindUnit_L1 (nI 0) zFU M = some M17) (h45 : M17.1 0 45 = nI (B + 1)) (hB : B < 90) (h30 : M17.1 30 B = 7) : X12_behindUnit M = bo_ (X12_isSignHere 41 (uI (uI M17 0 45 (nI B)) 0 44 (M17.1 0 44 - 1))) fun b23 => bo_ (X12_must (b2i b23) (uI (uI M17 0 45 (nI B)) 0 44 (M17.1 0 44 - 1))) fun M24 => some (false, M24) := by
  unfold X12_behindUnit
  rw [h, bo_s, if_neg (show ¬ nI 0 = 4 by decide), b1_s, if_pos rfl, hp, b1_s, if_pos (show nI 0 ≤ 0 by decide), h45, show nI (B + 1) - 1 = nI (B + 1 - 1) from nI_sub (b := 1) (by omega), Nat.add_sub_cancel, lt_e (uI M17 0 45 (nI B)), show (uI M17 0 45 (nI B)).1 0 45 = nI B from uI_eq _ _ _ _, gd_in hB (by omega), nI_clamp (by omega), if_pos (show (uI M17 0 45 (nI B)).1 30 B = 7 from h30), lt_e]
  rfl
theorem leafGo {MX MM : Mem} {n w B L u d p q : Nat} {tx D : Nat → Nat} {y c nn : Int32} {fE : Int32 → Mem → Option (Bool × Mem)} (h : ENT 7 6 n tx w B L u d D p q MX MM) (hu : u < 30) (hpq : p < q) (hx : X2_readUnit fE (nI d) MX = bo_ (X6_step (uI MX 13 3 (nI (u + 1)))) fun M16 => some (true, X1_write 13 y M16)) (hm : X12_unit MM = bo_ (X12_goOn (uI (uI MM 7 w (nI (u + 1))) 0 46 (nI (u + 1)))) fun M47 => bo_ (X12_emit c nn M47) fun M58 => some (false, M58)) (hPC : ∀ e, e + 1 ≤ 32 → PC y c nn e (e + 1)) : ∃ ok MX', X2_readUnit fE (nI d) MX = some (ok, MX') ∧ FIN 7 8 n tx w B L u d (D L) p MX MM ok MX' := by
  obtain ⟨gd, es, hB1, hbot, hd, hu30, hL, hDL, hB⟩ := h
  obtain ⟨a1, a2, a3, a4, a5, a6, a7, a8, a9, a10, a11, a12⟩ := id es
  obtain ⟨MX1, hX1⟩ : ∃ MX1, MX1 = uI MX 13 3 (nI (u + 1)) := ⟨_, rfl⟩
  obtain ⟨MU, hMU⟩ : ∃ MU, MU = uI (uI MM 7 w (nI (u + 1))) 0 46 (nI (u + 1)) := ⟨_, rfl⟩
  have gd1 : GD MX1 MU n tx p q := by rw [hX1, hMU]; exact gd
  obtain ⟨MX2, MM2, p', q', s1, s2, fs, gs, gd2, r2, _⟩ := stepG_c gd1
  have xf : ∀ a i, a ≠ 16 → ¬ (a = 13 ∧ i = 3) → MX2.1 a i = MX.1 a i := fun a i z1 z2 => by rw [fs.r.1 a i z1, hX1, uI_ne (by omega)]
  have mf : ∀ a i, (a ≠ 0 ∨ i < 4 ∨ 9 < i) → ¬ (a = 7 ∧ i = w) → ¬ (a = 0 ∧ i = 46) → MM2.1 a i = MM.1 a i := fun a i z1 z2 z3 => by rw [gs.r.1 a i z1, hMU, uI_ne (by omega), uI_ne (by omega)]
  rw [Nat.add_zero] at a3
  have hw := write_c (M := MX2) (L := L) y (by rw [xf 13 2 (by decide) (by omega), a3]) (by omega)
  have he := emit_c (M := MM2) (e := 560 * w + L) c nn (by rw [mf 0 43 (by omega) (by omega) (by omega), a7]) (by omega)
  obtain ⟨XX, hXX⟩ : ∃ XX, XX = uI (uI MX2 14 L y) 13 2 (nI (L + 1)) := ⟨_, rfl⟩
  obtain ⟨VV, hVV⟩ : ∃ VV, VV = uI (uI (uI MM2 28 (560 * w + L) c) 29 (560 * w + L) nn) 0 43 (nI (560 * w + L + 1)) := ⟨_, rfl⟩
  have vf : ∀ a i, ¬ (a = 0 ∧ i = 43) → ¬ ((a = 28 ∨ a = 29) ∧ i = 560 * w + L) → VV.1 a i = MM2.1 a i := fun a i z1 z2 => by rw [hVV, uI_ne (by omega), uI_ne (by omega), uI_ne (by omega)]
  have gd3 : GD XX VV n tx p' q' := by rw [hXX, hVV]; exact gd2
  have hun : X12_unit MM = some (false, VV) := by rw [hm, ← hMU, s2, bo_s, he, bo_s, ← hVV]
  have hle := gd2.1.2.2.2.2.2.le
  refine ⟨true, XX, by rw [hx, ← hX1, s1, bo_s, hw, ← hXX], ?_, Or.inl ⟨rfl, VV, p', q', 0, L + 1, u + 1, fun i => if i ≤ L then D i else D L + 1, 1, by omega, fun N => ?_, ?_, gd3, ?_, fun i hi => by omega, fun v _ v1 v2 => by omega, fun i hi => ?_, by omega, by omega, by omega, ?_, by omega⟩⟩
  · rw [hXX]
    exact FXf.w ⟨fun a i z1 z2 z3 => xf a i z1 (by omega), fun a i z => by rw [fs.r.2 a i z, hX1]; rfl⟩ _ _ _
  · rw [eU N gd.good (by rw [a8, Nat.add_zero]) hB1 (by omega) hun]; rfl
  · exact ⟨fun a i z => by rw [vf a i (by omega) (by omega), mf a i (by omega) (by omega) (by omega)], fun a i z => by rw [hVV]; show MM2.2 a i = _; rw [gs.r.2 a i z, hMU]; rfl⟩
  · refine ⟨by rw [vf 0 42 (by omega) (by omega), mf 0 42 (by omega) (by omega) (by omega)]; exact a1, a2, by rw [hXX, uI_eq, Nat.add_zero], ?_, ?_, ?_, by rw [hVV, uI_eq, Nat.add_assoc], ?_, ?_, ?_, fun i hi => ?_, fun i hi => by omega⟩
    · rw [hXX, uI_ne (by omega), uI_ne (by omega), fs.r.1 13 3 (by decide), hX1, uI_eq]
    · rw [vf 7 w (by omega) (by omega), gs.r.1 7 w (by omega), hMU, uI_ne (by omega), uI_eq]
    · rw [vf 0 46 (by omega) (by omega), gs.r.1 0 46 (by omega), hMU, uI_eq]
    · rw [vf 0 45 (by omega) (by omega), mf 0 45 (by omega) (by omega) (by omega), a8]
    · rw [vf 0 44 (by omega) (by omega), mf 0 44 (by omega) (by omega) (by omega), a9]; rfl
    · show (if 0 ≤ L then D 0 else D L + 1) = 0
      rw [if_pos (by omega), a10]
    · show PC _ _ _ (if i ≤ L then D i else D L + 1) (if i + 1 ≤ L then D (i + 1) else D L + 1)
      by_cases z : i = L
      · rw [z, if_pos (by omega), if_neg (by omega), hXX, uI_ne (by omega), uI_eq, hVV, uI_ne (by omega), uI_ne (by omega), uI_eq, uI_ne (by omega), uI_eq]
        exact hPC _ (by omega)
      · rw [if_pos (by omega), if_pos (by omega), hXX, uI_ne (by omega), uI_ne (by omega), xf 14 i (by decide) (by omega), vf 28 _ (by omega) (by omega), vf 29 _ (by omega) (by omega), mf 28 _ (by omega) (by omega) (by omega), mf 29 _ (by omega) (by omega) (by omega)]
        exact a11 i (by omega)
  · rw [vf 30 i (by omega) (by omega), vf 31 i (by omega) (by omega), mf 30 i (by omega) (by omega) (by omega), mf 31 i (by omega) (by omega) (by omega)]
    exact ⟨rfl, rfl⟩
  · show (if L + 1 + 0 ≤ L then D (L + 1 + 0) else D L + 1) = D L + 1
    rw [if_neg (by omega)]
theorem leaf_PC {j : Nat} (hj : j < 6) (nn : Int32) (e : Nat) (he : e + 1 ≤ 32) : PC (nI (10000 + j)) (nI (zLet j)) nn e (e + 1) := Or.inr (Or.inr (Or.inl ⟨j, hj, rfl, rfl, rfl, he⟩))
theorem unit_c {d : Nat} {fE : Int32 → Mem → Option (Bool × Mem)} (hE : d < 7 → SPN 1 1 1 (d + 2) (fE (nI (d + 1))) (d + 1)) : SPN 7 6 7 8 (X2_readUnit fE (nI d)) d := by
  intro n tx w B L u D p q MX MM h hN
  obtain ⟨gd, es, hB1, ⟨t, ht, ht8, htl⟩, hd, hu30, hL, hDL, hB⟩ := id h
  obtain ⟨a1, a2, a3, a4, a5, a6, a7, a8, a9, a10, a11, a12⟩ := id es
  have hle := gd.1.2.2.2.2.2.le
  rw [Nat.add_zero] at a8 a3
  have a44 : MM.1 0 44 = nI d := a9
  have hs : ∀ c : Nat, MX.1 16 1 = nI c → True := fun _ _ => trivial
  -- the reference's unit: a not can't stand here
  have e0 : X12_unit MM = uM2 0 MM := by
    rw [unit1_c a8 hB1 (by omega) ht ht8]
    congr 1
    refine if_neg fun y => ?_
    obtain ⟨t', t1, t2, t3⟩ := hN (by omega) y.2
    have := (nI_eq (a := t) (b := t') (by omega) (by omega)).mp (ht.symm.trans t3)
    have := y.1
    omega
  have U := unit_tok gd.1
  obtain ⟨MXz, MMz, z1, z2, oz⟩ := misplaced_c gd
  have bdz := out_bad oz
  -- a wrong place
  have wrong : X2_readUnit fE (nI d) MX = (lp_ (X6_refuse 2 MX) fun b M => some (b, M)) → X12_unit MM = some (true, X12_misplaced MM) → ∃ ok MX', X2_readUnit fE (nI d) MX = some (ok, MX') ∧ FIN 7 8 n tx w B L u d (D L) p MX MM ok MX' := fun k1 k2 => by
    refine ⟨false, MXz, by rw [k1, z1, lp_s], bad_fin (by omega) (fun N => ?_) oz⟩
    rw [eU N gd.good a8 hB1 (by omega) k2, z2]; rfl
  have bm : ∀ (b : Bool) (y : Int32), uM4 0 b y (X12_misplaced MM) = some (true, X12_misplaced MM) := fun b y => by rw [z2]; exact uM4_bad bdz
  rcases U with ⟨hpq, n40, s40, nw, U⟩ | ⟨hpq, e40, s40, nw, wh, n8⟩ | ⟨n40, s40, lt, wh, n8, _⟩
  · by_cases hu : u = 30
    · rcases U with ⟨wh, h8, v, v1, v2, v3⟩ | ⟨j, j1, j2, j3⟩
      · exact wrong (xU_bad (Or.inr (Or.inl ⟨Or.inr ⟨_, v2, nI_nm1 (by omega)⟩, by rw [a4, hu]⟩))) (by rw [e0, uM2_c s40 rfl a1 a2 a5 a6 hu30, if_pos hu, uM3_full, bm])
      · exact wrong (xU_bad (Or.inr (Or.inl ⟨Or.inr ⟨_, j2, nI_nm1 (by omega)⟩, by rw [a4, hu]⟩))) (by rw [e0, uM2_c s40 rfl a1 a2 a5 a6 hu30, if_pos hu, uM3_full, bm])
    · rcases U with ⟨wh, h8, v, v1, v2, v3⟩ | ⟨j, j1, j2, j3⟩
      · refine leafGo (y := nI v) (c := 110) (nn := nI v) h (by omega) hpq (xU_leaf n40 v2 (nI_nm1 (by omega)) a4 (by omega)) ?_ (fun e he => Or.inr (Or.inr (Or.inr ⟨v, by omega, rfl, rfl, rfl, rfl, he⟩)))
        rw [e0, uM2_c s40 wh a1 a2 a5 a6 hu30, if_neg hu, uM3_num h8, uM4_leaf gd.good a1 a2 a5 a6, if_pos rfl, if_pos rfl, v3]
      · have hz : ¬ nI (zLet j) = 0 := fun y => by
          have := (nI_eq (b := 0) (by have := zLet_b j1; omega) (by omega)).mp y
          have := zLet_b j1
          omega
        refine leafGo (y := nI (10000 + j)) (c := nI (zLet j)) (nn := 0) h (by omega) hpq (xU_leaf n40 j2 (nI_nm1 (by omega)) a4 (by omega)) ?_ (fun e he => leaf_PC j1 0 e he)
        rw [e0, uM2_c s40 j3 a1 a2 a5 a6 hu30, if_neg hu, uM3_word hz, uM4_leaf gd.good a1 a2 a5 a6, if_neg hz, if_neg hz]
  · by_cases hu : u = 30
    · exact wrong (xU_bad (Or.inr (Or.inl ⟨Or.inl e40, by rw [a4, hu]⟩))) (by rw [e0, uM2_c s40 rfl a1 a2 a5 a6 hu30, if_pos hu, uM3_full, bm])
    · by_cases hd7 : d = 7
      · exact wrong (xU_bad (Or.inr (Or.inr ⟨e40, by rw [hd7]; decide⟩))) (by rw [e0, uM2_c s40 wh a1 a2 a5 a6 hu30, if_neg hu, uM3_par7 n8 (by rw [a44, hd7]; rfl), bm])
      · have n44 : ¬ MM.1 0 44 = 7 := by
          rw [a44]
          exact fun y => hd7 ((nI_eq (b := 7) (by omega) (by omega)).mp y)
        have hm : X12_unit MM = bo_ (X12_goOn (uI (uI MM 7 w (nI (u + 1))) 0 46 (nI (u + 1)))) fun M47 => bo_ (X12_pushE 7 126 M47) fun M54 => lt_ (uI M54 0 44 ((M54.1 0 44) + 1)) fun M55 => some (true, M55) := by
          rw [e0, uM2_c s40 wh a1 a2 a5 a6 hu30, if_neg hu, uM3_par n8 n44, uM4_par gd.good a1 a2 a5 a6]
        have hx := xU_par (fE := fE) (x1 := nI d) e40 (show nI d < 7 from nI_lt (b := 7) (by omega) (by omega)) a4 (by omega)
        rw [show nI d + 1 = nI (d + 1) from nI_add d 1] at hx
        obtain ⟨MX1, hX1⟩ : ∃ MX1, MX1 = uI MX 13 3 (nI (u + 1)) := ⟨_, rfl⟩
        obtain ⟨MU, hMU⟩ : ∃ MU, MU = uI (uI MM 7 w (nI (u + 1))) 0 46 (nI (u + 1)) := ⟨_, rfl⟩
        have gd1 : GD MX1 MU n tx p q := by rw [hX1, hMU]; exact gd
        obtain ⟨MX2, MM2, p2, q2, s1, s2, fs, gs, gd2, r2, _⟩ := stepG_c gd1
        have xf : ∀ a i, a ≠ 16 → ¬ (a = 13 ∧ i = 3) → MX2.1 a i = MX.1 a i := fun a i z1 z2 => by rw [fs.r.1 a i z1, hX1, uI_ne (by omega)]
        have mf : ∀ a i, (a ≠ 0 ∨ i < 4 ∨ 9 < i) → ¬ (a = 7 ∧ i = w) → ¬ (a = 0 ∧ i = 46) → MM2.1 a i = MM.1 a i := fun a i z1 z2 z3 => by rw [gs.r.1 a i z1, hMU, uI_ne (by omega), uI_ne (by omega)]
        obtain ⟨VV, hVV⟩ : ∃ VV, VV = uI (uI (uI (uI MM2 30 B 7) 31 B 126) 0 45 (nI (B + 1))) 0 44 (nI (d + 1)) := ⟨_, rfl⟩
        have vf : ∀ a i, ¬ (a = 0 ∧ (i = 44 ∨ i = 45)) → ¬ ((a = 30 ∨ a = 31) ∧ i = B) → VV.1 a i = MM2.1 a i := fun a i z1 z2 => by rw [hVV, uI_ne (by omega), uI_ne (by omega), uI_ne (by omega), uI_ne (by omega)]
        have hun : X12_unit MM = some (true, VV) := by
          rw [hm, ← hMU, s2, bo_s, pushE_c 7 126 (by rw [mf 0 45 (by omega) (by omega) (by omega), a8]) (by omega), bo_s, show (uI (uI (uI MM2 30 B 7) 31 B 126) 0 45 (nI (B + 1))).1 0 44 = nI d from (mf 0 44 (by omega) (by omega) (by omega)).trans a44, show nI d + 1 = nI (d + 1) from nI_add d 1, lt_e, ← hVV]
        have gd3 : GD MX2 VV n tx p2 q2 := by rw [hVV]; exact gd2
        have hle2 := gd3.1.2.2.2.2.2.le
        have e1 : ∀ N, X12_e_L1 (N + 1) 1 MM = X12_e_L1 N 1 VV := fun N => by rw [eU N gd.good a8 hB1 (by omega) hun]; rfl
        have fMV : FMf w MM VV := ⟨fun a i z => by rw [vf a i (by omega) (by omega), mf a i (by omega) (by omega) (by omega)], fun a i z => by rw [hVV]; show MM2.2 a i = _; rw [gs.r.2 a i z, hMU]; rfl⟩
        have fXV : FXf MX MX2 := ⟨fun a i z1 z2 z3 => xf a i z1 (by omega), fun a i z => by rw [fs.r.2 a i z, hX1]; rfl⟩
        have es2 : ES w (B + 1) 0 L (u + 1) (d + 1) D MX2 VV := by
          refine ⟨by rw [vf 0 42 (by omega) (by omega), mf 0 42 (by omega) (by omega) (by omega)]; exact a1, a2, by rw [xf 13 2 (by decide) (by omega), a3, Nat.add_zero], ?_, ?_, ?_, ?_, ?_, ?_, a10, fun i hi => ?_, fun i hi => by omega⟩
          · rw [fs.r.1 13 3 (by decide), hX1, uI_eq]
          · rw [vf 7 w (by omega) (by omega), gs.r.1 7 w (by omega), hMU, uI_ne (by omega), uI_eq]
          · rw [vf 0 46 (by omega) (by omega), gs.r.1 0 46 (by omega), hMU, uI_eq]
          · rw [vf 0 43 (by omega) (by omega), mf 0 43 (by omega) (by omega) (by omega), a7]
          · rw [hVV, uI_ne (by omega), uI_eq, Nat.add_zero]
          · rw [hVV, uI_eq]; rfl
          · rw [xf 14 i (by decide) (by omega), vf 28 _ (by omega) (by omega), vf 29 _ (by omega) (by omega), mf 28 _ (by omega) (by omega) (by omega), mf 29 _ (by omega) (by omega) (by omega)]
            exact a11 i hi
        have v30 : VV.1 30 B = nI 7 := by rw [hVV, uI_ne (by omega), uI_ne (by omega), uI_ne (by omega), uI_eq]; rfl
        obtain ⟨ok, MX3, x3, f3⟩ := hE (by omega) n tx w (B + 1) L (u + 1) D p2 q2 MX2 VV ⟨gd3, es2, by omega, ⟨7, by rw [Nat.add_sub_cancel]; exact v30, by omega, by omega⟩, by omega, by omega, by omega, by omega, by omega⟩ (fun z => by omega)
        obtain ⟨fx3, f3⟩ := f3
        rcases f3 with ⟨rfl, MM3, p3, q3, k, r, u3, D3, j, F1, F2, F3, gd4, es4, F4, F5, F6, F7, F8, F9, F10, F11⟩ | ⟨rfl, MM3, j, F1, F2, F3, bd⟩
        · obtain ⟨v, hv⟩ := rank_c gd4.1
          have hle3 := gd4.1.2.2.2.2.2.le
          have hX : ∀ R, (if (MX3.1 16 1) = 41 then bo_ (X6_step MX3) fun M22 => some (true, M22) else lp_ (X6_refuse 2 MX3) fun b23 M24 => some (b23, M24)) = R → X2_readUnit fE (nI d) MX = R := fun R hR => by
            rw [hx, ← hX1, s1, bo_s, x3, bp_s, if_pos rfl, hR]
          by_cases hv0 : v = 0
          · rw [hv0] at hv
            obtain ⟨M17, p1, es5, pf⟩ := pop_c (v := 0) es4 (by omega) (by omega) (by omega) (fun i hi => by
              obtain ⟨t', t1, t2, t3⟩ := F4 i hi
              exact ⟨t', by omega, t2, t3⟩) ⟨7, by rw [Nat.add_sub_cancel, (F6 B (by omega)).1, v30], by omega, by omega⟩ (by omega)
            have m30 : M17.1 30 B = 7 := by rw [pf.1 30 B (by omega) (by omega), (F6 B (by omega)).1, v30]; rfl
            have m44 : M17.1 0 44 = nI (d + 1) := es5.2.2.2.2.2.2.2.2.1
            have hb := b0 (B := B) hv.1 p1 (by rw [es5.2.2.2.2.2.2.2.1, Nat.add_zero]) (by omega) m30
            rw [m44, show nI (d + 1) - 1 = nI (d + 1 - 1) from nI_sub (b := 1) (by omega), Nat.add_sub_cancel] at hb
            obtain ⟨M22, hM22⟩ : ∃ M22, M22 = uI (uI M17 0 45 (nI B)) 0 44 (nI d) := ⟨_, rfl⟩
            have gd5 : GD MX3 M22 n tx p3 q3 := by
              have g0 : GD MX3 M17 n tx p3 q3 := gd4.pf pf
              rw [hM22]; exact g0
            have mf22 : ∀ a i, ¬ (a = 0 ∧ (i = 44 ∨ i = 45)) → M22.1 a i = M17.1 a i := fun a i z => by rw [hM22, uI_ne (by omega), uI_ne (by omega)]
            rw [← hM22, show X12_isSignHere 41 M22 = some (decide (MX3.1 16 1 = 41)) from sgn_c gd5.1 (c := 41) (by unfold SGN; omega), bo_s] at hb
            obtain ⟨MX4, MM4, y1, y2, o⟩ := must_c gd5 (decide (MX3.1 16 1 = 41))
            have hxr : (if (MX3.1 16 1) = 41 then bo_ (X6_step MX3) fun M22 => some (true, M22) else lp_ (X6_refuse 2 MX3) fun b23 M24 => some (b23, M24)) = some (decide (MX3.1 16 1 = 41), MX4) := by
              rw [← y1]
              by_cases z : MX3.1 16 1 = 41
              · rw [if_pos z, if_pos (decide_eq_true z)]
              · rw [if_neg z, if_neg (fun w => z (of_decide_eq_true w))]
            rw [y2, bo_s] at hb
            have e3 : ∀ N, X12_e_L1 (N + 1) 0 MM3 = X12_e_L1 N 0 MM4 := fun N => by rw [eB N gd4.good es4.2.2.2.2.2.2.2.1 (by omega) (by omega) hb]; rfl
            have eAll : ∀ N, X12_e_L1 (N + (j + 2)) 1 MM = X12_e_L1 N 0 MM4 := fun N => by rw [show N + (j + 2) = (N + 1 + j) + 1 by omega, e1, F2 (N + 1), e3]
            have fM34 : FMf w MM3 MM4 := (pf.f.tr ⟨fun a i z => mf22 a i (by omega), fun a i z => by rw [hM22]; rfl⟩).tr o.2.1.f
            have fAll := (fMV.tr F3).tr fM34
            refine ⟨_, MX4, hX _ hxr, (fXV.tr fx3).tr o.1.f, ?_⟩
            rcases o.2.2 with ⟨okT, p4, q4, gd6, r6⟩ | ⟨okF, bd⟩
            · have e41 : MX3.1 16 1 = nI 41 := of_decide_eq_true okT
              have hpq3 : p3 < q3 := by
                rcases gd4.1.2.2.2.2.2 with ⟨_, _, a, _⟩ | ⟨z, _⟩ | ⟨z, _⟩ | ⟨z, _⟩ | ⟨_, z, _⟩
                · rw [a] at e41; exact absurd e41 (by decide)
                · exact z
                · exact z.1
                · exact z
                · omega
              refine Or.inl ⟨okT, MM4, p4, q4, 0, r + k, u3, D3, j + 2, by omega, eAll, fAll, gd6, ?_, fun i hi => by omega, fun v _ v1 v2 => by omega, fun i hi => ?_, by omega, F8, by omega, F10, by omega⟩
              · refine ES.fr ?_ o.1 o.2.1
                obtain ⟨c1, c2, c3, c4, c5, c6, c7, c8, c9, c10, c11, c12⟩ := es5
                exact ⟨(mf22 0 42 (by omega)).trans c1, c2, c3, c4, (mf22 7 w (by omega)).trans c5, (mf22 0 46 (by omega)).trans c6, (mf22 0 43 (by omega)).trans c7, by rw [hM22, uI_ne (by omega), uI_eq, Nat.add_zero], by rw [hM22, uI_eq]; rfl, c10, fun i hi => by rw [mf22 28 _ (by omega), mf22 29 _ (by omega)]; exact c11 i hi, fun i hi => by omega⟩
              · have g1 : ∀ a, a = 30 ∨ a = 31 → MM4.1 a i = MM.1 a i := fun a ha => by
                  rw [o.2.1.1 a i (by omega), mf22 a i (by omega), pf.1 a i (by omega) (by omega)]
                  have := F6 i (by omega)
                  rcases ha with rfl | rfl
                  · rw [this.1, vf _ i (by omega) (by omega), mf _ i (by omega) (by omega) (by omega)]
                  · rw [this.2, vf _ i (by omega) (by omega), mf _ i (by omega) (by omega) (by omega)]
                exact ⟨g1 30 (by omega), g1 31 (by omega)⟩
            · exact Or.inr ⟨okF, MM4, j + 3, by omega, fun N => by rw [show N + (j + 3) = (N + 1) + (j + 2) by omega, eAll, eZ N 0 bd], fAll, bd⟩
          · obtain ⟨h4, hc⟩ := F5 v hv.1 hv.2.1 (by omega)
            have hne := (hv.2.2.2.2.2.2.2.2.1 hv0).2.1
            obtain ⟨MX4, MM4, y1, y2, o⟩ := misplaced_c gd4
            have bd := out_bad o
            have hb := bC (by rw [hv.1, h4]) hc
            refine ⟨false, MX4, hX _ (by rw [if_neg hne, y1, lp_s]), (fXV.tr fx3).tr o.1.f, Or.inr ⟨rfl, MM4, j + 3, by omega, fun N => ?_, (fMV.tr F3).tr o.2.1.f, bd⟩⟩
            rw [show N + (j + 3) = (N + 2 + j) + 1 by omega, e1, F2 (N + 2), show N + 2 = (N + 1) + 1 from rfl, eB (N + 1) gd4.good es4.2.2.2.2.2.2.2.1 (by omega) (by omega) hb, y2]
            exact eZ N 1 bd
        · refine ⟨false, MX3, by rw [hx, ← hX1, s1, bo_s, x3, bp_s, if_neg Bool.false_ne_true], fXV.tr fx3, Or.inr ⟨rfl, MM3, j + 1, by omega, fun N => by rw [show N + (j + 1) = (N + j) + 1 by omega, e1, F2], fMV.tr F3, bd⟩⟩
  · exact wrong (xU_bad (Or.inl ⟨n40, lt⟩)) (by rw [e0, uM2_c s40 wh a1 a2 a5 a6 hu30, uM3_oth n8, bm])
