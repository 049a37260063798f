/-! ===== phase 2: the formula's worth ===== -/
theorem zLet_b {j : Nat} (h : j < 6) : 97 ≤ zLet j ∧ zLet j ≤ 122 := by
  rcases (by omega : j = 0 ∨ j = 1 ∨ j = 2 ∨ j = 3 ∨ j = 4 ∨ j = 5) with rfl | rfl | rfl | rfl | rfl | rfl <;> decide
theorem sgn_b {s : Nat} (hs : s ∈ [43, 45, 42, 47, 37, 60, 62, 61, 38, 124]) : s ≠ 33 ∧ s ≠ 126 ∧ s < 200 ∧ ¬ (97 ≤ s ∧ s ≤ 122) := by
  simp only [List.mem_cons, List.not_mem_nil, or_false] at hs
  rcases hs with rfl | rfl | rfl | rfl | rfl | rfl | rfl | rfl | rfl | rfl <;> decide
section EV
variable {MX MM : Mem} {lc F len b p : Nat} {D : Nat → Nat}
theorem ev_xhead {n i : Nat} {c : Int32} {M : Mem} (hL : M.1 32 2 = nI len) (hl : len ≤ 300) (hi : i < len) : X1_worth_L1 32 lc (n + 1) c (nI i) M =
    l2_ (α := Int32) (β := Mem) (
      if M.1 33 i = 20033 then
        l1_ (α := Int32) (
          if (X11_cell 34 (c - 1) M) = 0 then
            1
          else
          0) fun y13 =>
        lt_ (X11_put 34 (c - 1) y13 M) fun M14 =>
        (c, M14)
      else
      if M.1 33 i < 20000 then
        l1_ (α := Int32) (
          if M.1 33 i < 10000 then
            M.1 33 i
          else
          (X11_cell lc (M.1 33 i - 10000) M)) fun y9 =>
        lt_ (X11_put 34 c y9 M) fun M10 =>
        (c + 1, M10)
      else
      lt_ (X11_put 34 ((c + (-1)) - 1) (X1_joined (M.1 33 i - 20000) (X11_cell 34 ((c + (-1)) - 1) M) (X11_cell 34 (c + (-1)) M)) M) fun M11 =>
      (c + (-1), M11)) fun y15 M16 =>
    X1_worth_L1 32 lc n y15 (nI i + 1) M16 := by
  rw [X1_worth_L1, hL, if_neg (nI_ge hi (by omega)), if_neg (show ¬ (300 : Int32) ≤ nI i from nI_ge (b := 300) (by omega) (by omega)), gd_in (by omega) (by omega), nI_clamp (by omega), lt_e]
theorem ev_mhead {n i : Nat} {c : Int32} {M : Mem} (hb : M.1 0 41 = nI b) (b1 : b ≤ 1) (hT : M.1 22 b = nI (F + len)) (hF : F + len ≤ 1120) (hi : i < len) : X12_comes_L1 (n + 1) c (nI (F + i)) M =
    b2_ (α := Int32) (β := Mem) (
      if M.1 28 (F + i) = 126 then
        gd_ (inb (c - 1) (60) = true) (
        l1_ (α := Int32) (
          if (M.1 32 ((c - 1).toNatClampNeg)) = 0 then
            1
          else
          0) fun y18 =>
        lt_ (uI M 32 ((c - 1).toNatClampNeg) y18) fun M19 =>
        some (c, M19))
      else
      if (X12_isLetter (M.1 28 (F + i))) = true then
        bo_ (X12_asked (M.1 28 (F + i)) (M.1 29 (F + i)) M) fun v13 =>
        gd_ (inb c (60) = true) (
        lt_ (uI M 32 c.toNatClampNeg v13) fun M15 =>
        some (c + 1, M15))
      else
      gd_ (inb ((c + (-1)) - 1) (60) = true) (
      gd_ (inb (c + (-1)) (60) = true) (
      lt_ (uI M 32 (((c + (-1)) - 1).toNatClampNeg) (X12_two (M.1 28 (F + i)) (M.1 32 (((c + (-1)) - 1).toNatClampNeg)) (M.1 32 ((c + (-1)).toNatClampNeg)))) fun M11 =>
      some (c + (-1), M11)))) fun y20 M21 =>
    X12_comes_L1 n y20 (nI (F + i) + 1) M21 := by
  rw [X12_comes_L1, hb, gd_in (by omega) (by omega), nI_clamp (by omega), hT, if_neg (nI_ge (by omega) (by omega)), gd_in (by omega) (by omega), nI_clamp (by omega), lt_e, gd_in (by omega) (by omega)]
theorem ev_lock (hlc : lc = 37 ∨ lc = 44) (hL : MX.1 32 2 = nI len) (hl : len ≤ 300) (hF : F + len ≤ 1120) (hb : MM.1 0 41 = nI b) (b1 : b ≤ 1) (hT : MM.1 22 b = nI (F + len)) (hD0 : D 0 = 0) (hDl : 1 ≤ D len)
    (hC : ∀ i, i < len → PC (MX.1 33 i) (MM.1 28 (F + i)) (MM.1 29 (F + i)) (D i) (D (i + 1)))
    (hA : ∀ (j : Nat) (n : Int32) (M : Mem), j < 6 → Fr (fun a _ => a = 32) MM M → X12_asked (nI (zLet j)) n M = some (MX.1 lc j)) :
    ∃ MX' MM', X1_worth_L1 32 lc zFU 0 0 MX = some MX' ∧ X12_comes_L1 zFU 0 (nI F) MM = some MM' ∧ Fr (fun a _ => a = 34) MX MX' ∧ Fr (fun a _ => a = 32) MM MM' ∧ MX'.1 34 0 = MM'.1 32 0 := by
  have hB : ∀ i, i ≤ len → D i ≤ 32 := by
    intro i
    induction i with
    | zero => intro _; omega
    | succ i ih =>
      intro h
      have h1 := ih (by omega)
      rcases hC i (by omega) with ⟨_, _, _, q⟩ | ⟨s, _, _, _, _, q⟩ | ⟨j, _, _, _, _, q⟩ | ⟨v, _, _, _, _, _, q⟩ <;> omega
  have hz34 : zlen zTX 34 = 32 := zlX_34
  have hzl : zlen zTX lc = 6 := by rcases hlc with rfl | rfl <;> first | exact zlX_37 | exact zlX_44
  have key := two_zFU (σ := Int32 × Int32 × Mem) (σ' := Int32 × Int32 × Mem) (fun n s => X1_worth_L1 32 lc n s.1 s.2.1 s.2.2) (fun n s => X12_comes_L1 n s.1 s.2.1 s.2.2)
    (fun d s s' => ∃ i M1 M2, i + d = len ∧ s = (nI (D i), nI i, M1) ∧ s' = (nI (D i), nI (F + i), M2) ∧ Fr (fun a _ => a = 34) MX M1 ∧ Fr (fun a _ => a = 32) MM M2 ∧ ∀ j, j < D i → M1.1 34 j = M2.1 32 j)
    (fun MX' MM' => Fr (fun a _ => a = 34) MX MX' ∧ Fr (fun a _ => a = 32) MM MM' ∧ MX'.1 34 0 = MM'.1 32 0) ?_ len (0, 0, MX) (0, nI F, MM) (by omega) ⟨0, MX, MM, by omega, by rw [hD0]; rfl, by rw [hD0]; rfl, Fr.rf, Fr.rf, fun j hj => by omega⟩
  · obtain ⟨t, t', h1, h2, h3, h4, h5⟩ := key
    exact ⟨t, t', h1, h2, h3, h4, h5⟩
  · rintro n n' d s s' ⟨i, M1, M2, hd, rfl, rfl, f1, f2, hs⟩
    have g1 : M1.1 32 2 = nI len := (f1.2 32 2 (by omega)).trans hL
    have g2 : M2.1 0 41 = nI b := (f2.2 0 41 (by omega)).trans hb
    have g3 : M2.1 22 b = nI (F + len) := (f2.2 22 b (by omega)).trans hT
    by_cases hi : i = len
    · left
      refine ⟨M1, M2, ?_, ?_, f1, f2, hs 0 (by rw [hi]; omega)⟩
      · show X1_worth_L1 32 lc (n + 1) (nI (D i)) (nI i) M1 = some M1
        rw [X1_worth_L1, g1, if_pos (nI_le (by omega) (by omega))]
      · show X12_comes_L1 (n' + 1) (nI (D i)) (nI (F + i)) M2 = some M2
        rw [X12_comes_L1, g2, gd_in (by omega) (by omega), nI_clamp (by omega), g3, if_pos (nI_le (by omega) (by omega))]
    · right
      have hB1 := hB i (by omega)
      have k1 : M1.1 33 i = MX.1 33 i := f1.2 33 i (by omega)
      have k2 : M2.1 28 (F + i) = MM.1 28 (F + i) := f2.2 28 _ (by omega)
      have k3 : M2.1 29 (F + i) = MM.1 29 (F + i) := f2.2 29 _ (by omega)
      have hx := ev_xhead (lc := lc) (n := n) (c := nI (D i)) (M := M1) g1 hl (show i < len by omega)
      have hm := ev_mhead (n := n') (c := nI (D i)) (M := M2) g2 b1 g3 hF (show i < len by omega)
      rw [k1] at hx
      rw [k2, k3] at hm
      rcases hC i (by omega) with ⟨e1, e2, q1, q2⟩ | ⟨s, hs1, e1, e2, q1, q2⟩ | ⟨j, hj, e1, e2, q1, q2⟩ | ⟨v, hv, e1, e2, e3, q1, q2⟩
      · rw [e1, if_pos (show nI 20033 = 20033 from rfl), show nI (D i) - 1 = nI (D i - 1) from nI_sub (b := 1) q1, xc_in (by omega), l1_s, xp_in (by omega), lt_e, l2_s, show nI i + 1 = nI (i + 1) from nI_add i 1] at hx
        rw [e2, if_pos (show nI 126 = 126 from rfl), show nI (D i) - 1 = nI (D i - 1) from nI_sub (b := 1) q1, gd_in (by omega) (by omega), nI_clamp (by omega), l1_s, lt_e, b2_s, show nI (F + i) + 1 = nI (F + (i + 1)) from nI_add (F + i) 1] at hm
        refine ⟨d - 1, (nI (D i), nI (i + 1), uI M1 34 (D i - 1) (if M1.1 34 (D i - 1) = 0 then 1 else 0)), (nI (D i), nI (F + (i + 1)), uI M2 32 (D i - 1) (if M2.1 32 (D i - 1) = 0 then 1 else 0)), by omega, ⟨i + 1, uI M1 34 (D i - 1) (if M1.1 34 (D i - 1) = 0 then 1 else 0), uI M2 32 (D i - 1) (if M2.1 32 (D i - 1) = 0 then 1 else 0), by omega, by rw [q2], by rw [q2], f1.up _ rfl, f2.up _ rfl, fun j hj => ?_⟩, hx, hm⟩
        rw [uI_g, uI_g]
        rw [q2] at hj
        by_cases h : j = D i - 1
        · rw [if_pos (show 34 = 34 ∧ j = D i - 1 from ⟨rfl, h⟩), if_pos (show 32 = 32 ∧ j = D i - 1 from ⟨rfl, h⟩), hs _ (by omega)]
        · rw [if_neg (fun z => h z.2), if_neg (fun z => h z.2), hs _ hj]
      · obtain ⟨w1, w2, w3, w4⟩ := sgn_b hs1
        rw [e1, if_neg (show ¬ nI (20000 + s) = 20033 by simp (disch := omega) only [nlit, nI_eq]; omega), if_neg (show ¬ nI (20000 + s) < 20000 by simp (disch := omega) only [nlit, nI_ltI]; omega), show nI (20000 + s) - 20000 = nI s by rw [show (20000 : Int32) = nI 20000 from nlit 20000, nI_sub (by omega), Nat.add_sub_cancel_left],
          show nI (D i) + (-1) = nI (D i - 1) from nI_addm (b := 1) (by omega), show nI (D i - 1) - 1 = nI (D i - 2) from nI_sub (b := 1) (by omega), xc_in (by omega), xc_in (by omega), xp_in (by omega), lt_e, l2_s, show nI i + 1 = nI (i + 1) from nI_add i 1] at hx
        rw [e2, if_neg (show ¬ nI s = 126 by simp (disch := omega) only [nlit, nI_eq]; omega), if_neg (by rw [isLet_c (by omega)]; exact w4),
          show nI (D i) + (-1) = nI (D i - 1) from nI_addm (b := 1) (by omega), show nI (D i - 1) - 1 = nI (D i - 2) from nI_sub (b := 1) (by omega), gd_in (by omega) (by omega), gd_in (by omega) (by omega), nI_clamp (by omega), nI_clamp (by omega), lt_e, b2_s, show nI (F + i) + 1 = nI (F + (i + 1)) from nI_add (F + i) 1] at hm
        have hDi : D i - 1 = D (i + 1) := by omega
        refine ⟨d - 1, (nI (D i - 1), nI (i + 1), uI M1 34 (D i - 2) (X1_joined (nI s) (M1.1 34 (D i - 2)) (M1.1 34 (D i - 1)))), (nI (D i - 1), nI (F + (i + 1)), uI M2 32 (D i - 2) (X12_two (nI s) (M2.1 32 (D i - 2)) (M2.1 32 (D i - 1)))), by omega, ⟨i + 1, uI M1 34 (D i - 2) (X1_joined (nI s) (M1.1 34 (D i - 2)) (M1.1 34 (D i - 1))), uI M2 32 (D i - 2) (X12_two (nI s) (M2.1 32 (D i - 2)) (M2.1 32 (D i - 1))), by omega, by rw [← hDi], by rw [← hDi], f1.up _ rfl, f2.up _ rfl, fun j hj => ?_⟩, hx, hm⟩
        rw [uI_g, uI_g]
        by_cases h : j = D i - 2
        · rw [if_pos ⟨rfl, h⟩, if_pos ⟨rfl, h⟩, hs _ (by omega), hs _ (by omega), joined_two hs1]
        · rw [if_neg (fun z => h z.2), if_neg (fun z => h z.2), hs _ (by omega)]
      · obtain ⟨w1, w2⟩ := zLet_b hj
        rw [e1, if_neg (show ¬ nI (10000 + j) = 20033 by simp (disch := omega) only [nlit, nI_eq]; omega), if_pos (show nI (10000 + j) < 20000 by simp (disch := omega) only [nlit, nI_ltI]; omega), if_neg (show ¬ nI (10000 + j) < 10000 by simp (disch := omega) only [nlit, nI_ltI]; omega), show nI (10000 + j) - 10000 = nI j by rw [show (10000 : Int32) = nI 10000 from nlit 10000, nI_sub (by omega), Nat.add_sub_cancel_left],
          xc_in (by omega), l1_s, xp_in (by omega), lt_e, l2_s, show nI i + 1 = nI (i + 1) from nI_add i 1, show nI (D i) + 1 = nI (D i + 1) from nI_add (D i) 1] at hx
        rw [e2, if_neg (show ¬ nI (zLet j) = 126 by simp (disch := omega) only [nlit, nI_eq]; omega), if_pos (by rw [isLet_c (by omega)]; omega), hA j _ M2 hj f2, bo_s, gd_in (by omega) (by omega), nI_clamp (by omega), lt_e, b2_s, show nI (F + i) + 1 = nI (F + (i + 1)) from nI_add (F + i) 1, show nI (D i) + 1 = nI (D i + 1) from nI_add (D i) 1] at hm
        refine ⟨d - 1, (nI (D i + 1), nI (i + 1), uI M1 34 (D i) (M1.1 lc j)), (nI (D i + 1), nI (F + (i + 1)), uI M2 32 (D i) (MX.1 lc j)), by omega, ⟨i + 1, uI M1 34 (D i) (M1.1 lc j), uI M2 32 (D i) (MX.1 lc j), by omega, by rw [q1], by rw [q1], f1.up _ rfl, f2.up _ rfl, fun j' hj' => ?_⟩, hx, hm⟩
        rw [uI_g, uI_g]
        by_cases h : j' = D i
        · rw [if_pos ⟨rfl, h⟩, if_pos ⟨rfl, h⟩]
          exact f1.2 lc j (by omega)
        · rw [if_neg (fun z => h z.2), if_neg (fun z => h z.2), hs _ (by omega)]
      · rw [e1, if_neg (show ¬ nI v = 20033 by simp (disch := omega) only [nlit, nI_eq]; omega), if_pos (show nI v < 20000 by simp (disch := omega) only [nlit, nI_ltI]; omega), if_pos (show nI v < 10000 by simp (disch := omega) only [nlit, nI_ltI]; omega),
          l1_s, xp_in (by omega), lt_e, l2_s, show nI i + 1 = nI (i + 1) from nI_add i 1, show nI (D i) + 1 = nI (D i + 1) from nI_add (D i) 1] at hx
        rw [e2, if_neg (show ¬ nI 110 = 126 by decide), if_pos (by rw [isLet_c (by omega)]; omega), asked_n, e3, bo_s, gd_in (by omega) (by omega), nI_clamp (by omega), lt_e, b2_s, show nI (F + i) + 1 = nI (F + (i + 1)) from nI_add (F + i) 1, show nI (D i) + 1 = nI (D i + 1) from nI_add (D i) 1] at hm
        refine ⟨d - 1, (nI (D i + 1), nI (i + 1), uI M1 34 (D i) (nI v)), (nI (D i + 1), nI (F + (i + 1)), uI M2 32 (D i) (nI v)), by omega, ⟨i + 1, uI M1 34 (D i) (nI v), uI M2 32 (D i) (nI v), by omega, by rw [q1], by rw [q1], f1.up _ rfl, f2.up _ rfl, fun j' hj' => ?_⟩, hx, hm⟩
        rw [uI_g, uI_g]
        by_cases h : j' = D i
        · rw [if_pos ⟨rfl, h⟩, if_pos ⟨rfl, h⟩]
        · rw [if_neg (fun z => h z.2), if_neg (fun z => h z.2), hs _ (by omega)]
end EV
/-- a growth, cut -/
def gC (v : Int32) : Int32 := if v ≤ 20 then (if (-20) ≤ v then v else (-20)) else 20
theorem gC_x (v : Int32) : (if (-20) < (if v < 20 then v else 20) then (if v < 20 then v else 20) else (-20)) = gC v := by
  have h20 : (20 : Int32).toInt = 20 := by decide
  have h21 : (-20 : Int32).toInt = -20 := by decide
  unfold gC
  simp only [Int32.lt_iff_toInt_lt, Int32.le_iff_toInt_le, h20, h21]
  by_cases h1 : v.toInt < 20
  · rw [if_pos h1, if_pos (show v.toInt ≤ 20 by omega)]
    by_cases h2 : -20 < v.toInt
    · rw [if_pos h2, if_pos (show -20 ≤ v.toInt by omega)]
    · rw [if_neg h2]
      by_cases h3 : -20 ≤ v.toInt
      · rw [if_pos h3]
        apply Int32.toInt_inj.mp
        rw [h21]; omega
      · rw [if_neg h3]
  · rw [if_neg h1, h20, if_pos (show (-20 : Int) < 20 by decide)]
    by_cases h2 : v.toInt ≤ 20
    · rw [if_pos h2, if_pos (show -20 ≤ v.toInt by omega)]
      apply Int32.toInt_inj.mp
      rw [h20]; omega
    · rw [if_neg h2]
/-- growth of plot p on both sides -/
theorem grow_c {MX MM : Mem} {o a p b mn kd bn hr : Nat} (ho : o = 35 ∨ o = 42) (hz : zlen zTX a = 15) (ha : a ≠ 37 ∧ a ≠ 44) (hp : p < 5) (hn : NN MX a)
    (hM : RM MX.1 23 MM.1 b mn kd bn hr) (hb : MM.1 0 41 = nI b) (b1 : b ≤ 1)
    (hl : ∀ k, k < 3 → LF MX o a p k = if k < kd then MM.1 33 (20 + 3 * p + k) else 0) (hc : MX.1 (o + 1) (30 + p) = MM.1 33 (15 + p)) (hw : MX.1 (o + 1) 40 = MM.1 33 40) :
    ∃ v MX' MM', X9_growthWith o a (nI p) MX = some (v, MX') ∧ X12_growthOf (nI p) MM = some (v, MM') ∧ Fr (fun x _ => x = 34 ∨ x = 37 ∨ x = 44) MX MX' ∧ Fr (fun x i => x = 32 ∨ (x = 0 ∧ i = 47)) MM MM' := by
  obtain ⟨M1, e1, f1, l1, l3, l4, l5⟩ := gw_x ho hz ha hp hn
  obtain ⟨⟨m1, m2, m3, m4, m5⟩, ⟨m6, m7, m8, m9, m10, m11, m12, m13, m14⟩, m15, m16, m17, m18, m19, m20, m21, m22, m23, ⟨u, len, F, D, u1, u2, u3, u4, u5, u6, u7, u8, u9⟩⟩ := hM
  have hov : ∀ k, k < 3 → X12_overOf (nI p) (nI k) MM = some (LF MX o a p k) := fun k hk => by rw [overOf_c hb b1 m9 m2 hp hk, hl k hk]
  have hz6 : zlen zTX (o + 2) = 6 := by rcases ho with rfl | rfl <;> first | exact zlX_37 | exact zlX_44
  have hL1 : X12_growthOf_L1 (nI p) MM zFU 0 0 = some (LF MX o a p 0 + LF MX o a p 1 + LF MX o a p 2) := by
    obtain ⟨n, hn4⟩ := zFU_s 4 (by omega)
    rw [hn4, show n + 4 = n + 3 + 1 from rfl, X12_growthOf_L1, if_neg (by decide), show (0 : Int32) = nI 0 from rfl, hov 0 (by omega), bo_s, show n + 3 = n + 2 + 1 from rfl, X12_growthOf_L1, if_neg (by decide), show nI 0 + 1 = nI 1 from rfl, hov 1 (by omega), bo_s, show n + 2 = n + 1 + 1 from rfl, X12_growthOf_L1, if_neg (by decide), show nI 1 + 1 = nI 2 from rfl, hov 2 (by omega), bo_s, X12_growthOf_L1, if_pos (by decide), nI_0, Int32.zero_add]
  have hlen1 : M1.1 32 2 = nI len := (f1.2 32 2 (by omega)).trans u4
  rcases u8 with ⟨z1, z2⟩ | ⟨z1, z2, z3, z4, z5⟩
  · subst z2
    refine ⟨gC (LF MX o a p 0 + LF MX o a p 1 + LF MX o a p 2), M1, MM, ?_, ?_, f1.wk (fun x i h => by omega), Fr.rf⟩
    · rw [e1]
      unfold X1_worth
      rw [if_pos (by rw [hlen1]; rfl), bp_s, gC_x, show (0 : Int32) = nI 0 from rfl, show (1 : Int32) = nI 1 from rfl, show (2 : Int32) = nI 2 from rfl, xc_in (by omega), xc_in (by omega), xc_in (by omega), l1 0 (by omega), l1 1 (by omega), l1 2 (by omega)]
    · unfold X12_growthOf
      rw [hL1, b1_s, hb, gd_in (by omega) (by omega), nI_clamp (by omega), if_pos z1, b2_s]
      unfold gC
      split
      · split <;> rfl
      · rfl
  · have fM : Fr (fun x i => x = 32 ∨ (x = 0 ∧ i = 47)) MM (uI MM 0 47 (nI p)) := Fr.rf.up _ (Or.inr ⟨rfl, rfl⟩)
    obtain ⟨MX', MM', k1, k2, k3, k4, k5⟩ := ev_lock (MX := M1) (MM := uI MM 0 47 (nI p)) (lc := o + 2) (F := F) (len := len) (b := b) (D := D) (by omega) hlen1 u5 u6.1 hb b1 z4 u7 z5
      (fun i hi => by rw [f1.2 33 i (by omega)]; exact u9 i hi)
      (fun j n M hj fr => by
        have fr' : ∀ x i, x ≠ 32 → ¬ (x = 0 ∧ i = 47) → M.1 x i = MM.1 x i := fun x i h h' => (fr.2 x i h).trans (fM.2 x i (by omega))
        have hov' : ∀ k, k < 3 → X12_overOf (nI p) (nI k) M = some (M1.1 (o + 2) k) := fun k hk => by
          rw [overOf_c (b := b) (kd := kd) ((fr' 0 41 (by omega) (by omega)).trans hb) b1 ((fr' 3 b (by omega) (by omega)).trans m9) m2 hp hk, fr' 33 _ (by omega) (by omega), l1 k hk, hl k hk]
        exact asked_c (g := fun j => M1.1 (o + 2) j) hj ((fr.2 0 47 (by omega)).trans (uI_eq _ _ _ _)) hp (hov' 0 (by omega)) (hov' 1 (by omega)) (hov' 2 (by omega)) (by rw [fr' 33 _ (by omega) (by omega), ← hc, l3]) (by rw [fr' 33 _ (by omega) (by omega), ← hw, l4]) l5.symm)
    refine ⟨gC (MX'.1 34 0), MX', MM', ?_, ?_, (f1.wk (fun x i h => by omega)).tr (k3.wk (fun x i h => by omega)), fM.tr (k4.wk (fun x i h => by omega))⟩
    · rw [e1]
      unfold X1_worth
      rw [if_neg (by rw [hlen1, show (0 : Int32) = nI 0 from rfl, nI_eq (by omega) (by omega)]; omega), k1, b1_s, bp_s, gC_x, show (0 : Int32) = nI 0 from rfl, xc_in (by rw [show 32 + 2 = 34 from rfl, zlX_34]; omega)]
    · unfold X12_growthOf X12_comes
      rw [hL1, b1_s, hb, gd_in (by omega) (by omega), nI_clamp (by omega), if_neg (by rw [z1]; decide), lt_e]
      rw [show (uI MM 0 47 (nI p)).1 0 41 = nI b from hb, gd_in (by omega) (by omega), nI_clamp (by omega), lt_e, show (uI MM 0 47 (nI p)).1 21 b = nI F from z3, k2, b1_s, bp_s, b2_s, ← k5]
      unfold gC
      split
      · split <;> rfl
      · rfl
