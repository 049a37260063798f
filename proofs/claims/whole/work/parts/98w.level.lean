/-! ===== phase 2: the formula: a level of operators ===== -/
theorem FIN.ok {l s n w B L u d D0 p : Nat} {tx : Nat → Nat} {MX MM MX' : Mem} (h : FIN l s n tx w B L u d D0 p MX MM true MX') : FXf MX MX' ∧ ∃ MM' p' q' k r u' D' j, FINT l s n tx w B L u d D0 p MM MX' MM' p' q' k r u' D' j := by
  rcases h.2 with ⟨_, y⟩ | ⟨y, _⟩
  · exact ⟨h.1, y⟩
  · exact absurd y.symm Bool.false_ne_true
theorem FIN.no {l s n w B L u d D0 p : Nat} {tx : Nat → Nat} {MX MM MX' : Mem} (h : FIN l s n tx w B L u d D0 p MX MM false MX') : FXf MX MX' ∧ FINF n w p MM MX' := by
  rcases h.2 with ⟨y, _⟩ | ⟨_, y⟩
  · exact absurd y Bool.false_ne_true
  · exact ⟨h.1, y⟩
theorem PCs {s e : Nat} (hs : s ∈ [43, 45, 42, 47, 37, 60, 62, 61, 38, 124]) (he : 2 ≤ e) : PC (nI (20000 + s)) (nI s) 0 e (e - 1) := Or.inr (Or.inl ⟨s, hs, rfl, rfl, he, by omega⟩)
/-- one more operator and its second side: from what was read to what is read -/
theorem more_c {n w B L u d p l lE c s v sg D0 : Nat} {tx : Nat → Nat} {F : Mem → Option (Bool × Mem)} {MM0 MX MM : Mem} {p' q' k r u' : Nat} {D' : Nat → Nat} {j : Nat} (hlv : v ≤ 6 ∧ 1 ≤ v ∧ l ≤ v ∧ v < lE) (h54 : 5 ≤ lE → 4 ≤ v) (hc2 : c ≤ 5) (hs1 : 1 ≤ s) (hsl : s ≤ 8) {s2 : Nat} (hs2 : s ≤ s2 + s2 - 1 ∧ 1 ≤ s2) (hF : SPN lE (c + 1) (v + 1) s2 F d)
    (hT : j + p ≤ p' ∧ (∀ N, X12_e_L1 (N + j) 1 MM0 = X12_e_L1 N 0 MM) ∧ FMf w MM0 MM ∧ GD MX MM n tx p' q' ∧ ES w B k r u' d D' MX MM ∧ (∀ i, i < k → ∃ t, v ≤ t ∧ t ≤ 6 ∧ MM.1 30 (B + i) = nI t) ∧ (∀ i, i < B → MM.1 30 i = MM0.1 30 i ∧ MM.1 31 i = MM0.1 31 i) ∧ u < u' ∧ u' ≤ 30 ∧ r + k + s2 + 9 * u ≤ L + 9 * u' ∧ D' (r + k) = D0 + 1 ∧ B + k ≤ 48)
    (hv : RKA MX MM p' q' v) (hcm : v = 4 → X12_isCompared MM = some false) (hB1 : 1 ≤ B) (hbot : ∃ t, MM.1 30 (B - 1) = nI t ∧ t ≤ 8 ∧ (t < v ∨ 6 < t)) (hd : d ≤ 7) (hL : L ≤ 9 * u) (hD : D0 ≤ u) (hB : B ≤ c + 6 * d)
    (hsg : sg ∈ [43, 45, 42, 47, 37, 60, 62, 61, 38, 124]) (hsv : (v = 2 ∧ sg = 38) ∨ (v = 1 ∧ sg = 124) ∨ (4 ≤ v ∧ MX.1 16 1 = nI sg)) :
    ∃ MX1 ok MX2, X6_step MX = some MX1 ∧ F MX1 = some (ok, MX2) ∧ FXf MX (X1_write 13 (nI (20000 + sg)) MX2) ∧ ((ok = true ∧ ∃ MM' p2 q2 k2 r2 u2 D2 j2, p' < p2 ∧ NX (v + 1) MM' ∧ MM'.1 30 B = nI v ∧ (∀ i, 1 ≤ i → i < k2 → ∃ t, v + 1 ≤ t ∧ t ≤ 6 ∧ MM'.1 30 (B + i) = nI t) ∧ 1 ≤ k2 ∧ (j2 + p ≤ p2 ∧ (∀ N, X12_e_L1 (N + j2) 1 MM0 = X12_e_L1 N 0 MM') ∧ FMf w MM0 MM' ∧ GD (X1_write 13 (nI (20000 + sg)) MX2) MM' n tx p2 q2 ∧ ES w B k2 r2 u2 d D2 (X1_write 13 (nI (20000 + sg)) MX2) MM' ∧ (∀ i, i < k2 → ∃ t, v ≤ t ∧ t ≤ 6 ∧ MM'.1 30 (B + i) = nI t) ∧ (∀ i, i < B → MM'.1 30 i = MM0.1 30 i ∧ MM'.1 31 i = MM0.1 31 i) ∧ u < u2 ∧ u2 ≤ 30 ∧ r2 + k2 + s + 9 * u ≤ L + 9 * u2 ∧ D2 (r2 + k2) = D0 + 1 ∧ B + k2 ≤ 48)) ∨ (ok = false ∧ FINF n w p MM0 (X1_write 13 (nI (20000 + sg)) MX2))) := by
  obtain ⟨T1, T2, T3, T4, T5, T6, T7, T8, T9, T10, T11, T12⟩ := hT
  have hs256 : sg < 256 := by
    simp only [List.mem_cons, List.not_mem_nil, or_false] at hsg
    omega
  obtain ⟨MX1, MM1, p1, q1, s1, fx1, e1, fm1, gd1, hp1, es1, h30, h31, hlow⟩ := op_c (s := sg) T4 T5 hv hlv.2.1 hcm hB1 T12 (by omega) T6 hbot (by
    rcases hsv with z | z | z
    · exact Or.inl z
    · exact Or.inr (Or.inl z)
    · exact Or.inr (Or.inr ⟨z.1, z.2, hs256⟩))
  obtain ⟨ok, MX2, x2, F2⟩ := hF n tx w (B + 1) (r + k) u' D' p1 q1 MX1 MM1 ⟨gd1, es1, by omega, ⟨v, by rw [Nat.add_sub_cancel]; exact h30, by omega, Or.inl hlv.2.2.2⟩, hd, T9, by omega, by omega, by omega⟩ (fun z _ => ⟨v, h54 z, hlv.1, by rw [Nat.add_sub_cancel]; exact h30⟩)
  refine ⟨MX1, ok, MX2, s1, x2, ?_, ?_⟩
  · refine FXf.tr (fx1.f.tr F2.1) ?_
    unfold X1_write
    split
    · exact FXf.rf
    · split
      · exact FXf.rf
      · rw [lt_e, lt_e]; exact FXf.rf.w _ _ _
  · cases ok with
    | true =>
      obtain ⟨f2, MM2, p2, q2, k2, r2, u2, D2, j2, G1, G2, G3, G4, G5, G6, G7, G8, G9, G10, G11, G12, G13⟩ := F2.ok
      have hle2 := G4.1.2.2.2.2.2.le
      have hw := write_c (M := MX2) (L := r2 + k2) (nI (20000 + sg)) G5.2.2.1 (by omega)
      have m30 : MM2.1 30 B = nI v := by rw [(G8 B (by omega)).1, h30]
      have m31 : MM2.1 31 B = nI sg := by rw [(G8 B (by omega)).2, h31]
      have v3 : v ≠ 3 := hv.2.2.1
      have es2 := ret_c (d := d) (x := nI (20000 + sg)) (e := D2 (r2 + k2) - 1) G5 (by omega) (by rw [m30, if_neg (show ¬ nI v = 3 from fun y => v3 ((nI_eq (b := 3) (by omega) (by omega)).mp y)), Nat.add_zero]) (by rw [m31]; exact PCs hsg (by omega))
      rw [← hw] at es2
      refine Or.inl ⟨rfl, MM2, p2, q2, k2 + 1, r2, u2, _, j + 1 + j2, by omega, G7, m30, fun i i1 i2 => ?_, by omega, by omega, fun N => ?_, (T3.tr fm1).tr G3, ?_, es2, fun i hi => ?_, fun i hi => ?_, by omega, G10, by omega, ?_, by omega⟩
      · have := G6 (i - 1) (by omega)
        rw [show B + 1 + (i - 1) = B + i by omega] at this
        exact this
      · rw [show N + (j + 1 + j2) = (N + j2 + 1) + j by omega, T2, e1, G2]
      · rw [hw]; exact G4
      · by_cases z : i = 0
        · rw [z]; exact ⟨v, by omega, hlv.1, m30⟩
        · obtain ⟨t, t1, t2, t3⟩ := G6 (i - 1) (by omega)
          rw [show B + 1 + (i - 1) = B + i by omega] at t3
          exact ⟨t, by omega, t2, t3⟩
      · rw [(G8 i (by omega)).1, (G8 i (by omega)).2, (hlow i hi).1, (hlow i hi).2]; exact T7 i hi
      · show (if r2 + (k2 + 1) ≤ r2 + k2 then D2 (r2 + (k2 + 1)) else D2 (r2 + k2) - 1) = D0 + 1
        rw [if_neg (by omega)]
        omega
    | false =>
      obtain ⟨f2, MM2, j2, G1, G2, G3, bd⟩ := F2.no
      refine Or.inr ⟨rfl, MM2, j + 1 + j2, by omega, fun N => ?_, (T3.tr fm1).tr G3, ?_⟩
      · rw [show N + (j + 1 + j2) = (N + j2 + 1) + j by omega, T2, e1, G2]
      · have e : ∀ i, (X1_write 13 (nI (20000 + sg)) MX2).1 16 i = MX2.1 16 i := fun i => by
          unfold X1_write
          split
          · rfl
          · split
            · rfl
            · rw [lt_e, lt_e]; rfl
        exact bd.fr (e 5) (e 6) rfl rfl rfl rfl
theorem b2iT : b2i true = 1 := rfl
theorem b2iF : b2i false = 0 := rfl
/-- a level that repeats: operands of the next level, an operator of rank l between them -/
theorem lvl_c {l lE c s d : Nat} {F : Mem → Option (Bool × Mem)} {G : Nat → Int32 → Int32 → Mem → Option (Int32 × Mem)} {op : Mem → Option Bool} {cd : Mem → Int32} (hl : (l = 1 ∨ l = 2 ∨ l = 5 ∨ l = 6) ∧ l < lE) (h5 : 5 ≤ lE → 5 ≤ l) (hc5 : c ≤ 5) (hs : 1 ≤ s ∧ s ≤ 8)
    (hF : SPN lE (c + 1) (l + 1) s F d) (g0 : ∀ N c3 M, G (N + 1) 0 c3 M = some (0, M)) (g1 : ∀ N c3 M, op M = some false → G (N + 1) 1 c3 M = some (1, M))
    (g2 : ∀ N k M, op M = some true → k < 1600 → G (N + 1) 1 (nI k) M = bo_ (X6_step M) fun M7 => bp_ (F M7) fun b8 M9 => G N (b2i b8) (nI (k + 1)) (X1_write 13 (cd M) M9))
    (hop : ∀ MX MM p q v, RKA MX MM p q v → op MX = some (decide (v = l)))
    (hcd : ∀ MX MM p q, RKA MX MM p q l → ∃ sg, cd MX = nI (20000 + sg) ∧ sg ∈ [43, 45, 42, 47, 37, 60, 62, 61, 38, 124] ∧ ((l = 2 ∧ sg = 38) ∨ (l = 1 ∧ sg = 124) ∨ (4 ≤ l ∧ MX.1 16 1 = nI sg))) :
    SPN l c l s (fun M => bp_ (F M) fun b1 M2 => b2_ (α := Int32) (β := Mem) (G zFU (b2i b1) 0 M2) fun e M12 => gd_ (e = 0 ∨ e = 1) (some (decide (e = 1), M12))) d := by
  intro n tx w B L u D p q MX MM h hN
  obtain ⟨gd, es, hB1, ⟨t, ht, ht8, htl⟩, hd, hu30, hL, hDL, hB⟩ := id h
  obtain ⟨ok, MX1, x1, F1⟩ := hF n tx w B L u D p q MX MM ⟨gd, es, hB1, ⟨t, ht, ht8, by omega⟩, hd, hu30, hL, hDL, by omega⟩ (fun z => hN (h5 z))
  have hz := zFU_ge
  have loop : ∀ m N c3 MXc MMc p' q' k r u' D' j, n - p' ≤ m → m < N → c3 + p ≤ p' → FXf MX MXc → NX (l + 1) MMc →
      (j + p ≤ p' ∧ (∀ N, X12_e_L1 (N + j) 1 MM = X12_e_L1 N 0 MMc) ∧ FMf w MM MMc ∧ GD MXc MMc n tx p' q' ∧ ES w B k r u' d D' MXc MMc ∧ (∀ i, i < k → ∃ t, l ≤ t ∧ t ≤ 6 ∧ MMc.1 30 (B + i) = nI t) ∧ (∀ i, i < B → MMc.1 30 i = MM.1 30 i ∧ MMc.1 31 i = MM.1 31 i) ∧ u < u' ∧ u' ≤ 30 ∧ r + k + s + 9 * u ≤ L + 9 * u' ∧ D' (r + k) = D L + 1 ∧ B + k ≤ 48) →
      ∃ ok MX', G N 1 (nI c3) MXc = some (b2i ok, MX') ∧ FIN l s n tx w B L u d (D L) p MX MM ok MX' := by
    intro m
    induction m with
    | zero =>
      intro N c3 MXc MMc p' q' k r u' D' j hm hN' hc3 fx nx hT
      obtain ⟨N, rfl⟩ : ∃ N', N = N' + 1 := ⟨N - 1, by omega⟩
      have gdc := hT.2.2.2.1
      obtain ⟨v, hv⟩ := rank_c gdc.1
      have hle := gdc.1.2.2.2.2.2.le
      have hv0 : v = 0 := by
        refine Classical.byContradiction fun y => ?_
        have := (hv.2.2.2.2.2.2.2.2.1 y).1
        omega
      have hno : op MXc = some false := by rw [hop MXc MMc p' q' v hv, decide_eq_false (by omega)]
      refine ⟨true, MXc, g1 N _ MXc hno, fx, Or.inl ⟨rfl, MMc, p', q', k, r, u', D', j, hT.1, hT.2.1, hT.2.2.1, gdc, hT.2.2.2.2.1, hT.2.2.2.2.2.1, fun v' y1 y2 y3 => ?_, hT.2.2.2.2.2.2⟩⟩
      have e := Option.some.inj (y1.symm.trans hv.1)
      have := (nI_eq (a := v') (b := v) (by omega) (by omega)).mp e
      omega
    | succ m ih =>
      intro N c3 MXc MMc p' q' k r u' D' j hm hN' hc3 fx nx hT
      obtain ⟨N, rfl⟩ : ∃ N', N = N' + 1 := ⟨N - 1, by omega⟩
      have gdc := hT.2.2.2.1
      obtain ⟨v, hv⟩ := rank_c gdc.1
      have hle := gdc.1.2.2.2.2.2.le
      have h1600 := gdc.1.2.2.2.2.1.1
      by_cases hvl : v = l
      · have hyes : op MXc = some true := by rw [hop MXc MMc p' q' v hv, decide_eq_true hvl]
        have hpq := (hv.2.2.2.2.2.2.2.2.1 (by omega)).1
        rw [hvl] at hv
        obtain ⟨sg, k1, k2, k3⟩ := hcd MXc MMc p' q' hv
        obtain ⟨MXd, ok2, MX2, s1, x2, fx2, R⟩ := more_c (c := c) (l := l) (lE := lE) (v := l) (s := s) (s2 := s) (D0 := D L) ⟨by omega, by omega, by omega, hl.2⟩ (fun z => by have := h5 z; omega) hc5 hs.1 hs.2 ⟨by omega, hs.1⟩ hF hT hv (fun y => by omega) hB1 ⟨t, by rw [(hT.2.2.2.2.2.2.1 (B - 1) (by omega)).1]; exact ht, ht8, htl⟩ hd hL hDL hB k2 k3
        rw [g2 N c3 MXc hyes (by omega), s1, bo_s, x2, bp_s, k1]
        rcases R with ⟨rfl, MM2, p2, q2, k2', r2, u2, D2, j2, hp2, nx2, m30, mr, hk1, hT2⟩ | ⟨rfl, hF2⟩
        · exact ih N (c3 + 1) _ MM2 p2 q2 k2' r2 u2 D2 j2 (by omega) (by omega) (by omega) (fx.tr fx2) nx2 hT2
        · obtain ⟨N, rfl⟩ : ∃ N', N = N' + 1 := ⟨N - 1, by omega⟩
          exact ⟨false, _, by rw [b2iF, g0], fx.tr fx2, Or.inr ⟨rfl, hF2⟩⟩
      · have hno : op MXc = some false := by rw [hop MXc MMc p' q' v hv, decide_eq_false hvl]
        refine ⟨true, MXc, g1 N _ MXc hno, fx, Or.inl ⟨rfl, MMc, p', q', k, r, u', D', j, hT.1, hT.2.1, hT.2.2.1, gdc, hT.2.2.2.2.1, hT.2.2.2.2.2.1, fun v' y1 y2 y3 => ?_, hT.2.2.2.2.2.2⟩⟩
        have e := Option.some.inj (y1.symm.trans hv.1)
        have e' := (nI_eq (a := v') (b := v) (by omega) (by have := hv.2.1; omega)).mp e
        exact nx v' y1 y2 (by omega)
  cases ok with
  | true =>
    obtain ⟨f1, MM1, p1, q1, k, r, u1, D1, j, G1, G2, G3, G4, G5, G6, G7, G8, G9, G10, G11, G12, G13⟩ := F1.ok
    obtain ⟨ok, MX', e, r⟩ := loop (n - p1) zFU 0 MX1 MM1 p1 q1 k r u1 D1 j (by omega) (by have := G4.1.2.2.2.2.1.1; omega) (by omega) f1 G7 ⟨G1, G2, G3, G4, G5, fun i hi => by
      obtain ⟨t, t1, t2, t3⟩ := G6 i hi
      exact ⟨t, by omega, t2, t3⟩, G8, G9, G10, G11, G12, G13⟩
    refine ⟨ok, MX', ?_, r⟩
    show bp_ (F MX) _ = _
    rw [x1, bp_s, b2iT, show G zFU 1 0 MX1 = _ from e, b2_s]
    cases ok <;> rfl
  | false =>
    obtain ⟨f1, r⟩ := F1.no
    refine ⟨false, MX1, ?_, f1, Or.inr ⟨rfl, r⟩⟩
    obtain ⟨N, hN2⟩ := zFU_s 1 (by omega)
    show bp_ (F MX) _ = _
    rw [x1, bp_s, b2iF, hN2, g0, b2_s]
    rfl
