/-! ===== phase 2: what lies there; best, good, leaks ===== -/
def SHx (a i : Nat) : Prop := (a = 51 ∧ i = 1) ∨ a = 52
theorem xlay_c {M : Mem} {m kd c0 : Nat} (hm : m < 5) (hkd : kd ≤ 3) (hc : c0 + kd ≤ 6) (h0 : M.1 51 1 = nI c0) : ∃ M', X7_layRow 46 (nI m) (nI kd) M = some M' ∧ Fr SHx M M' ∧ M'.1 51 1 = nI (c0 + kd) ∧ (∀ k, k < kd → M'.1 52 (c0 + k) = M.1 46 (3 * m + k)) ∧ ∀ i, i < c0 → M'.1 52 i = M.1 52 i := by
  have hz : zlen zTX 46 = 15 := zlX_46
  have key := up_zFU (σ := Int32 × Mem) (fun n s => X7_layRow_L1 46 (nI m) (nI kd) n s.1 s.2) (fun i s => ∃ M1, s = (nI i, M1) ∧ Fr SHx M M1 ∧ M1.1 51 1 = nI (c0 + i) ∧ (∀ k, k < i → M1.1 52 (c0 + k) = M.1 46 (3 * m + k)) ∧ ∀ i, i < c0 → M1.1 52 i = M.1 52 i) (fun M1 => Fr SHx M M1 ∧ M1.1 51 1 = nI (c0 + kd) ∧ (∀ k, k < kd → M1.1 52 (c0 + k) = M.1 46 (3 * m + k)) ∧ ∀ i, i < c0 → M1.1 52 i = M.1 52 i) kd (by omega) ?_ ?_ (0, M) 0 (by omega) ⟨M, rfl, Fr.rf, h0, fun k hk => by omega, fun _ _ => rfl⟩
  · obtain ⟨t, e, q⟩ := key
    exact ⟨t, by unfold X7_layRow; exact (congrArg (fun x => b1_ x fun M3 => some M3) e), q⟩
  · rintro n s ⟨M1, rfl, q⟩
    exact ⟨M1, by show X7_layRow_L1 46 (nI m) (nI kd) (n + 1) (nI kd) M1 = some M1; rw [X7_layRow_L1, if_pos (nI_le (by omega) (by omega))], q⟩
  · rintro n i s hi ⟨M1, rfl, f, q1, q2, q3⟩
    left
    refine ⟨(nI (i + 1), uI (uI M1 52 (c0 + i) (M.1 46 (3 * m + i))) 51 1 (nI (c0 + i + 1))), ⟨_, rfl, (f.up _ (Or.inr rfl)).up _ (Or.inl ⟨rfl, rfl⟩), uI_eq _ _ _ _, fun k hk => ?_, fun j hj => ?_⟩, ?_⟩
    · rw [uI_ne (by omega)]
      by_cases h : k = i
      · rw [h, uI_eq]
      · rw [uI_ne (by omega), q2 k (by omega)]
    · rw [uI_ne (by omega), uI_ne (by omega), q3 j hj]
    · show X7_layRow_L1 46 (nI m) (nI kd) (n + 1) (nI i) M1 = X7_layRow_L1 46 (nI m) (nI kd) n (nI (i + 1)) (uI (uI M1 52 (c0 + i) (M.1 46 (3 * m + i))) 51 1 (nI (c0 + i + 1)))
      have e : X7_lay (X11_cell 46 (nI m * 3 + nI i) M1) M1 = uI (uI M1 52 (c0 + i) (M.1 46 (3 * m + i))) 51 1 (nI (c0 + i + 1)) := by
        unfold X7_lay
        rw [q1, if_neg (nI_pos (by omega)), if_neg (show ¬ (6 : Int32) ≤ nI (c0 + i) from nI_ge (b := 6) (by omega) (by omega)), nI_clamp (by omega), show nI m * 3 = nI (3 * m) by rw [show nI m * 3 = nI (m * 3) from nI_mul m 3, Nat.mul_comm], nI_add, xc_in (by omega), f.2 46 _ (by unfold SHx; omega), lt_e, uI_ne (by omega), q1, lt_e, show nI (c0 + i) + 1 = nI (c0 + i + 1) from nI_add _ 1]
      rw [X7_layRow_L1, if_neg (nI_ge hi (by omega)), e, lt_e, show nI i + 1 = nI (i + 1) from nI_add i 1]
theorem mshow_c {M : Mem} {a b kd c0 : Nat} (hb : M.1 0 41 = nI b) (b1 : b ≤ 1) (h3 : M.1 3 b = nI kd) (hkd : kd ≤ 3) (hz : zlen zTM a = 3) (ha : a ≠ 37) (hc : c0 + kd ≤ 8) : ∃ M', X12_showRow a (nI c0) M = some M' ∧ Fr (fun a _ => a = 37) M M' ∧ (∀ k, k < kd → M'.1 37 (c0 + k) = M.1 a k) ∧ ∀ i, i < c0 → M'.1 37 i = M.1 37 i := by
  have key := up_zFU (σ := Int32 × Mem) (fun n s => X12_showRow_L1 a (nI c0) n s.1 s.2) (fun i s => ∃ M1, s = (nI i, M1) ∧ Fr (fun a _ => a = 37) M M1 ∧ (∀ k, k < i → M1.1 37 (c0 + k) = M.1 a k) ∧ ∀ i, i < c0 → M1.1 37 i = M.1 37 i) (fun M1 => Fr (fun a _ => a = 37) M M1 ∧ (∀ k, k < kd → M1.1 37 (c0 + k) = M.1 a k) ∧ ∀ i, i < c0 → M1.1 37 i = M.1 37 i) kd (by omega) ?_ ?_ (0, M) 0 (by omega) ⟨M, rfl, Fr.rf, fun k hk => by omega, fun _ _ => rfl⟩
  · obtain ⟨t, e, q⟩ := key
    exact ⟨t, by unfold X12_showRow; exact (congrArg (fun x => b1_ x fun M3 => some M3) e), q⟩
  · rintro n s ⟨M1, rfl, f, q⟩
    exact ⟨M1, by show X12_showRow_L1 a (nI c0) (n + 1) (nI kd) M1 = some M1; rw [X12_showRow_L1, f.2 0 41 (by omega), hb, gd_in (by omega) (by omega), nI_clamp (by omega), f.2 3 b (by omega), h3, if_pos (nI_le (by omega) (by omega))], f, q⟩
  · rintro n i s hi ⟨M1, rfl, f, q2, q3⟩
    left
    refine ⟨(nI (i + 1), uI M1 37 (c0 + i) (M.1 a i)), ⟨_, rfl, f.up _ rfl, fun k hk => ?_, fun j hj => ?_⟩, ?_⟩
    · by_cases h : k = i
      · rw [h, uI_eq]
      · rw [uI_ne (by omega), q2 k (by omega)]
    · rw [uI_ne (by omega), q3 j hj]
    · show X12_showRow_L1 a (nI c0) (n + 1) (nI i) M1 = X12_showRow_L1 a (nI c0) n (nI (i + 1)) (uI M1 37 (c0 + i) (M.1 a i))
      rw [X12_showRow_L1, f.2 0 41 (by omega), hb, gd_in (by omega) (by omega), nI_clamp (by omega), f.2 3 b (by omega), h3, if_neg (nI_ge hi (by omega)), gd_in (by omega) (by omega), nI_add, gd_in (by omega) (by omega), nI_clamp (by omega), nI_clamp (by omega), f.2 a i (by omega), lt_e, show nI i + 1 = nI (i + 1) from nI_add i 1]
/-- scratch, and what lies there -/
def SXh (a i : Nat) : Prop := SX a i ∨ SHx a i
def SMh (a i : Nat) : Prop := SM a i ∨ (a = 0 ∧ i = 55) ∨ a = 37
theorem RP.frH {MX MX' MM MM' : Mem} {b mn kd bn hr : Nat} (h : RP MX.1 MM.1 b mn kd bn hr) (hX : Fr SXh MX MX') (hM : Fr SMh MM MM') (hH : RH MX'.1 MM'.1) : RP MX'.1 MM'.1 b mn kd bn hr := by
  obtain ⟨h1, h2, h3, h4, h5, h6, h7, h8⟩ := h
  have kX := hX.2
  have kM := hM.2
  refine ⟨h1.cg (fun a i _ _ => kX a i (by unfold SXh SX SHx; omega)) (fun a i _ _ => kM a i (by unfold SMh SM; omega)), h2.cg (fun j _ => kX 36 j (by unfold SXh SX SHx; omega)) (fun j _ => kM 33 j (by unfold SMh SM; omega)),
    h3.cg (fun a i _ => kX a i (by unfold SXh SX SHx; omega)) (kM _ _ (by unfold SMh SM; omega)) (kM _ _ (by unfold SMh SM; omega)) (fun i => kM _ _ (by unfold SMh SM; omega)),
    h4.cg (fun a i _ => kX a i (by unfold SXh SX SHx; omega)) (fun a i _ => kM a i (by unfold SMh SM; omega)),
    hH,
    h6.cg (kX _ _ (by unfold SXh SX SHx; omega)) (kX _ _ (by unfold SXh SX SHx; omega)) (fun a i _ _ => kX _ _ (by unfold SXh SX SHx; omega)) (kM _ _ (by unfold SMh SM; omega)) (kM _ _ (by unfold SMh SM; omega)) (fun a i _ _ => kM _ _ (by unfold SMh SM; omega)),
    h7.cg (kX _ _ (by unfold SXh SX SHx; omega)) (fun i => kX _ _ (by unfold SXh SX SHx; omega)) (kM _ _ (by unfold SMh SM; omega)) (fun i => kM _ _ (by unfold SMh SM; omega)),
    h8.cg (kX _ _ (by unfold SXh SX SHx; omega)) (kX _ _ (by unfold SXh SX SHx; omega)) (fun i => kX _ _ (by unfold SXh SX SHx; omega)) (fun i => kX _ _ (by unfold SXh SX SHx; omega)) (kM _ _ (by unfold SMh SM; omega)) (kM _ _ (by unfold SMh SM; omega)) (kM _ _ (by unfold SMh SM; omega))⟩
theorem SXs_X {m a i : Nat} (h : SXs m a i) : SX a i := by unfold SXs SXl SXg SBx S46 at h; unfold SX; omega
/-- the reference's scratch, once what is laid over the plots is as it was -/
theorem SMs_M {mn : Nat} {MM MM' : Mem} (f : Fr (SMs mn) MM MM') (h : ∀ i, MM'.1 33 i = MM.1 33 i) : Fr SM MM MM' := f.less fun a i n q => by
  by_cases z : a = 33
  · rw [z]; exact h i
  · exfalso
    unfold SMs SMl SMg SBm S35 SO at q
    unfold SM at n
    omega
/-- the best row of a man, from what is now: both sides -/
theorem find_c {MX MM : Mem} {b mn kd bn hr m aim : Nat} (h : RP MX.1 MM.1 b mn kd bn hr) (hm : m < mn) (haim : aim = 0 ∨ aim = 1) : ∃ v M1 MX' MM', ∃ w : Nat → Nat, X5_clearRows MX = some M1 ∧ X5_seek 35 (nI m) (nI aim) 0 M1 = some (v, MX') ∧ X12_layBest (nI m) (nI aim) MM = some MM' ∧ Fr SX MX MX' ∧ Fr SM MM MM' ∧
      (∀ p k, p < 5 → k < 3 → MX'.1 46 (3 * p + k) = if p = m then nI (w k) else 0) ∧ (∀ k, k < 3 → MM'.1 36 k = nI (w k)) ∧ MM'.1 0 57 = v ∧ MM'.1 0 56 = nI (w 0 + w 1 + w 2) ∧ w 0 + w 1 + w 2 ≤ 8 ∧ (∀ k, k < 3 → kd ≤ k → w k = 0) := by
  obtain ⟨hM, hS, _, _, _, _, _, hO⟩ := id h
  obtain ⟨M1, e1, f1, z1⟩ := clearRows_c (M := MX)
  have fX1 : Fr SX MX M1 := f1.wk (fun a i q => by unfold SX; omega)
  have h1 := h.fr fX1 (Fr.rf (M := MM))
  obtain ⟨hM1, hS1, _, _, _, _, _, hO1⟩ := id h1
  obtain ⟨l, hh, sp, hK, hlp, hspx⟩ := RS.sk (o := 35) hS1 (Or.inl rfl) hM1 hO1.2.2.2.1 hO1.2.2.1 hm
  obtain ⟨v, MX', MM', w, q1, q2, q3, q4, q5, q6, q7, q8, q9, q10, q11, q12⟩ := seek_c hK haim hlp hspx (fun p k hp hk _ => z1 _ (by omega)) (RS.ov (o := 35) (b := b) hS1 hM1.1.1)
  refine ⟨v, M1, MX', MM', w, e1, q1, q2, fX1.tr (q3.wk (fun a i => SXs_X)), SMs_M q4 q6, q7, q8, q9, q10, q11, fun k hk hkd => ?_⟩
  have := q12 k hk
  have := (hK.2.2.2.2.2.1 k hk).2 hkd
  omega
theorem shown {MX MM : Mem} {b mn kd bn hr : Nat} (h : RP MX.1 MM.1 b mn kd bn hr) : RP (uI MX 51 1 0).1 (uI MM 0 55 0).1 b mn kd bn hr :=
  h.frH (Fr.rf.up _ (Or.inr (Or.inl ⟨rfl, rfl⟩))) (Fr.rf.up _ (Or.inr (Or.inl ⟨rfl, rfl⟩))) ⟨0, by omega, rfl, rfl, fun i hi => by omega⟩
theorem best_good {a1 a2 : Int32} {aim : Nat} {f g : Mem → Option (Int32 × Mem)} (haim : aim = 0 ∨ aim = 1)
    (hf : ∀ MX, f MX = if (X3_hasMan 23 a1 (uI MX 51 1 0)) = true then
        if a2 < 0 then some ((-1000000), uI MX 51 1 0) else
        if a2 ≤ 1 then
          bo_ (X5_clearRows (uI MX 51 1 0)) fun M1 => bp_ (X5_seek 35 a1 (nI aim) 0 M1) fun v5 M6 =>
          bo_ (X7_layRow 46 a1 (M6.1 23 1) M6) fun M7 =>
          if a2 = 0 then some (v5, M7) else
          bo_ (X5_hoursOf a1 M7) fun v9 =>
          some (v9, M7)
        else some ((-1000000), uI MX 51 1 0)
      else some ((-1000000), uI MX 51 1 0))
    (hg : ∀ MM, g MM = bo_ (X12_isMan a1 (uI MM 0 55 0)) fun b2 =>
      if b2 = true then
        if (X12_isIn a2 0 1) = true then
          bo_ (X12_layBest a1 (nI aim) (uI MM 0 55 0)) fun M5 =>
          bp_ (X12_show a2 M5) fun v6 M7 =>
          some (v6, M7)
        else some ((-1000000), uI MM 0 55 0)
      else some ((-1000000), uI MM 0 55 0)) (MX MM : Mem) (hR : RR MX MM) : ∃ v MX' MM', f MX = some (v, MX') ∧ g MM = some (v, MM') ∧ RR MX' MM' := by
  obtain ⟨b, mn, kd, bn, hr, h⟩ := hR
  have h0 := shown h
  rw [hf, hg]
  have h51 : (uI MX 51 1 0).1 51 1 = nI 0 := rfl
  generalize uI MX 51 1 0 = MX0 at h0 h51 ⊢
  generalize uI MM 0 55 0 = MM0 at h0 ⊢
  have stay : ∃ v MX' MM', (some ((-1000000 : Int32), MX0) : Option (Int32 × Mem)) = some (v, MX') ∧ (some ((-1000000 : Int32), MM0) : Option (Int32 × Mem)) = some (v, MM') ∧ RR MX' MM' := ⟨_, _, _, rfl, rfl, b, mn, kd, bn, hr, h0⟩
  rcases man_c h0 a1 with ⟨m, hm, rfl, e1, e2⟩ | ⟨e1, e2⟩
  · rw [e1, e2, if_pos rfl, bo_s, if_pos rfl]
    by_cases c1 : a2 < 0
    · rw [if_pos c1, isIn_neg c1, if_neg (by decide)]
      exact stay
    · rw [if_neg c1]
      obtain ⟨j, hj, rfl⟩ := nI_of c1
      rw [show X12_isIn (nI j) 0 1 = decide (j ≤ 1) from isIn_le (n := 1) hj (by omega)]
      by_cases c2 : j ≤ 1
      · obtain ⟨v, M1, MX', MM', w, q1, q2, q3, q4, q5, q6, q7, q8, q9, q10, q11⟩ := find_c h0 hm haim
        have h1 := h0.fr q4 q5
        obtain ⟨c3, ha1, ha2, a3, a4, a5, c4, b1, b2, b3, b4, b5, b6, b7, b8, b9⟩ := h1.k
        have hrow : ∀ k, k < 3 → MX'.1 46 (3 * m + k) = nI (w k) := fun k hk => by rw [q6 m k (by omega) hk, if_pos rfl]
        -- the class lays the row
        obtain ⟨S1, s1, s2, s3, s4, s5⟩ := xlay_c (M := MX') (m := m) (c0 := 0) (by omega) ha2 (by omega) ((q4.2 51 1 (by unfold SX; omega)).trans h51)
        obtain ⟨T1, t1, t2, t3, t4⟩ := mshow_c (M := MM') (a := 36) (c0 := 0) c4 c3 b4 ha2 zlM_36 (by omega) (by omega)
        have hT41 : T1.1 0 41 = nI b := (t2.2 0 41 (by omega)).trans c4
        have hT3 : T1.1 3 b = nI kd := (t2.2 3 b (by omega)).trans b4
        have hfin : RP S1.1 (uI T1 0 55 (nI kd)).1 b mn kd bn hr := h0.frH ((q4.wk (fun a i z => Or.inl z)).tr (s2.wk (fun a i z => Or.inr z))) (((q5.wk (fun a i z => Or.inl z)).tr (t2.wk (fun a i z => Or.inr (Or.inr z)))).up _ (Or.inr (Or.inl ⟨rfl, rfl⟩))) ⟨kd, by omega, by rw [s3, Nat.zero_add], rfl, fun i hi => by
          rw [uI_ne (by omega)]
          have x1 := s4 i hi
          have x2 := t3 i hi
          rw [Nat.zero_add] at x1 x2
          rw [x1, x2, hrow i (by omega), q7 i (by omega)]⟩
        have hS : ∀ k, k < 3 → S1.1 46 (3 * m + k) = nI (w k) := fun k hk => by rw [s2.2 46 _ (by unfold SHx; omega)]; exact hrow k hk
        rw [if_pos (show nI j ≤ 1 from nI_le (b := 1) c2 (by omega)), decide_eq_true c2, if_pos rfl, q1, bo_s, q2, bp_s, b3, s1, bo_s, q3, bo_s]
        unfold X12_show
        rw [show (0 : Int32) = nI 0 from rfl, t1, bo_s, hT41, gd_in (by omega) (by omega), nI_clamp (by omega), hT3, lt_e, uI_ne (by omega), uI_ne (by omega), t2.2 0 57 (by omega), t2.2 0 56 (by omega), q8, q9]
        by_cases c5 : nI j = nI 0
        · rw [if_pos c5, if_pos c5, bp_s]
          exact ⟨_, _, _, rfl, rfl, b, mn, kd, bn, hr, hfin⟩
        · rw [if_neg c5, if_neg c5, bp_s, hoursOf_c (by omega) (hS 0 (by omega)) (hS 1 (by omega)) (hS 2 (by omega)), bo_s]
          exact ⟨_, _, _, rfl, rfl, b, mn, kd, bn, hr, hfin⟩
      · rw [if_neg (show ¬ nI j ≤ 1 from nI_ge (b := j) (a := 1) (by omega) hj), decide_eq_false c2, if_neg (by decide)]
        exact stay
  · rw [e1, e2, if_neg (by decide), bo_s, if_neg (by decide)]
    exact stay
theorem bp_bo {α β γ : Type} (x : Option α) (f : α → Option (β × Mem)) (g : β → Mem → Option γ) : bp_ (bo_ x f) g = bo_ x (fun y => bp_ (f y) g) := by cases x <;> rfl
theorem bp_bp {α β γ : Type} (x : Option (α × Mem)) (f : α → Mem → Option (β × Mem)) (g : β → Mem → Option γ) : bp_ (bp_ x f) g = bp_ x (fun y M => bp_ (f y M) g) := by cases x <;> rfl
theorem p2_best (a1 a2 : Int32) : zStep RR (fun M => (dO dIM) (X11_best a1 a2 M)) (fun M => (dO dIM) (X12_best a1 a2 M)) := zs_MM (best_good (aim := 0) (a1 := a1) (a2 := a2) (Or.inl rfl) (fun MX => by
    unfold X11_best X7_clear X5_findBest
    simp only [lt_e, bp_bo, bp_bp, bp_s]
    rfl)
  (fun MM => by unfold X12_best; rfl))
theorem p2_good (a1 a2 : Int32) : zStep RR (fun M => (dO dIM) (X11_good a1 a2 M)) (fun M => (dO dIM) (X12_good a1 a2 M)) := zs_MM (best_good (aim := 1) (a1 := a1) (a2 := a2) (Or.inr rfl) (fun MX => by
    unfold X11_good X7_clear X5_findGood
    simp only [lt_e, bp_bo, bp_bp, bp_s]
    rfl)
  (fun MM => by unfold X12_good; rfl))
