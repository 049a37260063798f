/-! ===== phase 2: thrive ===== -/
theorem mspend3_c {M : Mem} {m : Nat} {l w : Nat → Nat} (hm : m < 5) (hl : ∀ k, k < 3 → M.1 33 (3 * m + k) = nI (l k) ∧ w k ≤ l k ∧ M.1 36 k = nI (w k)) : ∃ M', X12_thrive_L2 (nI m) zFU 0 M = some M' ∧ Fr (fun a j => a = 33 ∧ 3 * m ≤ j ∧ j < 3 * m + 3) M M' ∧ ∀ k, k < 3 → M'.1 33 (3 * m + k) = nI (l k - w k) := by
  have key := up_zFU (σ := Int32 × Mem) (fun n s => X12_thrive_L2 (nI m) n s.1 s.2) (fun i s => ∃ M1, s = (nI i, M1) ∧ Fr (fun a j => a = 33 ∧ 3 * m ≤ j ∧ j < 3 * m + 3) M M1 ∧ (∀ k, k < i → M1.1 33 (3 * m + k) = nI (l k - w k)) ∧ ∀ k, i ≤ k → k < 3 → M1.1 33 (3 * m + k) = nI (l k)) (fun M1 => Fr (fun a j => a = 33 ∧ 3 * m ≤ j ∧ j < 3 * m + 3) M M1 ∧ ∀ k, k < 3 → M1.1 33 (3 * m + k) = nI (l k - w k)) 3 (by omega) ?_ ?_ (0, M) 0 (by omega) ⟨M, rfl, Fr.rf, fun k hk => by omega, fun k _ hk => (hl k hk).1⟩
  · obtain ⟨t, e, q⟩ := key
    exact ⟨t, e, q⟩
  · rintro n s ⟨M1, rfl, f, q, _⟩
    exact ⟨M1, by show X12_thrive_L2 (nI m) (n + 1) (nI 3) M1 = some M1; rw [X12_thrive_L2, if_pos (by decide)], f, q⟩
  · rintro n i s hi ⟨M1, rfl, f, q1, q2⟩
    left
    obtain ⟨_, lw, l36⟩ := hl i (by omega)
    refine ⟨(nI (i + 1), uI M1 33 (3 * m + i) (nI (l i - w i))), ⟨_, rfl, f.up _ ⟨rfl, by omega, by omega⟩, fun k hk => ?_, fun k hk hk3 => ?_⟩, ?_⟩
    · by_cases h : k = i
      · rw [h, uI_eq]
      · rw [uI_ne (by omega)]; exact q1 k (by omega)
    · rw [uI_ne (by omega)]; exact q2 k (by omega) hk3
    · show X12_thrive_L2 (nI m) (n + 1) (nI i) M1 = X12_thrive_L2 (nI m) n (nI (i + 1)) (uI M1 33 (3 * m + i) (nI (l i - w i)))
      rw [X12_thrive_L2, if_neg (show ¬ (3 : Int32) ≤ nI i from nI_ge (b := 3) hi (by omega)), show (0 : Int32) + 3 * nI m + nI i = nI (3 * m + i) by simp only [nlit, nI_mul, nI_add, Nat.zero_add], gd_in (by omega) (by omega), gd_in (by omega) (by omega), nI_clamp (by omega), nI_clamp (by omega), q2 i (Nat.le_refl i) (by omega), f.2 36 i (by omega), l36, nI_sub lw, lt_e, show nI i + 1 = nI (i + 1) from nI_add i 1]
theorem thrive_1 {MX MM : Mem} {b mn kd bn hr m W : Nat} (hm : m < mn) (hM : RM MX.1 23 MM.1 b mn kd bn hr) (hb : MM.1 0 41 = nI b) (b1 : b ≤ 1) (hS : RS (MX.1 43) (MM.1 33) mn kd hr W) (h0 : ∀ i, i < 15 → MX.1 45 i = 0) :
    ∃ M3 v5 M5 M8 v9 M10 N6 N7 N12 N14, X5_clearRows MX = some M3 ∧ X5_seek 42 (nI m) 0 0 M3 = some (v5, M5) ∧ X5_cropAtBest_L2 (nI m) zFU 0 M5 = some M8 ∧ X9_goWeek 42 M8 = some (v9, M10) ∧
      X12_layBest (nI m) 0 MM = some N6 ∧ X12_layBestRow (nI m) 1 N6 = some N7 ∧ X12_thrive_L2 (nI m) zFU 0 N7 = some N12 ∧ X12_goWeek N12 = some (v9, N14) ∧ Fr SX MX M10 ∧ Fr (fun a i => SMa a i ∧ a ≠ 42) MM N14 ∧ RS (M10.1 43) (N14.1 33) mn kd hr (W + 1) := by
  have hmn := hM.1.1
  have hkd := hM.1.2.1
  obtain ⟨M3, e1, f1, z1⟩ := clearRows_c (M := MX)
  have hM3 := hM.fg f1 (Fr.rf (S := fun _ _ => False)) (fun a i h1 h2 => by omega) (fun _ _ _ _ z => z)
  have hS3 : RS (M3.1 (42 + 1)) (MM.1 33) mn kd hr W := hS.cg (fun j _ => f1.2 43 j (by omega)) (fun _ _ => rfl)
  obtain ⟨l, hh, sp, hK, hlp, hspx⟩ := RS.sk (o := 42) hS3 (Or.inr rfl) hM3 hb b1 hm
  have hO3 := RS.ov (o := 42) (b := b) hS3 hmn
  obtain ⟨v, M5, N6, w, q1, q2, q3, q4, q5, q6, q7, q8, q9, q10, q11, q12⟩ := seek_c (aim := 0) hK (Or.inl rfl) hlp hspx (fun p k hp hk _ => z1 _ (by omega)) hO3
  have hl99 : ∀ k, k < 3 → l k ≤ 99 := fun k hk => by
    obtain ⟨n, n1, n2, _⟩ := hS3.1 m k (by omega) hk
    have := (hlp k hk).1.symm.trans n2
    have := (hK.2.2.2.2.2.1 k hk).1
    have e := (nI_eq (a := l k) (b := n) (by omega) (by omega)).mp (by assumption)
    omega
  have hkz : ∀ k, k < 3 → kd ≤ k → l k = 0 := fun k hk hkk => (hK.2.2.2.2.2.1 k hk).2 hkk
  have f35 : Fr (SXs m) M3 M5 := q3
  have k5 : ∀ a i, a = 43 ∨ a = 45 ∨ (23 ≤ a ∧ a ≤ 33) → M5.1 a i = M3.1 a i := fun a i h => q3.2 a i (by unfold SXs SXl SXg SBx S46; omega)
  obtain ⟨M8, x1, x2, x3, x4, x5⟩ := spend3_c (M := M5) (m := m) (mn := mn) (kd := kd) (l := l) (w := w) ((k5 23 0 (by omega)).trans hM3.2.1.1) ((k5 23 1 (by omega)).trans hM3.2.1.2.2.1) hmn hkd hm (fun k hk => ⟨(k5 43 _ (by omega)).trans (hlp k hk).1, hl99 k hk, q12 k hk⟩) (fun k hk => by rw [q7 m k (by omega) hk, if_pos rfl])
  -- the reference
  have g6 : ∀ a i, (3 ≤ a ∧ a ≤ 29) ∨ (a = 0 ∧ i = 41) → N6.1 a i = MM.1 a i := fun a i h => q4.2 a i (by unfold SMs SMl SMg SBm S35 SO; omega)
  obtain ⟨N7, r1, r2, r3⟩ := layBestRow_c (way := 1) (u := fun _ => 0) (u' := fun k => nI (w k)) ((g6 0 41 (by omega)).trans hb) b1 ((g6 4 b (by omega)).trans hM.2.1.2.1) hmn hm q5 (fun _ _ => rfl) (fun k hk => by rw [q8 k hk]; exact up_1 _) (fun k hk h => by rw [q8 k hk]; exact lkp _ _)
  have k33 : ∀ i, ¬ (20 ≤ i ∧ i < 20 + 3 * mn) → N7.1 33 i = MM.1 33 i := fun i hi => (r2.2 33 i (by unfold SO; omega)).trans (q6 i)
  obtain ⟨N12, t1, t2, t3'⟩ := mspend3_c (M := N7) (m := m) (l := l) (w := w) (by omega) (fun k hk => ⟨(k33 _ (by omega)).trans (hlp k hk).2, q12 k hk, (r2.2 36 k (by unfold SO; omega)).trans (q8 k hk)⟩)
  have fN : Fr (fun a i => SMa a i ∧ a ≠ 42) MM N12 := ((q4.wk (fun a i z => ⟨by unfold SMs SMl SMg SBm S35 SO at z; unfold SMa SM SSm; omega, by unfold SMs SMl SMg SBm S35 SO at z; omega⟩)).tr (r2.wk (fun a i z => ⟨Or.inr ⟨z.1, by have := z.2.2; omega⟩, by have := z.1; omega⟩))).tr (t2.wk (fun a i z => ⟨Or.inr ⟨z.1, by omega⟩, by omega⟩))
  have f58 : Fr (fun a i => SX a i) MX M8 := ((f1.wk (fun a i z => by unfold SX; omega)).tr (q3.wk (fun a i z => SXs_X z))).tr (x2.wk (fun a i z => by unfold SX; omega))
  have k12 : ∀ i, ¬ (20 ≤ i ∧ i < 20 + 3 * mn) → ¬ (3 * m ≤ i ∧ i < 3 * m + 3) → N12.1 33 i = MM.1 33 i := fun i h1 h2 => (t2.2 33 i (by omega)).trans (k33 i h1)
  have k8 : ∀ i, ¬ (15 ≤ i ∧ i < 30) → ¬ (3 * m ≤ i ∧ i < 3 * m + 3) → i ≠ 35 + m → M8.1 43 i = M3.1 43 i := fun i h1 h2 h3 => (x2.2 43 i (by omega)).trans (k5 43 i (by omega))
  have e26 : M5.1 26 = M3.1 26 := funext fun j => k5 26 j (by omega)
  have hRSw : RSw (M8.1 (42 + 1)) (N12.1 33) mn kd hr W := by
    obtain ⟨h1, h2, h3, h4, h5, h6⟩ := hS3
    refine ⟨fun q k hq hk => ?_, fun q j hq hj => ?_, fun q hq => ?_, fun q hq0 hq => ?_, ?_, ?_⟩
    · by_cases z : q = m
      · subst z
        rw [t3' k hk]
        by_cases hkk : k < kd
        · rw [show M8.1 (42 + 1) (3 * q + k) = _ from x3 k hkk]
          exact ⟨_, by have := hl99 k hk; omega, rfl, rfl, fun y => by omega⟩
        · rw [show M8.1 (42 + 1) (3 * q + k) = _ from x4 k (by omega) hk, hkz k hk (by omega)]
          exact ⟨0, by omega, rfl, by rw [Nat.zero_sub], fun _ => rfl⟩
      · rw [show M8.1 (42 + 1) (3 * q + k) = _ from k8 _ (by omega) (by omega) (by omega), k12 _ (by omega) (by omega)]
        exact h1 q k hq hk
    · rw [show M8.1 (42 + 1) (15 + (3 * q + j)) = _ from x5 q j hq hj, k5 43 _ (by omega), e26]
      by_cases c : q < mn
      · have hN : N12.1 33 (20 + (3 * q + j)) = M3.1 (42 + 1) (15 + (3 * q + j)) + dl (M3.1 26) m q (nI (w j)) := by
          rw [t2.2 33 _ (by omega), ← Nat.add_assoc, r3 q j c hj, ov_dl c hm hj]
          rw [dl_x (hd' := M3.1 26) (mn := mn) (fun p hp => ?_) hm c]
          rw [r2.2 13 _ (by unfold SO; omega), g6 13 _ (by omega)]
          exact (hM3.2.2.2.2.2.1 p hp).symm
        rw [hN]
        by_cases h : j < kd
        · rw [if_pos ⟨h, c⟩]
          exact ⟨rfl, fun y => by omega⟩
        · have wz : w j = 0 := by have := q12 j hj; have := hkz j hj (by omega); omega
          rw [if_neg (by omega), wz, nI_0, dl_0, Int32.add_zero]
          refine ⟨rfl, fun _ => ?_⟩
          rw [show M3.1 (42 + 1) (15 + (3 * q + j)) = _ from (h2 q j hq hj).1]
          exact (h2 q j hq hj).2 (Or.inr (by omega))
      · rw [if_neg (by omega), Int32.add_zero, k12 _ (by omega) (by omega)]
        exact h2 q j hq hj
    · rw [show M8.1 (42 + 1) (30 + q) = _ from k8 _ (by omega) (by omega) (by omega), k12 _ (by omega) (by omega)]
      exact h3 q hq
    · rw [show M8.1 (42 + 1) (35 + q) = _ from k8 _ (by omega) (by omega) (by omega), k12 _ (by omega) (by omega)]
      exact h4 q hq
    · rw [show M8.1 (42 + 1) 40 = _ from k8 _ (by omega) (by omega) (by omega), k12 _ (by omega) (by omega)]
      exact h5
    · rw [show M8.1 (42 + 1) 41 = _ from k8 _ (by omega) (by omega) (by omega), k12 _ (by omega) (by omega)]
      exact h6
  have hM8 := hM.fg f58 fN (fun a i h1 h2 => by unfold SX; omega) (fun a i h1 h2 => by unfold SMa SM SSm; omega)
  obtain ⟨v9, M10, N14, y1, y2, y3, y4, y5⟩ := goWeek_c (o := 42) (Or.inr rfl) hM8 ((fN.2 0 41 (by unfold SMa SM SSm; omega)).trans hb) b1 hRSw (fun i hi => (f58.2 45 i (by unfold SX; omega)).trans (h0 i hi))
  exact ⟨M3, v, M5, M8, v9, M10, N6, N7, N12, N14, e1, q1, x1, y1, q2, r1, t1, y2, f58.tr (y3.wk (fun a i z => by unfold SWx SSx SXg at z; unfold SX; omega)), fN.tr (y4.wk (fun a i z => ⟨by unfold SWm SSm SMg at z; unfold SMa SM SSm; omega, by unfold SWm SSm SMg at z; omega⟩)), y5⟩
theorem thrive_loop {MX MM : Mem} {b mn kd bn hr n m : Nat} (hn : n ≤ 12) (hm : m < mn) (hM : RM MX.1 23 MM.1 b mn kd bn hr) (hb : MM.1 0 41 = nI b) (b1 : b ≤ 1) (hS : RS (MX.1 43) (MM.1 33) mn kd hr 999) (h0 : ∀ i, i < 15 → MX.1 45 i = 0) :
    ∃ MX' MM', X5_cropAtBest_L1 (nI m) (nI n) zFU 0 MX = some MX' ∧ X12_thrive_L1 (nI m) (nI n) zFU 0 MM = some MM' ∧ Fr SX MX MX' ∧ Fr (fun a i => SMa a i ∧ a ≠ 42) MM MM' ∧ ∃ W, RS (MX'.1 43) (MM'.1 33) mn kd hr W := by
  have key := two_zFU (σ := Int32 × Mem) (σ' := Int32 × Mem) (fun k s => X5_cropAtBest_L1 (nI m) (nI n) k s.1 s.2) (fun k s => X12_thrive_L1 (nI m) (nI n) k s.1 s.2)
    (fun d s s' => ∃ i M1 M2, i + d = n ∧ s = (nI i, M1) ∧ s' = (nI i, M2) ∧ Fr SX MX M1 ∧ Fr (fun a i => SMa a i ∧ a ≠ 42) MM M2 ∧ RS (M1.1 43) (M2.1 33) mn kd hr (999 + i))
    (fun t t' => Fr SX MX t ∧ Fr (fun a i => SMa a i ∧ a ≠ 42) MM t' ∧ ∃ W, RS (t.1 43) (t'.1 33) mn kd hr W) ?_ n (0, MX) (0, MM) (by omega) ⟨0, MX, MM, by omega, rfl, rfl, Fr.rf, Fr.rf, hS⟩
  · obtain ⟨t, t', e1, e2, q⟩ := key
    exact ⟨t, t', e1, e2, q⟩
  · rintro k k' d s s' ⟨i, M1, M2, hd, rfl, rfl, f1, f2, hS1⟩
    have hM1 := hM.fg f1 f2 (fun a i h1 h2 => by unfold SX; omega) (fun a i h1 h2 => by unfold SMa SM SSm; omega)
    have hb2 : M2.1 0 41 = nI b := (f2.2 0 41 (by unfold SMa SM SSm; omega)).trans hb
    by_cases hi : i = n
    · left
      subst hi
      refine ⟨M1, M2, ?_, ?_, f1, f2, _, hS1⟩
      · show X5_cropAtBest_L1 (nI m) (nI i) (k + 1) (nI i) M1 = _
        rw [X5_cropAtBest_L1, if_pos (nI_le (by omega) (by omega))]
      · show X12_thrive_L1 (nI m) (nI i) (k' + 1) (nI i) M2 = _
        rw [X12_thrive_L1, if_pos (nI_le (by omega) (by omega))]
    · right
      obtain ⟨M3, v5, M5, M8, v9, M10, N6, N7, N12, N14, a1, a2, a3, a4, a5, a6, a7, a8, g1, g2, g3⟩ := thrive_1 hm hM1 hb2 b1 hS1 (fun i hi => (f1.2 45 i (by unfold SX; omega)).trans (h0 i hi))
      refine ⟨d - 1, (nI (i + 1), M10), (nI (i + 1), N14), by omega, ⟨i + 1, M10, N14, by omega, rfl, rfl, f1.tr g1, f2.tr g2, g3⟩, ?_, ?_⟩
      · show X5_cropAtBest_L1 (nI m) (nI n) (k + 1) (nI i) M1 = X5_cropAtBest_L1 (nI m) (nI n) k (nI (i + 1)) M10
        rw [X5_cropAtBest_L1, if_neg (nI_ge (by omega) (by omega)), a1, bo_s, a2, bp_s, a3, b1_s, a4, bp_s, show nI i + 1 = nI (i + 1) from nI_add i 1]
      · show X12_thrive_L1 (nI m) (nI n) (k' + 1) (nI i) M2 = X12_thrive_L1 (nI m) (nI n) k' (nI (i + 1)) N14
        rw [X12_thrive_L1, if_neg (nI_ge (by omega) (by omega)), a5, bo_s, a6, bo_s, a7, b1_s, a8, bp_s, show nI i + 1 = nI (i + 1) from nI_add i 1]
theorem p2_thrive (a1 a2 : Int32) : zStep RR (fun M => (dO dIM) (X11_thrive a1 a2 M)) (fun M => (dO dIM) (X12_thrive a1 a2 M)) := zs_MM fun MX MM hR => by
  obtain ⟨b, mn, kd, bn, hr, h⟩ := hR
  have stay : ∃ v MX' MM', (some ((-1 : Int32), MX) : Option (Int32 × Mem)) = some (v, MX') ∧ (some ((-1 : Int32), MM) : Option (Int32 × Mem)) = some (v, MM') ∧ RR MX' MM' := ⟨_, _, _, rfl, rfl, b, mn, kd, bn, hr, h⟩
  obtain ⟨c1, ha1, ha2, a3', a4', a5, c2, b1, b2, b3, b4, b5, b6, b7, b8, b9⟩ := h.k
  unfold X11_thrive X12_thrive
  rcases man_c h a1 with ⟨m, hm, rfl, e1, e2⟩ | ⟨e1, e2⟩
  · rw [e1, e2, if_pos rfl, bo_s, if_pos rfl]
    by_cases q1 : a2 < 0
    · rw [if_pos q1, isIn_neg q1, if_neg Bool.false_ne_true]
      exact stay
    · obtain ⟨n, hn, rfl⟩ := nI_of q1
      rw [if_neg q1, show X12_isIn (nI n) 0 12 = decide (n ≤ 12) from isIn_le (n := 12) hn (by omega)]
      by_cases q2 : n ≤ 12
      · rw [if_pos (show nI n ≤ 12 from nI_le (b := 12) q2 (by omega)), decide_eq_true q2, if_pos rfl]
        obtain ⟨M1, k1, k2, k3⟩ := keepNow_c (M := MM)
        have fx : Fr SX MX (uC MX 36 43 0 0 42) := Fr.rf.cp (fun i _ _ => by unfold SX; omega)
        have hx := h.fr fx (k2.wk (fun a i z => by unfold SM; omega))
        have hS : RS ((uC MX 36 43 0 0 42).1 43) (M1.1 33) mn kd hr 999 := hx.2.1.cg (fun j hj => by rw [uC_g, if_pos ⟨rfl, hj⟩, uC_g, if_neg (by omega)]) (fun _ _ => rfl)
        obtain ⟨MX', MM', x1, x2, x3, x4, W, x5⟩ := thrive_loop (m := m) q2 hm hx.1 ((k2.2 0 41 (by omega)).trans c2) c1 hS (fun i hi => (hx.2.2.2.2.2.2.2.2.2.2.2 i hi).2)
        obtain ⟨M11, y1, y2, y3⟩ := bringBack_c (M := MM')
        refine ⟨MM'.1 33 (15 + m), MX', M11, ?_, ?_, b, mn, kd, bn, hr, h.fr (fx.tr x3) (back_SM k2 k3 x4 y2 y3)⟩
        · unfold X5_cropAtBest
          rw [become_c, bo_s, x1, b1_s, bp_s, cropOf_c (Or.inr rfl) (by omega), show MX'.1 (42 + 1) (30 + m) = MM'.1 33 (15 + m) from x5.2.2.1 m (by omega)]
        · rw [k1, bo_s, x2, b1_s, show (15 : Int32) + nI m = nI (15 + m) from nI_add 15 m, gd_in (by omega) (by omega), nI_clamp (by omega), lt_e, y1, bo_s]
      · rw [if_neg (show ¬ nI n ≤ 12 from nI_ge (b := n) (a := 12) (by omega) hn), decide_eq_false q2, if_neg Bool.false_ne_true]
        exact stay
  · rw [e1, e2, if_neg Bool.false_ne_true, bo_s, if_neg Bool.false_ne_true]
    exact stay
