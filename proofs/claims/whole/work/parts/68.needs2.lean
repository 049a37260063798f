/-! ===== phase 2: needs, the step ===== -/
theorem p2_needs (a1 a2 : Int32) : zStep RR (fun M => (dO dIM) (X11_needs a1 a2 M)) (fun M => (dO dIM) (X12_needs a1 a2 M)) := zs_MM fun MX MM hR => by
  obtain ⟨b, mn, kd, bn, hr, h⟩ := hR
  have h0 := shown h
  unfold X11_needs X12_needs X7_clear
  rw [lt_e, lt_e (uI MM 0 55 0), lt_e]
  have h51 : (uI MX 51 1 0).1 51 1 = nI 0 := rfl
  have h55 : (uI MM 0 55 0).1 0 55 = nI 0 := rfl
  generalize uI MX 51 1 0 = MX0 at h0 h51 ⊢
  generalize uI MM 0 55 0 = MM0 at h0 h55 ⊢
  have stay : ∃ v MX' MM', (some ((-1 : Int32), MX0) : Option (Int32 × Mem)) = some (v, MX') ∧ (some ((-1 : Int32), MM0) : Option (Int32 × Mem)) = some (v, MM') ∧ RR MX' MM' := ⟨_, _, _, rfl, rfl, b, mn, kd, bn, hr, h0⟩
  obtain ⟨c1, ha1, ha2, a3', a4, a5, c2, b1, b2, b3, b4, b5, b6, b7, b8, b9⟩ := h0.k
  rcases man_c h0 a1 with ⟨m, hm, rfl, e1, e2⟩ | ⟨e1, e2⟩
  · rw [e1, e2, if_pos rfl, bo_s, if_pos rfl]
    by_cases q1 : a2 < -20
    · rw [if_pos q1, isIn_neg q1, if_neg Bool.false_ne_true]
      exact stay
    · rw [if_neg q1]
      by_cases q2 : a2 ≤ 20
      · have ei : X12_isIn a2 (-20) 20 = true := by
          unfold X12_isIn
          rw [if_neg q1, if_neg (fun z => absurd q2 (Int32.not_le.mpr z))]
        rw [if_pos q2, ei, if_pos rfl]
        -- the class's seek
        obtain ⟨M1, d1, f1, z1⟩ := clearRows_c (M := MX0)
        have fX1 : Fr SX MX0 M1 := f1.wk (fun a i q => by unfold SX; omega)
        have hx1 := h0.fr fX1 (Fr.rf (M := MM0))
        obtain ⟨l, hh, sp, hK, hlp, hspx⟩ := RS.sk (o := 35) hx1.2.1 (Or.inl rfl) hx1.1 c2 c1 hm
        have hO := RS.ov (o := 35) (b := b) hx1.2.1 ha1
        have hl := hK.2.2.2.2.2.1
        have hhs := hK.2.2.2.2.2.2.1
        obtain ⟨M2, d2, f2, z2⟩ := clearRow_c (M := M1) (show m < 5 by omega)
        have f3 : Fr (SXs m) M1 (uI M2 41 8 0) := (f2.wk (fun a i h => Or.inl (Or.inr (Or.inr h)))).up _ (Or.inl (Or.inr (Or.inl (Or.inl ⟨rfl, Or.inl rfl⟩))))
        obtain ⟨M5, d5, f5, z5⟩ := limits_c (M := uI M2 41 8 0) (o := 35) (Or.inl rfl) (show m < 5 by omega)
        have fX5 : Fr (SXs m) M1 M5 := f3.tr (f5.wk (fun a i h => Or.inr (Or.inl h)))
        obtain ⟨N1, g1, k1, y1⟩ := layMost_c (l := l) c2 c1 b4 ha2 (show m < 5 by omega) (fun j hj => ⟨(hlp j hj).2, (hl j hj).2⟩)
        obtain ⟨N2, g2, k2, y2⟩ := noRow_c (M := N1)
        have gM : Fr (fun a i => SMn mn a i ∨ a = 38) MM0 N2 := (k1.wk (fun a i h => Or.inr h)).tr (k2.wk (fun a i h => Or.inl (Or.inr (Or.inr (Or.inl h)))))
        have hKs := hK.fr2 fX5 gM (fun a i q => by unfold SXs SXl SXg SBx S46; omega) (fun a i q => by unfold SMn SMg SNm S35 SO; omega) (by unfold SMn SMg SNm S35 SO; omega) (fun i q => by unfold SMn SMg SNm S35 SO; omega)
        have hlx : ∀ j, j < 3 → M5.1 49 j = nI (l j) := fun j hj => by
          rw [z5 j hj, uI_ne (by omega), f2.2 _ _ (by unfold S46; omega)]
          exact (hlp j hj).1
        have hRW : RW M5 m 0 0 0 (fun _ _ => 0) := fun p k hp hk => by
          rw [f5.2 46 _ (by omega), uI_ne (by omega)]
          by_cases z : p = m
          · subst z
            rw [if_pos rfl, z2 k hk]
            exact three (P := fun k => nI 0 = nI (t3 0 0 0 k)) rfl rfl rfl k hk
          · rw [if_neg z, f2.2 46 _ (by unfold S46; omega)]
            exact z1 _ (by omega)
        have hO2 := (hO.fr k1 (fun i => by omega) (fun i => by omega)).fr k2 (fun i => by unfold S35; omega) (fun i => by unfold S35; omega)
        have k55 : N2.1 0 55 = nI 0 := (k2.2 0 55 (by unfold S35; omega)).trans ((k1.2 0 55 (by omega)).trans h55)
        obtain ⟨M15, c4, N39, r1, r2, r3, r4, r5, r6⟩ := needs_loop (x2 := a2) hKs hlx (fun j hj => by rw [k2.2 38 j (by unfold S35; omega)]; exact y1 j hj) hRW y2 hO2 ((f5.2 41 8 (by omega)).trans rfl) k55
        have fMM : Fr (fun a i => SMn mn a i ∨ a = 38) MM0 N39 := gM.tr (r4.wk (fun a i h => Or.inl h))
        have hsame := all_same fMM hO r5 (fun i q => by unfold SMn SMg SNm S35 SO at q; omega) (fun i => by unfold SMn SMg SNm S35 SO; omega)
        have fMh : Fr SMh MM0 N39 := fMM.less fun a i n q => by
          by_cases z : a = 33
          · rw [z]; exact hsame i
          · exfalso
            unfold SMn SMg SNm S35 SO at q
            unfold SMh SM at n
            omega
        have fX16 : Fr SX MX0 (uC M15 47 46 0 0 15) := ((fX1.tr (fX5.wk (fun a i => SXs_X))).tr (r3.wk (fun a i q => SXs_X (Or.inl q)))).cp (fun i _ _ => by unfold SX; omega)
        have hseek : X5_seek 35 (nI m) 2 a2 M1 = some (M15.1 41 9, uC M15 47 46 0 0 15) := by
          unfold X5_seek
          have hleft : X9_leftOf 35 (nI m) M5 = nI hh := by
            unfold X9_leftOf
            rw [spentBy_c (Or.inl rfl) (by omega), fX5.2 (35 + 1) _ (by unfold SXs SXl SXg SBx S46; omega), hspx, hKs.2.1.2.1.2.2.2.2.2.2.2.1, nI_sub hhs.2.1]
            congr 1
            omega
          rw [d2, bo_s, lt_e, d5, b1_s, lt_e, hleft, r1, b1_s, cpI zlX_47 zlX_46 (by omega), bo_s, uC_g, if_neg (by omega)]
        have hM16 : (uC M15 47 46 0 0 15).1 23 1 = nI kd := (fX16.2 23 1 (by unfold SX; omega)).trans b3
        unfold X5_findNeeds
        rw [d1, bo_s, hseek, bp_s, g1, bo_s, g2, bo_s, r2, b2_s]
        obtain ⟨_, ⟨n9, n4, n55⟩ | ⟨n9, w, n10, n4, n8, nl, n47, n55, n37⟩⟩ := r6
        · rw [n9, if_neg (show ¬ (0 : Int32) = 1 by decide), bp_s, if_neg Bool.false_ne_true, n4]
          refine ⟨_, _, _, rfl, rfl, b, mn, kd, bn, hr, h0.frH (fX16.wk (fun a i z => Or.inl z)) fMh ⟨0, by omega, (fX16.2 51 1 (by unfold SX; omega)).trans h51, n55, fun i hi => by omega⟩⟩
        · have hrow : ∀ k, k < 3 → (uC M15 47 46 0 0 15).1 46 (3 * m + k) = nI (w k) := fun k hk => by rw [uC_g, if_pos ⟨rfl, by omega⟩]; exact n47 k hk
          obtain ⟨S1, s1, s2, s3, s4, s5⟩ := xlay_c (M := uC M15 47 46 0 0 15) (m := m) (c0 := 0) (by omega) ha2 (by omega) ((fX16.2 51 1 (by unfold SX; omega)).trans h51)
          have hS : ∀ k, k < 3 → S1.1 46 (3 * m + k) = nI (w k) := fun k hk => by rw [s2.2 46 _ (by unfold SHx; omega)]; exact hrow k hk
          rw [n9, if_pos rfl, bp_s, if_pos rfl, hM16, s1, bo_s, hoursOf_c (by omega) (hS 0 (by omega)) (hS 1 (by omega)) (hS 2 (by omega)), bo_s, n4]
          refine ⟨_, _, _, rfl, rfl, b, mn, kd, bn, hr, h0.frH ((fX16.wk (fun a i z => Or.inl z)).tr (s2.wk (fun a i z => Or.inr z))) fMh ⟨kd, by omega, by rw [s3, Nat.zero_add], n55, fun i hi => ?_⟩⟩
          have x1 := s4 i hi
          rw [Nat.zero_add] at x1
          rw [x1, hrow i (by omega), n37 i hi]
      · have ei : X12_isIn a2 (-20) 20 = false := by
          unfold X12_isIn
          rw [if_neg q1, if_pos (Int32.not_le.mp q2)]
        rw [if_neg q2, ei, if_neg Bool.false_ne_true]
        exact stay
  · rw [e1, e2, if_neg Bool.false_ne_true, bo_s, if_neg Bool.false_ne_true]
    exact stay
