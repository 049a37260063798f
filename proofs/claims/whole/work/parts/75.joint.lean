/-! ===== phase 2: joint ===== -/
theorem put43_c {M : Mem} : ∃ M', X12_joint_L1 zFU 0 M = some M' ∧ Fr (fun a i => a = 43) M M' ∧ ∀ k, k < 8 → M'.1 43 k = M.1 37 k := by
  have key := up_zFU (σ := Int32 × Mem) (fun n s => X12_joint_L1 n s.1 s.2) (fun i s => ∃ M1, s = (nI i, M1) ∧ Fr (fun a i => a = 43) M M1 ∧ ∀ j, j < i → M1.1 43 j = M.1 37 j) (fun M1 => Fr (fun a i => a = 43) M M1 ∧ ∀ j, j < 8 → M1.1 43 j = M.1 37 j) 8 (by omega) ?_ ?_ (0, M) 0 (by omega) ⟨M, rfl, Fr.rf, fun j hj => by omega⟩
  · obtain ⟨t, e, q⟩ := key
    exact ⟨t, e, q⟩
  · rintro n s ⟨M1, rfl, f, g⟩
    exact ⟨M1, by show X12_joint_L1 (n + 1) (nI 8) M1 = some M1; rw [X12_joint_L1, if_pos (by decide)], f, g⟩
  · rintro n i s hi ⟨M1, rfl, f, g⟩
    left
    refine ⟨(nI (i + 1), uI M1 43 i (M1.1 37 i)), ⟨_, rfl, f.up _ rfl, fun j hj => ?_⟩, ?_⟩
    · by_cases h : j = i
      · rw [h, uI_eq]; exact f.2 37 i (by omega)
      · rw [uI_ne (by omega), g j (by omega)]
    · show X12_joint_L1 (n + 1) (nI i) M1 = X12_joint_L1 n (nI (i + 1)) (uI M1 43 i (M1.1 37 i))
      rw [X12_joint_L1, if_neg (show ¬ (8 : Int32) ≤ nI i from nI_ge (b := 8) hi (by omega)), gd_in (by omega) (by omega), gd_in (by omega) (by omega), nI_clamp (by omega), lt_e, show nI i + 1 = nI (i + 1) from nI_add i 1]
theorem put37_c {M : Mem} : ∃ M', X12_joint_L2 zFU 0 M = some M' ∧ Fr (fun a i => a = 37) M M' ∧ ∀ k, k < 8 → M'.1 37 k = M.1 43 k := by
  have key := up_zFU (σ := Int32 × Mem) (fun n s => X12_joint_L2 n s.1 s.2) (fun i s => ∃ M1, s = (nI i, M1) ∧ Fr (fun a i => a = 37) M M1 ∧ ∀ j, j < i → M1.1 37 j = M.1 43 j) (fun M1 => Fr (fun a i => a = 37) M M1 ∧ ∀ j, j < 8 → M1.1 37 j = M.1 43 j) 8 (by omega) ?_ ?_ (0, M) 0 (by omega) ⟨M, rfl, Fr.rf, fun j hj => by omega⟩
  · obtain ⟨t, e, q⟩ := key
    exact ⟨t, e, q⟩
  · rintro n s ⟨M1, rfl, f, g⟩
    exact ⟨M1, by show X12_joint_L2 (n + 1) (nI 8) M1 = some M1; rw [X12_joint_L2, if_pos (by decide)], f, g⟩
  · rintro n i s hi ⟨M1, rfl, f, g⟩
    left
    refine ⟨(nI (i + 1), uI M1 37 i (M1.1 43 i)), ⟨_, rfl, f.up _ rfl, fun j hj => ?_⟩, ?_⟩
    · by_cases h : j = i
      · rw [h, uI_eq]; exact f.2 43 i (by omega)
      · rw [uI_ne (by omega), g j (by omega)]
    · show X12_joint_L2 (n + 1) (nI i) M1 = X12_joint_L2 n (nI (i + 1)) (uI M1 37 i (M1.1 43 i))
      rw [X12_joint_L2, if_neg (show ¬ (8 : Int32) ≤ nI i from nI_ge (b := 8) hi (by omega)), gd_in (by omega) (by omega), gd_in (by omega) (by omega), nI_clamp (by omega), lt_e, show nI i + 1 = nI (i + 1) from nI_add i 1]
theorem turn_c {MX MM : Mem} {b mn kd bn hr m o : Nat} (h : RP MX.1 MM.1 b mn kd bn hr) (hmo : m ≠ o) (hm : m < mn) (ho : o < mn) :
    ∃ v v' MX' A B C D E F G H, X5_bestInTurn (nI m) (nI o) MX = some (v + v', MX') ∧ X12_keepNow MM = some A ∧ X12_layBest (nI m) 0 A = some B ∧ X12_layBestRow (nI m) 1 B = some C ∧ X12_layBest (nI o) 0 C = some D ∧ X12_layBestRow (nI o) 1 D = some E ∧ X12_growthOf (nI m) E = some (v, F) ∧ X12_growthOf (nI o) F = some (v', G) ∧ X12_bringBack G = some H ∧ Fr SX MX MX' ∧ Fr SM MM H ∧ H.1 0 63 = MM.1 0 63 := by
  obtain ⟨c1, ha1, ha2, a3', a4, a5, c2, b1, b2, b3, b4, b5, b6, b7, b8, b9⟩ := h.k
  have hm5 : m < 5 := by omega
  have ho5 : o < 5 := by omega
  obtain ⟨M1, e1, f1, z1⟩ := clearRows_c (M := MX)
  obtain ⟨A, k1, k2, k3⟩ := keepNow_c (M := MM)
  have fX1 : Fr SX MX M1 := f1.wk (fun a i q => by unfold SX; omega)
  have h1 := h.fr fX1 (k2.wk (fun a i z => by unfold SM; omega))
  have hbA : A.1 0 41 = nI b := (k2.2 0 41 (by omega)).trans c2
  obtain ⟨lm, hhm, sm, hKm, hlm, hsm⟩ := RS.sk (o := 35) h1.2.1 (Or.inl rfl) h1.1 hbA c1 hm
  obtain ⟨lo, hho, so, hKo, hlo, hso⟩ := RS.sk (o := 35) h1.2.1 (Or.inl rfl) h1.1 hbA c1 ho
  have hO := RS.ov (o := 35) (b := b) h1.2.1 ha1
  obtain ⟨v2, M3, B, w, x1, x2, x3, x4, x5, x6, x7, x8, x9, x10, x11, x12⟩ := seek_c (aim := 0) hKm (Or.inl rfl) hlm hsm (fun p k hp hk _ => z1 _ (by omega)) hO
  have hbB : B.1 0 41 = nI b := (x4.2 0 41 (by unfold SMs SMl SMg SBm S35 SO; omega)).trans hbA
  have h4B : B.1 4 b = nI mn := (x4.2 4 b (by unfold SMs SMl SMg SBm S35 SO; omega)).trans ((k2.2 4 b (by omega)).trans b2)
  obtain ⟨C, y1, y2, oC⟩ := layBestRow_c (way := 1) (u := fun _ => 0) (u' := fun k => nI (w k)) hbB c1 h4B ha1 hm x5 (fun _ _ => rfl) (fun k hk => by rw [x8 k hk]; exact up_1 _) (fun k hk h => by rw [x8 k hk]; exact lkp _ _)
  have hwz : ∀ k, k < 3 → kd ≤ k → w k = 0 := fun k hk h => by
    have := x12 k hk
    have := (hKm.2.2.2.2.2.1 k hk).2 h
    omega
  have hw8 : ∀ k, k < 3 → w k ≤ 8 := three (by omega) (by omega) (by omega)
  have fC : Fr (SMs mn) A C := x4.tr (y2.wk (fun a i z => Or.inl (Or.inr (Or.inr (Or.inr z)))))
  have hKo1 := (hKo.fr2 x3 fC (fun a i q => by unfold SXs SXl SXg SBx S46; omega) (fun a i q => by unfold SMs SMl SMg SBm S35 SO; omega) (by unfold SMs SMl SMg SBm S35 SO; omega) (fun i q => by unfold SMs SMl SMg SBm S35 SO; omega)).rx (rx' := fun p k => if p = m then nI (w k) else 0) (fun x k hk q => by
      by_cases z : x = m
      · rw [if_pos z, hwz k hk (by omega)]; rfl
      · rw [if_neg z]) (fun x k hx hk => by
      by_cases z : x = m
      · rw [if_pos z]; exact ⟨_, by have := hw8 k hk; omega, rfl⟩
      · rw [if_neg z]; exact ⟨0, by omega, rfl⟩)
  have oC' : OV C b mn (fun p k => M1.1 (35 + 1) (15 + (3 * p + k))) (fun p k => if p = m then nI (w k) else 0) := oC.cg (fun _ _ _ _ => rfl) (fun x j hj => by
    unfold upd3
    by_cases z : x = m
    · rw [if_pos ⟨z, hj⟩, if_pos z]
    · rw [if_neg (by omega), if_neg z])
  obtain ⟨v4, M5, D, w', t1, t2, t3, t4, t5, t6, t7, t8, t9, t10, t11, t12⟩ := seek_c (aim := 0) hKo1 (Or.inl rfl) (fun j hj => ⟨(x3.2 36 _ (by unfold SXs SXl SXg SBx S46; omega)).trans (hlo j hj).1, (fC.2 33 _ (by unfold SMs SMl SMg SBm S35 SO; omega)).trans (hlo j hj).2⟩) ((x3.2 36 _ (by unfold SXs SXl SXg SBx S46; omega)).trans hso) (fun p k hp hk z => x7 p k hp hk) oC'
  have fD : Fr (SMs mn) A D := fC.tr t4
  obtain ⟨E, i1, i2, oE⟩ := layBestRow_c (way := 1) (u := fun _ => 0) (u' := fun k => nI (w' k)) ((fD.2 0 41 (by unfold SMs SMl SMg SBm S35 SO; omega)).trans hbA) c1 ((fD.2 4 b (by unfold SMs SMl SMg SBm S35 SO; omega)).trans ((k2.2 4 b (by omega)).trans b2)) ha1 ho t5 (fun k hk => if_neg (fun z => hmo z.symm)) (fun k hk => by rw [t8 k hk]; exact up_1 _) (fun k hk h => by rw [t8 k hk]; exact lkp _ _)
  have fE : Fr (SMs mn) A E := fD.tr (i2.wk (fun a i z => Or.inl (Or.inr (Or.inr (Or.inr z)))))
  have hKE := hKo1.fr2 t3 (t4.tr (i2.wk (fun a i z => Or.inl (Or.inr (Or.inr (Or.inr z)))))) (fun a i q => by unfold SXs SXl SXg SBx S46; omega) (fun a i q => by unfold SMs SMl SMg SBm S35 SO; omega) (by unfold SMs SMl SMg SBm S35 SO; omega) (fun i q => by unfold SMs SMl SMg SBm S35 SO; omega)
  have hG := hKE.gq (a := w' 0) (bb := w' 1) (c := w' 2) (fun p k hp hk => by rw [t7 p k hp hk, t3_w w' hk]) (by omega) (fun k hk => by rw [t3_w w' hk]; exact t12 k hk) (oE.cg (fun _ _ _ _ => rfl) (fun p j hj => by
    unfold upd3
    by_cases z : p = o ∧ j < 3
    · rw [if_pos z, if_pos z]; exact congrArg nI (t3_w w' hj).symm
    · rw [if_neg z, if_neg z]))
  obtain ⟨v, Ma, F, g1, g2, g3, g4⟩ := grow_q (Or.inl rfl) zlX_46 (by omega) hm hKE.2.1 hKE.2.2.1 c1 hG
  have hKF := hKE.fr2 g3 g4 (fun a i q => by unfold SXg; omega) (fun a i q => by unfold SMg; omega) (by unfold SMg; omega) (fun i q => by unfold SMg; omega)
  obtain ⟨v', Mb, G, g5, g6, g7, g8⟩ := grow_q (Or.inl rfl) zlX_46 (by omega) ho hKF.2.1 hKF.2.2.1 c1 (hG.fr (Or.inl rfl) (by omega) g3 g4)
  obtain ⟨H, j1, j2, j3⟩ := bringBack_c (M := G)
  have fG : Fr (fun a i => SMs mn a i ∨ SMg a i) A G := ((fE.wk (fun a i z => Or.inl z)).tr (g4.wk (fun a i z => Or.inr z))).tr (g8.wk (fun a i z => Or.inr z))
  have fH : Fr SM MM H := back_SM k2 k3 (fG.wk (fun a i z => ⟨by unfold SMs SMl SMg SBm S35 SO at z; unfold SMa SM SSm; omega, by unfold SMs SMl SMg SBm S35 SO at z; omega⟩)) j2 j3
  refine ⟨v, v', Mb, A, B, C, D, E, F, G, H, ?_, k1, x2, y1, t2, i1, g2, g6, j1, ?_, fH, ?_⟩
  · unfold X5_bestInTurn X5_growthOfTwo
    rw [e1, bo_s, show X5_seek 35 (nI m) 0 0 M1 = _ from x1, bp_s, show X5_seek 35 (nI o) 0 0 M3 = _ from t1, bp_s, g1, bp_s, g5, bp_s, bp_s]
  · exact ((((fX1.tr (x3.wk (fun a i => SXs_X))).tr (t3.wk (fun a i => SXs_X))).tr (g3.wk (fun a i q => by unfold SXg at q; unfold SX; omega))).tr (g7.wk (fun a i q => by unfold SXg at q; unfold SX; omega)))
  · rw [j2.2 0 63 (by unfold SSm; omega), fG.2 0 63 (by unfold SMs SMl SMg SBm S35 SO; omega), k2.2 0 63 (by omega)]
theorem p2_joint (a1 a2 : Int32) : zStep RR (fun M => (dO dIM) (X11_joint a1 a2 M)) (fun M => (dO dIM) (X12_joint a1 a2 M)) := zs_MM fun MX MM hR => by
  obtain ⟨b, mn, kd, bn, hr, h⟩ := hR
  unfold X11_joint X12_joint
  rcases two_c h a1 a2 with ⟨m, o, hm, ho, hmo, rfl, rfl, e1, e2⟩ | ⟨e1, e2⟩
  · rw [e1, if_pos rfl, e2, bo_s, if_pos rfl]
    obtain ⟨c1, ha1, ha2, a3', a4, a5, c2, b1, b2, b3, b4, b5, b6, b7, b8, b9⟩ := h.k
    obtain ⟨A, k1, k2, k3⟩ := put43_c (M := MM)
    have hA := h.fr (Fr.rf (M := MX)) (k2.wk (fun a i z => by unfold SM; omega))
    obtain ⟨v, MX', B, u, w, x1, x2, x3, x4, x5, x6, _⟩ := pool_c hA hmo hm ho
    obtain ⟨C, y1, y2, y3⟩ := put37_c (M := uI B 0 55 (MM.1 0 55))
    have fC : Fr SMh MM C := (((k2.wk (fun a i z => by unfold SMh SM; omega)).tr (x4.wk (fun a i z => by unfold SMq SM at z; unfold SMh SM; omega))).up _ (by unfold SMh SM; omega)).tr (y2.wk (fun a i z => Or.inr (Or.inr z)))
    have hC : RP MX'.1 C.1 b mn kd bn hr := h.frH (x3.wk (fun a i z => Or.inl z)) fC (by
      obtain ⟨n, n6, q1, q2, q3⟩ := h.2.2.2.2.1
      refine ⟨n, n6, (x3.2 51 1 (by unfold SX; omega)).trans q1, ?_, fun i hi => ?_⟩
      · rw [y2.2 0 55 (by omega), uI_eq, q2]
      · rw [x3.2 52 i (by unfold SX; omega), q3 i hi, y3 i (by omega), uI_ne (by omega), x4.2 43 i (by unfold SMq SM; omega), k3 i (by omega)])
    obtain ⟨r, r', My, D, E, F, G, H, I, J, K, t1, t2, t3, t4, t5, t6, t7, t8, t9, t10, t11, t12⟩ := turn_c hC hmo hm ho
    have e63 : K.1 0 63 = v := by rw [t12, y2.2 0 63 (by omega), uI_ne (by omega), x5]
    rw [x1, bp_s, t1, bp_s, lt_e (MM.1 0 55), k1, b1_s, x2, bo_s, lt_e, y1, b1_s, t2, bo_s, t3, bo_s, t4, bo_s, t5, bo_s, t6, bo_s, t7, bp_s, t8, bp_s, t9, bo_s, e63]
    exact ⟨_, _, _, rfl, rfl, b, mn, kd, bn, hr, hC.fr t10 t11⟩
  · rw [e1, if_neg Bool.false_ne_true, e2, bo_s, if_neg Bool.false_ne_true]
    exact ⟨_, _, _, rfl, rfl, b, mn, kd, bn, hr, h⟩
