/-! ===== phase 2: rest, the step ===== -/
theorem round_c {M1 M2 : Mem} {b mn kd bn hr : Nat} {base : Nat → Nat → Int32} {r : Nat → Nat → Nat} (hR : RST M1 M2 b mn kd bn hr base) (hr0 : okR mn kd r) (h46 : RX46 M1 r) (h44 : RM44 M2 r) (hO : OV M2 b mn base (nr r)) :
    ∃ N1 N2 f, ∃ r' : Nat → Nat → Nat, (∀ n c, c ≤ 20 → X5_roundsToRest_L1 (n + 1) (nI c) M1 = if f = true then X5_roundsToRest_L1 n (nI (c + 1)) N1 else some (nI c, N1)) ∧ X12_goRound M2 = some (f, N2) ∧ Fr SX M1 N1 ∧ (∀ i, N1.1 43 i = M1.1 43 i) ∧ Fr (SMR mn) M2 N2 ∧ okR mn kd r' ∧ RX46 N1 r' ∧ RM44 N2 r' ∧ OV N2 b mn base (nr r') := by
  have f0 : Fr (fun a i => a = 48) M1 (uC M1 46 48 0 0 15) := Fr.rf.cp (fun i _ _ => rfl)
  have hR3 := hR.fr (MM' := M2) f0 (Fr.rf (S := fun _ _ => False)) (fun a i q => by omega) (fun _ _ _ h => h) (fun h => h) (fun _ _ h => h)
  obtain ⟨N1, N2, f, r', e1, e2, g1, g2, jr, j46, j44, jO, jf⟩ := men_c hR3 hr0 (fun p k hp hk => by rw [f0.2 46 _ (by omega)]; exact h46 p k hp hk) h44 hO
  refine ⟨N1, N2, f, r', fun n c hc => ?_, ?_, (f0.wk (fun a i z => by unfold SX; omega)).tr (g1.wk (fun a i z => z.1)), fun i => (g1.2 43 i (by unfold SXR; omega)).trans (f0.2 43 i (by omega)), g2, jr, j46, j44, jO⟩
  · have h48 : ∀ i, i < 15 → N1.1 48 i = M1.1 46 i := fun i hi => by
      rw [g1.2 48 i (by unfold SXR; omega), uC_g, if_pos ⟨rfl, hi⟩]
    rw [X5_roundsToRest_L1, if_neg (show ¬ (20 : Int32) < nI c from nI_nlt (a := 20) hc (by omega)), cpI zlX_46 zlX_48 (by omega), bo_s, e1, b1_s, show nI c + 1 = nI (c + 1) from nI_add c 1]
    cases hfv : f with
    | true =>
      obtain ⟨p, k, hp, hk, hne⟩ := jf.mp hfv
      have : ¬ N1.1 46 (3 * p + k) = N1.1 48 (3 * p + k) := by
        rw [h48 _ (by omega), j46 p k hp hk, h46 p k hp hk, nI_eq (by have := okR_b jr (p := p) hk; omega) (by have := okR_b hr0 (p := p) hk; omega)]
        exact hne
      rw [asAhead_f (by omega) this, bo_s, if_neg Bool.false_ne_true, if_pos rfl]
    | false =>
      have hall : ∀ i, i < 15 → N1.1 46 i = N1.1 48 i := fun i hi => by
        have e : i = 3 * (i / 3) + i % 3 := by omega
        rw [h48 i hi, e, j46 _ _ (by omega) (by omega), h46 _ _ (by omega) (by omega)]
        congr 1
        by_cases z : r' (i / 3) (i % 3) = r (i / 3) (i % 3)
        · exact z
        · have := jf.mpr ⟨i / 3, i % 3, by omega, by omega, z⟩
          rw [hfv] at this
          cases this
      rw [asAhead_t hall, bo_s, if_pos rfl, if_neg Bool.false_ne_true]
  · unfold X12_goRound
    rw [e2, b2_s]
    cases f with
    | true => rw [gd_p (Or.inr (by decide))]; rfl
    | false => rw [gd_p (Or.inl (by decide))]; rfl
theorem rest_loop {MX MM : Mem} {b mn kd bn hr : Nat} {base : Nat → Nat → Int32} (hR : RST MX MM b mn kd bn hr base) : ∀ d i, i + d = 20 → ∀ n n', d + 2 < n → d + 3 < n' → ∀ M1 M2, ∀ r : Nat → Nat → Nat, Fr SX MX M1 → (∀ i, M1.1 43 i = MX.1 43 i) → Fr (SMR mn) MM M2 → okR mn kd r → RX46 M1 r → RM44 M2 r → OV M2 b mn base (nr r) →
    ∃ N1 N2, Fr SX MX N1 ∧ Fr (SMR mn) MM N2 ∧ ((X5_roundsToRest_L1 n (nI (i + 1)) M1 = some (-1, N1) ∧ ∃ c, X12_rest_L2 n' (nI i) 1 M2 = some (c, 1, N2)) ∨ ∃ k, ∃ r' : Nat → Nat → Nat, k ≤ 20 ∧ X5_roundsToRest_L1 n (nI (i + 1)) M1 = some (nI k, N1) ∧ X12_rest_L2 n' (nI i) 1 M2 = some (nI k, 0, N2) ∧ okR mn kd r' ∧ RX46 N1 r' ∧ RM44 N2 r') := by
  have hmn := hR.2.2.1.1.1
  intro d
  induction d with
  | zero =>
    intro i hi n n' hn hn' M1 M2 r f1 f43 f2 _ _ _ _
    obtain ⟨n, rfl⟩ : ∃ k, n = k + 1 := ⟨n - 1, by omega⟩
    obtain ⟨n', rfl⟩ : ∃ k, n' = k + 1 := ⟨n' - 1, by omega⟩
    have : i = 20 := by omega
    subst this
    refine ⟨M1, M2, f1, f2, Or.inl ⟨?_, nI 20, ?_⟩⟩
    · rw [X5_roundsToRest_L1, if_pos (by decide)]
    · rw [X12_rest_L2, if_neg (by decide), if_pos (by decide)]
  | succ d ih =>
    intro i hi n n' hn hn' M1 M2 r f1 f43 f2 hr0 h46 h44 hO
    obtain ⟨n, rfl⟩ : ∃ k, n = k + 1 := ⟨n - 1, by omega⟩
    obtain ⟨n', rfl⟩ : ∃ k, n' = k + 1 := ⟨n' - 1, by omega⟩
    have f1' : Fr (fun a i => SX a i ∧ a ≠ 43) MX M1 := f1.less fun a i q _ => by
      by_cases z : a = 43
      · rw [z]; exact f43 i
      · exact f1.2 a i (fun y => q ⟨y, z⟩)
    have hR1 := hR.fr f1' f2 (fun a i q => by unfold SX; omega) (fun a i q => by unfold SMR SMs SMl SMg SBm S35 SO; omega) (by unfold SMR SMs SMl SMg SBm S35 SO; omega) (fun i q => by unfold SMR SMs SMl SMg SBm S35 SO; omega)
    obtain ⟨N1, N2, f, r', e1, e2, g1, g43, g2, jr, j46, j44, jO⟩ := round_c hR1 hr0 h46 h44 hO
    have em : X12_rest_L2 (n' + 1) (nI i) 1 M2 = X12_rest_L2 n' (nI (i + 1)) (b2i f) N2 := by
      rw [X12_rest_L2, if_neg (by decide), if_neg (show ¬ (20 : Int32) ≤ nI i from nI_ge (b := 20) (by omega) (by omega)), e2, bp_s, show nI i + 1 = nI (i + 1) from nI_add i 1]
    rw [e1 n (i + 1) (by omega), em]
    cases f with
    | true =>
      rw [if_pos rfl, show b2i true = 1 from rfl]
      exact ih (i + 1) (by omega) n n' (by omega) (by omega) N1 N2 r' (f1.tr g1) (fun j => (g43 j).trans (f43 j)) (f2.tr g2) jr j46 j44 jO
    | false =>
      obtain ⟨n', rfl⟩ : ∃ k, n' = k + 1 := ⟨n' - 1, by omega⟩
      refine ⟨N1, N2, f1.tr g1, f2.tr g2, Or.inr ⟨i + 1, r', by omega, by rw [if_neg Bool.false_ne_true], ?_, jr, j46, j44⟩⟩
      rw [X12_rest_L2, if_pos (by decide)]
      rfl
theorem spends0_c {M : Mem} : ∃ M', X12_rest_L1 zFU 0 M = some M' ∧ Fr (fun a i => a = 44) M M' ∧ ∀ i, i < 15 → M'.1 44 i = nI 0 := by
  have key := up_zFU (σ := Int32 × Mem) (fun n s => X12_rest_L1 n s.1 s.2) (fun i s => ∃ M1, s = (nI i, M1) ∧ Fr (fun a i => a = 44) M M1 ∧ ∀ j, j < i → M1.1 44 j = nI 0) (fun M1 => Fr (fun a i => a = 44) M M1 ∧ ∀ j, j < 15 → M1.1 44 j = nI 0) 15 (by omega) ?_ ?_ (0, M) 0 (by omega) ⟨M, rfl, Fr.rf, fun j hj => by omega⟩
  · obtain ⟨t, e, q⟩ := key
    exact ⟨t, e, q⟩
  · rintro n s ⟨M1, rfl, f, g⟩
    exact ⟨M1, by show X12_rest_L1 (n + 1) (nI 15) M1 = some M1; rw [X12_rest_L1, if_pos (by decide)], f, g⟩
  · rintro n i s hi ⟨M1, rfl, f, g⟩
    left
    refine ⟨(nI (i + 1), uI M1 44 i 0), ⟨_, rfl, f.up _ rfl, fun j hj => ?_⟩, ?_⟩
    · by_cases h : j = i
      · rw [h, uI_eq]; rfl
      · rw [uI_ne (by omega), g j (by omega)]
    · show X12_rest_L1 (n + 1) (nI i) M1 = X12_rest_L1 n (nI (i + 1)) (uI M1 44 i 0)
      rw [X12_rest_L1, if_neg (show ¬ (15 : Int32) ≤ nI i from nI_ge (b := 15) hi (by omega)), gd_in (by omega) (by omega), nI_clamp (by omega), lt_e, show nI i + 1 = nI (i + 1) from nI_add i 1]
theorem hours_x {M : Mem} {mn : Nat} {r : Nat → Nat → Nat} (hmn : mn ≤ 5) (h0 : M.1 23 0 = nI mn) (h51 : M.1 51 1 = nI 0) (h46 : RX46 M r) : ∃ M', X11_rest_L1 zFU 0 M = some M' ∧ Fr SHx M M' ∧ M'.1 51 1 = nI mn ∧ ∀ i, i < mn → M'.1 52 i = nI (r i 0 + r i 1 + r i 2) := by
  have key := up_zFU (σ := Int32 × Mem) (fun n s => X11_rest_L1 n s.1 s.2) (fun i s => ∃ M1, s = (nI i, M1) ∧ Fr SHx M M1 ∧ M1.1 51 1 = nI i ∧ ∀ j, j < i → M1.1 52 j = nI (r j 0 + r j 1 + r j 2)) (fun M1 => Fr SHx M M1 ∧ M1.1 51 1 = nI mn ∧ ∀ j, j < mn → M1.1 52 j = nI (r j 0 + r j 1 + r j 2)) mn (by omega) ?_ ?_ (0, M) 0 (by omega) ⟨M, rfl, Fr.rf, h51, fun j hj => by omega⟩
  · obtain ⟨t, e, q⟩ := key
    exact ⟨t, e, q⟩
  · rintro n s ⟨M1, rfl, f, g⟩
    exact ⟨M1, by show X11_rest_L1 (n + 1) (nI mn) M1 = some M1; rw [X11_rest_L1, f.2 23 0 (by unfold SHx; omega), h0, if_pos (nI_le (by omega) (by omega))], f, g⟩
  · rintro n i s hi ⟨M1, rfl, f, g1, g2⟩
    left
    have r46 : ∀ k, k < 3 → M1.1 46 (3 * i + k) = nI (r i k) := fun k hk => (f.2 46 _ (by unfold SHx; omega)).trans (h46 i k (by omega) hk)
    refine ⟨(nI (i + 1), uI (uI M1 52 i (nI (r i 0 + r i 1 + r i 2))) 51 1 (nI (i + 1))), ⟨_, rfl, (f.up _ (Or.inr rfl)).up _ (Or.inl ⟨rfl, rfl⟩), uI_eq _ _ _ _, fun j hj => ?_⟩, ?_⟩
    · rw [uI_ne (by omega)]
      by_cases h : j = i
      · rw [h, uI_eq]
      · rw [uI_ne (by omega), g2 j (by omega)]
    · show X11_rest_L1 (n + 1) (nI i) M1 = X11_rest_L1 n (nI (i + 1)) (uI (uI M1 52 i (nI (r i 0 + r i 1 + r i 2))) 51 1 (nI (i + 1)))
      rw [X11_rest_L1, f.2 23 0 (by unfold SHx; omega), h0, if_neg (nI_ge hi (by omega)), hoursOf_c (show i < 5 by omega) (r46 0 (by omega)) (r46 1 (by omega)) (r46 2 (by omega)), bo_s]
      unfold X7_lay
      rw [g1, if_neg (nI_pos (by omega)), if_neg (show ¬ (6 : Int32) ≤ nI i from nI_ge (b := 6) (by omega) (by omega)), nI_clamp (by omega), lt_e, lt_e, uI_ne (by omega), g1, show nI i + 1 = nI (i + 1) from nI_add i 1, lt_e]
theorem hours_m {M : Mem} {b mn : Nat} {r : Nat → Nat → Nat} (hmn : mn ≤ 5) (hb : M.1 0 41 = nI b) (b1 : b ≤ 1) (h4 : M.1 4 b = nI mn) (h44 : RM44 M r) : ∃ M', X12_rest_L3 zFU 0 M = some M' ∧ Fr (fun a _ => a = 37) M M' ∧ ∀ i, i < mn → M'.1 37 i = nI (r i 0 + r i 1 + r i 2) := by
  have key := up_zFU (σ := Int32 × Mem) (fun n s => X12_rest_L3 n s.1 s.2) (fun i s => ∃ M1, s = (nI i, M1) ∧ Fr (fun a _ => a = 37) M M1 ∧ ∀ j, j < i → M1.1 37 j = nI (r j 0 + r j 1 + r j 2)) (fun M1 => Fr (fun a _ => a = 37) M M1 ∧ ∀ j, j < mn → M1.1 37 j = nI (r j 0 + r j 1 + r j 2)) mn (by omega) ?_ ?_ (0, M) 0 (by omega) ⟨M, rfl, Fr.rf, fun j hj => by omega⟩
  · obtain ⟨t, e, q⟩ := key
    exact ⟨t, e, q⟩
  · rintro n s ⟨M1, rfl, f, g⟩
    exact ⟨M1, by show X12_rest_L3 (n + 1) (nI mn) M1 = some M1; rw [X12_rest_L3, many_c ((f.2 0 41 (by omega)).trans hb) b1 ((f.2 4 b (by omega)).trans h4), bo_s, if_pos (nI_le (by omega) (by omega))], f, g⟩
  · rintro n i s hi ⟨M1, rfl, f, g2⟩
    left
    refine ⟨(nI (i + 1), uI M1 37 i (nI (r i 0 + r i 1 + r i 2))), ⟨_, rfl, f.up _ rfl, fun j hj => ?_⟩, ?_⟩
    · by_cases h : j = i
      · rw [h, uI_eq]
      · rw [uI_ne (by omega), g2 j (by omega)]
    · show X12_rest_L3 (n + 1) (nI i) M1 = X12_rest_L3 n (nI (i + 1)) (uI M1 37 i (nI (r i 0 + r i 1 + r i 2)))
      have es : X12_spendsOf (nI i) M1 = some (nI (r i 0 + r i 1 + r i 2)) := by
        unfold X12_spendsOf
        have r0 := (f.2 44 (3 * i + 0) (by omega)).trans (h44 i 0 (by omega) (by omega))
        have r1 := (f.2 44 (3 * i + 1) (by omega)).trans (h44 i 1 (by omega) (by omega))
        have r2 := (f.2 44 (3 * i + 2) (by omega)).trans (h44 i 2 (by omega) (by omega))
        rw [Nat.add_zero] at r0
        rw [show (3 : Int32) * nI i = nI (3 * i) from nI_mul 3 i, show nI (3 * i) + 1 = nI (3 * i + 1) from nI_add _ 1, show nI (3 * i) + 2 = nI (3 * i + 2) from nI_add _ 2, gd_in (by omega) (by omega), gd_in (by omega) (by omega), gd_in (by omega) (by omega), nI_clamp (by omega), nI_clamp (by omega), nI_clamp (by omega), r0, r1, r2, nI_add, nI_add]
      rw [X12_rest_L3, many_c ((f.2 0 41 (by omega)).trans hb) b1 ((f.2 4 b (by omega)).trans h4), bo_s, if_neg (nI_ge hi (by omega)), es, bo_s, gd_in (by omega) (by omega), nI_clamp (by omega), lt_e, show nI i + 1 = nI (i + 1) from nI_add i 1]
theorem p2_rest : zStep RR (fun M => (dO dIM) (X11_rest M)) (fun M => (dO dIM) (X12_rest M)) := zs_MM fun MX MM hR => by
  obtain ⟨b, mn, kd, bn, hr, h⟩ := hR
  have h0 := shown h
  have h51 : (uI MX 51 1 0).1 51 1 = nI 0 := rfl
  have h55 : (uI MM 0 55 0).1 0 55 = nI 0 := rfl
  obtain ⟨c1, ha1, ha2, a3', a4, a5, c2, b1, b2, b3, b4, b5, b6, b7, b8, b9⟩ := h0.k
  obtain ⟨Z1, d1, f1, z1⟩ := clearRows_c (M := uI MX 51 1 0)
  obtain ⟨K1, k1, k2, k3⟩ := keepNow_c (M := uI MM 0 55 0)
  obtain ⟨K2, k4, k5, k6⟩ := spends0_c (M := K1)
  have fX1 : Fr SX (uI MX 51 1 0) Z1 := f1.wk (fun a i q => by unfold SX; omega)
  have fK : Fr SM (uI MM 0 55 0) K2 := (k2.wk (fun a i z => by unfold SM; omega)).tr (k5.wk (fun a i z => by unfold SM; omega))
  have h1 := h0.fr fX1 fK
  have hb : K2.1 0 41 = nI b := (fK.2 0 41 (by unfold SM; omega)).trans c2
  have hRST : RST Z1 K2 b mn kd bn hr (fun p k => Z1.1 (35 + 1) (15 + (3 * p + k))) := ⟨hb, c1, h1.1, fun m hm => RS.sk (o := 35) h1.2.1 (Or.inl rfl) h1.1 hb c1 hm⟩
  have hO := RS.ov (o := 35) (b := b) h1.2.1 ha1
  have ok0 : okR mn kd (fun _ _ => 0) := fun p => ⟨fun _ _ _ => rfl, Nat.zero_le 8⟩
  obtain ⟨N1, N2, f, r', e1, e2, g1, g43, g2, jr, j46, j44, jO⟩ := round_c (r := fun _ _ => 0) hRST ok0 (fun p k hp hk => z1 _ (by omega)) (fun p k hp hk => k6 _ (by omega)) hO
  -- both ends of the rounds
  have main : ∃ P1 P2, Fr SX Z1 P1 ∧ Fr (SMR mn) K2 P2 ∧ ((X5_roundsToRest_L1 zFU 0 Z1 = some (-1, P1) ∧ ∃ c, X12_rest_L2 zFU 0 (b2i f) N2 = some (c, 1, P2)) ∨ ∃ k, ∃ r' : Nat → Nat → Nat, k ≤ 20 ∧ X5_roundsToRest_L1 zFU 0 Z1 = some (nI k, P1) ∧ X12_rest_L2 zFU 0 (b2i f) N2 = some (nI k, 0, P2) ∧ okR mn kd r' ∧ RX46 P1 r' ∧ RM44 P2 r') := by
    have hz := zFU_ge
    obtain ⟨n, hn⟩ := zFU_s 1 (by omega)
    have ex : X5_roundsToRest_L1 zFU 0 Z1 = if f = true then X5_roundsToRest_L1 n (nI (0 + 1)) N1 else some (nI 0, N1) := by
      rw [hn]; exact e1 n 0 (by omega)
    rw [ex]
    cases f with
    | true =>
      rw [if_pos rfl]
      exact rest_loop hRST 20 0 (by omega) n zFU (by omega) (by omega) N1 N2 r' g1 g43 g2 jr j46 j44 jO
    | false =>
      rw [if_neg Bool.false_ne_true]
      refine ⟨N1, N2, g1, g2, Or.inr ⟨0, r', by omega, rfl, ?_, jr, j46, j44⟩⟩
      rw [hn, X12_rest_L2, if_pos (by decide)]
      rfl
  obtain ⟨P1, P2, p1, p2, hend⟩ := main
  obtain ⟨B, y1, y2, y3⟩ := bringBack_c (M := P2)
  have fP2 : Fr (fun a i => SMa a i ∧ a ≠ 42) K1 P2 := (k5.wk (fun a i z => ⟨Or.inl (by unfold SM; omega), by omega⟩)).tr (p2.wk (fun a i z => ⟨by unfold SMR SMs SMl SMg SBm S35 SO at z; unfold SMa SM SSm; omega, by unfold SMR SMs SMl SMg SBm S35 SO at z; omega⟩))
  have fB : Fr SM (uI MM 0 55 0) B := back_SM k2 k3 fP2 y2 y3
  have fX : Fr SX (uI MX 51 1 0) P1 := fX1.tr p1
  have hB := h0.fr fX fB
  obtain ⟨v1, va1, va2, va3, va4, va5, v2, vb1, vb2, _⟩ := hB.k
  unfold X11_rest X12_rest X7_clear X5_roundsToRest
  rw [lt_e (uI MX 51 1 0), lt_e (uI MX 51 1 0), d1, bo_s, lt_e, k1, bo_s, k4, b1_s, e2, bp_s]
  rcases hend with ⟨x1, c, x2⟩ | ⟨k, r2, hk, x1, x2, xr, x46, x44⟩
  · rw [x1, bp_s, if_pos rfl, x2, b3_s, y1, bo_s, if_neg (by decide)]
    exact ⟨_, _, _, rfl, rfl, b, mn, kd, bn, hr, hB⟩
  · obtain ⟨Q1, q1, q2, q3, q4⟩ := hours_x ha1 vb1 ((fX.2 51 1 (by unfold SX; omega)).trans h51) x46
    obtain ⟨Q2, q5, q6, q7⟩ := hours_m ha1 v2 v1 vb2 (fun p j hp hj => by rw [y2.2 44 _ (by unfold SSm; omega)]; exact x44 p j hp hj)
    rw [x1, bp_s, if_neg (nI_nm1 (by omega)), q1, b1_s, x2, b3_s, y1, bo_s, if_pos rfl, q5, b1_s, many_c ((q6.2 0 41 (by omega)).trans v2) v1 ((q6.2 4 b (by omega)).trans vb2), bo_s, lt_e]
    refine ⟨_, _, _, rfl, rfl, b, mn, kd, bn, hr, hB.frH (q2.wk (fun a i z => Or.inr z)) ((q6.wk (fun a i z => Or.inr (Or.inr z))).up _ (Or.inr (Or.inl ⟨rfl, rfl⟩))) ⟨mn, by omega, q3, rfl, fun i hi => ?_⟩⟩
    rw [uI_ne (by omega), q4 i hi, q7 i hi]
