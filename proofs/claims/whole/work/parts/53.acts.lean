/-! ===== phase 2: acts kept ===== -/
theorem uC_gg (M : Mem) (s d sp dp n a i : Nat) : (uC M s d sp dp n).1 a i = if a = d ∧ dp ≤ i ∧ i < dp + n then M.1 s (sp + (i - dp)) else M.1 a i := rfl
theorem save_c {M : Mem} {a s N : Nat} (hz : zlen zTX a = 42 * N) (hN : N < 100) (hs : s < N) (ha : a ≠ 36) : ∃ M', X9_saveTo 35 a (nI s) M = some M' ∧ Fr (fun x i => x = a ∧ 42 * s ≤ i ∧ i < 42 * s + 42) M M' ∧ ∀ j, j < 42 → M'.1 a (42 * s + j) = M.1 36 j := by
  unfold X9_saveTo
  have e1 : nI (42 * N) / 42 = nI N := by
    rw [show (42 : Int32) = nI 42 from rfl, nI_div (by omega) (by omega), Nat.mul_div_cancel_left _ (by omega)]
  have e2 : nI s * 42 = nI (42 * s) := by rw [show nI s * 42 = nI (s * 42) from nI_mul s 42, Nat.mul_comm]
  have e3 : cpOk 0 (nI (42 * s)) 42 42 (42 * N) = true := by
    unfold cpOk
    rw [nI_clamp (by omega)]
    have h1 : (0 : Int32).toNatClampNeg = 0 := rfl
    have h2 : (42 : Int32).toNatClampNeg = 42 := rfl
    rw [h1, h2]
    have h3 : (0 : Int32) ≤ 42 := by decide
    have h4 : 42 * s + 42 ≤ 42 * N := by omega
    simp [nI_pos' (show 42 * s < 2 ^ 31 by omega), h3, h4]
  rw [hz, e1, if_neg (nI_pos (by omega)), if_neg (nI_ge hs (by omega)), e2, gd_p e3, lt_e, nI_clamp (by omega)]
  refine ⟨_, rfl, Fr.rf.cp (fun b h1 h2 => ⟨rfl, h1, h2⟩), fun j hj => ?_⟩
  show (uC M 36 a 0 (42 * s) 42).1 a (42 * s + j) = _
  rw [uC_gg, if_pos ⟨rfl, by omega, by omega⟩, show 0 + (42 * s + j - 42 * s) = j by omega]
theorem load_c {M : Mem} {a s N : Nat} (hz : zlen zTX a = 42 * N) (hN : N < 100) (hs : s < N) (ha : a ≠ 36) : ∃ M', X9_loadFrom 35 a (nI s) M = some M' ∧ Fr (fun x i => x = 36 ∧ i < 42) M M' ∧ ∀ j, j < 42 → M'.1 36 j = M.1 a (42 * s + j) := by
  unfold X9_loadFrom
  have e1 : nI (42 * N) / 42 = nI N := by
    rw [show (42 : Int32) = nI 42 from rfl, nI_div (by omega) (by omega), Nat.mul_div_cancel_left _ (by omega)]
  have e2 : nI s * 42 = nI (42 * s) := by rw [show nI s * 42 = nI (s * 42) from nI_mul s 42, Nat.mul_comm]
  have e3 : cpOk (nI (42 * s)) 0 42 (42 * N) 42 = true := by
    unfold cpOk
    rw [nI_clamp (by omega)]
    have h1 : (0 : Int32).toNatClampNeg = 0 := rfl
    have h2 : (42 : Int32).toNatClampNeg = 42 := rfl
    rw [h1, h2]
    have h3 : (0 : Int32) ≤ 42 := by decide
    have h4 : 42 * s + 42 ≤ 42 * N := by omega
    simp [nI_pos' (show 42 * s < 2 ^ 31 by omega), h3, h4]
  rw [hz, e1, if_neg (nI_pos (by omega)), if_neg (nI_ge hs (by omega)), e2, gd_p e3, lt_e, nI_clamp (by omega)]
  refine ⟨_, rfl, Fr.rf.cp (fun b h1 h2 => ⟨rfl, by show b < 42; exact Nat.lt_of_lt_of_le h2 (by decide)⟩), fun j hj => ?_⟩
  show (uC M a 36 (42 * s) 0 42).1 36 j = _
  rw [uC_gg, if_pos ⟨rfl, by omega, by omega⟩]
  congr 1
theorem keep_x1 {M : Mem} {f d : Nat} (hf : f ≤ 40) (hd : d < 40) (h2 : M.1 39 2 = nI f) (h3 : M.1 39 3 = nI d) : ∃ M', X0_keep M = some M' ∧ Fr (fun x i => x = 39 ∨ (x = 40 ∧ 42 * ((f + (d + 1)) % 41) ≤ i ∧ i < 42 * ((f + (d + 1)) % 41) + 42)) M M' ∧ M'.1 39 2 = nI f ∧ M'.1 39 3 = nI (d + 1) ∧ M'.1 39 4 = nI (d + 1) ∧ ∀ j, j < 42 → M'.1 40 (42 * ((f + (d + 1)) % 41) + j) = M.1 36 j := by
  obtain ⟨M', e, g, q⟩ := save_c (M := uI (uI M 39 3 (nI (d + 1))) 39 4 (nI (d + 1))) (a := 40) (N := 41) (s := (f + (d + 1)) % 41) zlX_40 (by omega) (Nat.mod_lt _ (by omega)) (by omega)
  refine ⟨M', ?_, ((Fr.rf.up _ (Or.inl rfl)).up _ (Or.inl rfl)).tr (g.wk (fun a i h => Or.inr h)), (g.2 39 2 (by omega)).trans h2, (g.2 39 3 (by omega)).trans rfl, (g.2 39 4 (by omega)).trans rfl, fun j hj => (q j hj).trans rfl⟩
  unfold X0_keep X0_slotOfNow
  rw [h3, if_neg (show ¬ (40 : Int32) ≤ nI d from nI_ge (b := 40) hd (by omega)), lt_e, show nI d + 1 = nI (d + 1) from nI_add d 1, l1_s, lt_e, uI_eq, uI_ne (by omega), uI_ne (by omega), h2, uI_ne (by omega), uI_eq, nI_add, show nI (f + (d + 1)) % 41 = nI ((f + (d + 1)) % 41) from nI_mod (b := 41) (by omega) (by omega), e, bo_s]
theorem keep_x2 {M : Mem} {f d : Nat} (hf : f ≤ 40) (hd : d = 40) (h2 : M.1 39 2 = nI f) (h3 : M.1 39 3 = nI d) : ∃ M', X0_keep M = some M' ∧ Fr (fun x i => x = 39 ∨ (x = 40 ∧ 42 * f ≤ i ∧ i < 42 * f + 42)) M M' ∧ M'.1 39 2 = nI ((f + 1) % 41) ∧ M'.1 39 3 = nI 40 ∧ M'.1 39 4 = nI 40 ∧ ∀ j, j < 42 → M'.1 40 (42 * f + j) = M.1 36 j := by
  subst hd
  have es : ((f + 1) % 41 + 40) % 41 = f := by omega
  obtain ⟨M', e, g, q⟩ := save_c (M := uI (uI M 39 2 (nI ((f + 1) % 41))) 39 4 (nI 40)) (a := 40) (N := 41) (s := f) zlX_40 (by omega) (by omega) (by omega)
  refine ⟨M', ?_, ((Fr.rf.up _ (Or.inl rfl)).up _ (Or.inl rfl)).tr (g.wk (fun a i h => Or.inr h)), (g.2 39 2 (by omega)).trans rfl, (g.2 39 3 (by omega)).trans h3, (g.2 39 4 (by omega)).trans rfl, fun j hj => (q j hj).trans rfl⟩
  unfold X0_keep X0_slotOfNow
  rw [h3, if_pos (show (40 : Int32) ≤ nI 40 by decide), h2, lt_e, show nI f + 1 = nI (f + 1) from nI_add f 1, show nI (f + 1) % 41 = nI ((f + 1) % 41) from nI_mod (b := 41) (by omega) (by omega), l1_s, show (uI M 39 2 (nI ((f + 1) % 41))).1 39 3 = nI 40 from (uI_ne (by omega)).trans h3, lt_e, show (uI (uI M 39 2 (nI ((f + 1) % 41))) 39 4 (nI 40)).1 39 2 = nI ((f + 1) % 41) from rfl, show (uI (uI M 39 2 (nI ((f + 1) % 41))) 39 4 (nI 40)).1 39 3 = nI 40 from h3, nI_add, show nI ((f + 1) % 41 + 40) % 41 = nI (((f + 1) % 41 + 40) % 41) from nI_mod (b := 41) (by omega) (by omega), es, e, bo_s]
theorem shift_c {M : Mem} : ∃ M', X12_keepAct_L1 zFU 0 M = some M' ∧ Fr (fun x i => x = 34) M M' ∧ ∀ k, k < 1680 → M'.1 34 k = M.1 34 (k + 42) := by
  have key := up_zFU (σ := Int32 × Mem) (fun n s => X12_keepAct_L1 n s.1 s.2) (fun i s => ∃ M1, s = (nI i, M1) ∧ Fr (fun x i => x = 34) M M1 ∧ (∀ k, k < i → M1.1 34 k = M.1 34 (k + 42)) ∧ ∀ k, i ≤ k → M1.1 34 k = M.1 34 k) (fun M1 => Fr (fun x i => x = 34) M M1 ∧ (∀ k, k < 1680 → M1.1 34 k = M.1 34 (k + 42))) 1680 (by omega) ?_ ?_ (0, M) 0 (by omega) ⟨M, rfl, Fr.rf, fun k hk => by omega, fun _ _ => rfl⟩
  · obtain ⟨t, e, q⟩ := key
    exact ⟨t, e, q⟩
  · rintro n s ⟨M1, rfl, f, q, _⟩
    exact ⟨M1, by show X12_keepAct_L1 (n + 1) (nI 1680) M1 = some M1; rw [X12_keepAct_L1, if_pos (by decide)], f, q⟩
  · rintro n i s hi ⟨M1, rfl, f, q1, q2⟩
    left
    refine ⟨(nI (i + 1), uI M1 34 i (M1.1 34 (i + 42))), ⟨_, rfl, f.up _ rfl, fun k hk => ?_, fun k hk => ?_⟩, ?_⟩
    · by_cases h : k = i
      · rw [h, uI_eq, q2 _ (by omega)]
      · rw [uI_ne (by omega), q1 k (by omega)]
    · rw [uI_ne (by omega), q2 k (by omega)]
    · show X12_keepAct_L1 (n + 1) (nI i) M1 = X12_keepAct_L1 n (nI (i + 1)) (uI M1 34 i (M1.1 34 (i + 42)))
      rw [X12_keepAct_L1, if_neg (show ¬ (1680 : Int32) ≤ nI i from nI_ge (b := 1680) hi (by omega)), show nI i + 42 = nI (i + 42) from nI_add i 42, gd_in (by omega) (by omega), gd_in (by omega) (by omega), nI_clamp (by omega), nI_clamp (by omega), lt_e, show nI i + 1 = nI (i + 1) from nI_add i 1]
theorem store_c {M : Mem} {d : Nat} (hd : d ≤ 40) (h : M.1 0 50 = nI d) : ∃ M', X12_keepAct_L2 zFU 0 M = some M' ∧ Fr (fun x i => x = 34 ∧ 42 * d ≤ i ∧ i < 42 * d + 42) M M' ∧ ∀ k, k < 42 → M'.1 34 (42 * d + k) = M.1 33 k := by
  have key := up_zFU (σ := Int32 × Mem) (fun n s => X12_keepAct_L2 n s.1 s.2) (fun i s => ∃ M1, s = (nI i, M1) ∧ Fr (fun x i => x = 34 ∧ 42 * d ≤ i ∧ i < 42 * d + 42) M M1 ∧ (∀ k, k < i → M1.1 34 (42 * d + k) = M.1 33 k)) (fun M1 => Fr (fun x i => x = 34 ∧ 42 * d ≤ i ∧ i < 42 * d + 42) M M1 ∧ (∀ k, k < 42 → M1.1 34 (42 * d + k) = M.1 33 k)) 42 (by omega) ?_ ?_ (0, M) 0 (by omega) ⟨M, rfl, Fr.rf, fun k hk => by omega⟩
  · obtain ⟨t, e, q⟩ := key
    exact ⟨t, e, q⟩
  · rintro n s ⟨M1, rfl, f, q⟩
    exact ⟨M1, by show X12_keepAct_L2 (n + 1) (nI 42) M1 = some M1; rw [X12_keepAct_L2, if_pos (by decide)], f, q⟩
  · rintro n i s hi ⟨M1, rfl, f, q1⟩
    left
    refine ⟨(nI (i + 1), uI M1 34 (42 * d + i) (M.1 33 i)), ⟨_, rfl, f.up _ ⟨rfl, by omega, by omega⟩, fun k hk => ?_⟩, ?_⟩
    · by_cases h : k = i
      · rw [h, uI_eq]
      · rw [uI_ne (by omega), q1 k (by omega)]
    · show X12_keepAct_L2 (n + 1) (nI i) M1 = X12_keepAct_L2 n (nI (i + 1)) (uI M1 34 (42 * d + i) (M.1 33 i))
      rw [X12_keepAct_L2, if_neg (show ¬ (42 : Int32) ≤ nI i from nI_ge (b := 42) hi (by omega)), gd_in (by omega) (by omega), f.2 0 50 (by omega), h, show (42 : Int32) * nI d = nI (42 * d) from nI_mul 42 d, nI_add, gd_in (by omega) (by omega), nI_clamp (by omega), nI_clamp (by omega), f.2 33 i (by omega), lt_e, show nI i + 1 = nI (i + 1) from nI_add i 1]
/-- cells of the acts -/
def SAx (a i : Nat) : Prop := a = 36 ∨ a = 39 ∨ a = 40
def SAm (a i : Nat) : Prop := a = 33 ∨ a = 34 ∨ (a = 0 ∧ (i = 50 ∨ i = 51))
/-- an act: the class changes what is now and keeps it, the reference keeps it and changes it -/
theorem keep_c {MX MM MX1 : Mem} {b mn kd bn hr : Nat} (h : RP MX.1 MM.1 b mn kd bn hr) (fX : Fr (fun a i => a = 36 ∧ i < 42) MX MX1) :
    ∃ MX2 MM1, X0_keep MX1 = some MX2 ∧ X12_keepAct MM = some MM1 ∧ Fr SAx MX MX2 ∧ Fr (fun a i => a = 34 ∨ (a = 0 ∧ (i = 50 ∨ i = 51))) MM MM1 ∧ (∀ j, MX2.1 36 j = MX1.1 36 j) ∧ ∀ MM2, Fr (fun a i => a = 33 ∧ i < 42) MM1 MM2 → RA MX2.1 MM2.1 mn kd hr := by
  obtain ⟨_, hS, ⟨f, d, e, q1, q2, q3, q4, q5, q6, q7, q8, q9, q10, q11⟩, _⟩ := h
  have k2 : MX1.1 39 2 = nI f := (fX.2 39 2 (by omega)).trans q4
  have k3 : MX1.1 39 3 = nI d := (fX.2 39 3 (by omega)).trans q5
  -- a state of the past, told anew
  have same : ∀ (c g c' g' : Nat → Int32), RS c g mn kd hr 999 → (∀ j, j < 42 → c' j = c j) → (∀ j, j < 42 → g' j = g j) → RS c' g' mn kd hr 999 := fun c g c' g' r h1 h2 => r.cg h1 h2
  by_cases hd : d < 40
  · obtain ⟨MX2, e1, g1, g2, g3, g4, g5⟩ := keep_x1 q1 hd k2 k3
    obtain ⟨M13, e2, g6, g7⟩ := store_c (M := MM) (d := d) (by omega) q7
    refine ⟨MX2, uI (uI M13 0 50 (nI (d + 1))) 0 51 0, e1, ?_, (fX.wk (fun a i h => Or.inl h.1)).tr (g1.wk (fun a i h => by first | omega | (unfold SAx; omega))), ((g6.wk (fun a i h => Or.inl h.1)).up _ (Or.inr ⟨rfl, Or.inl rfl⟩)).up _ (Or.inr ⟨rfl, Or.inr rfl⟩), fun j => g1.2 36 j (by omega), fun MM2 fr => ?_⟩
    · unfold X12_keepAct
      rw [q7, if_neg (show ¬ nI d = 40 by rw [show (40 : Int32) = nI 40 from rfl, nI_eq (by omega) (by omega)]; omega), b1_s, e2, b1_s, g6.2 0 50 (by omega), q7, lt_e, show nI d + 1 = nI (d + 1) from nI_add d 1, lt_e]
    · have fr34 : ∀ i, MM2.1 34 i = M13.1 34 i := fun i => (fr.2 34 i (by omega)).trans rfl
      refine ⟨f, d + 1, d + 1, q1, by omega, by omega, g2, g3, g4, (fr.2 0 50 (by omega)).trans rfl, (fr.2 0 51 (by omega)).trans (by rw [Nat.sub_self]; rfl), fun j hj => ?_, fun i hi => ?_, fun i h1 h2 => by omega⟩
      · rw [g5 j hj]
        exact (g1.2 36 j (by omega)).symm
      · have x40 : ∀ j, j < 42 → MX2.1 40 (42 * ((f + i) % 41) + j) = MX.1 40 (42 * ((f + i) % 41) + j) := fun j hj => by
          rw [g1.2 40 _ (by omega), fX.2 40 _ (by omega)]
        by_cases hid : i = d
        · refine same _ _ _ _ hS (fun j hj => ?_) (fun j hj => ?_)
          · rw [x40 j hj, hid, q9 j hj]
          · rw [fr34, hid, g7 j hj]
        · refine same _ _ _ _ (q10 i (by omega)) (fun j hj => x40 j hj) (fun j hj => ?_)
          rw [fr34, g6.2 34 _ (by omega)]
  · have hd40 : d = 40 := by omega
    obtain ⟨MX2, e1, g1, g2, g3, g4, g5⟩ := keep_x2 q1 hd40 k2 k3
    obtain ⟨M6, e2, g6, g7⟩ := shift_c (M := MM)
    have h39 : (uI M6 0 50 (nI 39)).1 0 50 = nI 39 := rfl
    obtain ⟨M13, e3, g8, g9⟩ := store_c (M := uI M6 0 50 (nI 39)) (d := 39) (by omega) h39
    refine ⟨MX2, uI (uI M13 0 50 (nI 40)) 0 51 0, e1, ?_, (fX.wk (fun a i h => Or.inl h.1)).tr (g1.wk (fun a i h => by first | omega | (unfold SAx; omega))), ((((g6.wk (fun a i h => Or.inl h)).up _ (Or.inr ⟨rfl, Or.inl rfl⟩)).tr (g8.wk (fun a i h => Or.inl h.1))).up _ (Or.inr ⟨rfl, Or.inl rfl⟩)).up _ (Or.inr ⟨rfl, Or.inr rfl⟩), fun j => g1.2 36 j (by omega), fun MM2 fr => ?_⟩
    · unfold X12_keepAct
      rw [q7, hd40, if_pos (show nI 40 = 40 from rfl), e2, b1_s, g6.2 0 50 (by omega), q7, hd40, show nI 40 - 1 = nI 39 from rfl, lt_e, b1_s, e3, b1_s, g8.2 0 50 (by omega), h39, lt_e, show nI 39 + 1 = nI 40 from rfl, lt_e]
    · have fr34 : ∀ i, MM2.1 34 i = M13.1 34 i := fun i => (fr.2 34 i (by omega)).trans rfl
      refine ⟨(f + 1) % 41, 40, 40, by omega, by omega, by omega, g2, g3, g4, (fr.2 0 50 (by omega)).trans rfl, (fr.2 0 51 (by omega)).trans rfl, fun j hj => ?_, fun i hi => ?_, fun i h1 h2 => by omega⟩
      · rw [show ((f + 1) % 41 + 40) % 41 = f by omega, g5 j hj]
        exact (g1.2 36 j (by omega)).symm
      · have es : ((f + 1) % 41 + i) % 41 = (f + (i + 1)) % 41 := by omega
        have x40 : ∀ j, j < 42 → MX2.1 40 (42 * (((f + 1) % 41 + i) % 41) + j) = MX.1 40 (42 * ((f + (i + 1)) % 41) + j) := fun j hj => by
          rw [es, g1.2 40 _ (by omega), fX.2 40 _ (by omega)]
        by_cases hid : i = 39
        · refine same _ _ _ _ hS (fun j hj => ?_) (fun j hj => ?_)
          · rw [x40 j hj, hid, show 39 + 1 = d by omega, q9 j hj]
          · rw [fr34, hid, g9 j hj]
            exact (g6.2 33 j (by omega))
        · refine same _ _ _ _ (q10 (i + 1) (by omega)) (fun j hj => x40 j hj) (fun j hj => ?_)
          rw [fr34, g8.2 34 _ (by omega), uI_ne (by omega), g7 _ (by omega), show 42 * i + j + 42 = 42 * (i + 1) + j by omega]
/-- what stays when an act is done -/
theorem RP.act {MX MX' MM MM' : Mem} {b mn kd bn hr : Nat} (h : RP MX.1 MM.1 b mn kd bn hr) (hX : Fr (fun a i => SX a i ∨ SAx a i) MX MX') (hM : Fr (fun a i => SM a i ∨ SAm a i) MM MM') (hS : RS (MX'.1 36) (MM'.1 33) mn kd hr 999) (hA : RA MX'.1 MM'.1 mn kd hr) : RP MX'.1 MM'.1 b mn kd bn hr := by
  obtain ⟨h1, h2, h3, h4, h5, h6, h7, h8⟩ := h
  have kX := hX.2
  have kM := hM.2
  refine ⟨h1.cg (fun a i _ _ => kX a i (by unfold SX SAx; omega)) (fun a i _ _ => kM a i (by unfold SM SAm; omega)), hS, hA,
    h4.cg (fun a i _ => kX a i (by unfold SX SAx; omega)) (fun a i _ => kM a i (by unfold SM SAm; omega)),
    h5.cg (kX _ _ (by unfold SX SAx; omega)) (fun i => kX _ _ (by unfold SX SAx; omega)) (kM _ _ (by unfold SM SAm; omega)) (fun i => kM _ _ (by unfold SM SAm; omega)),
    h6.cg (kX _ _ (by unfold SX SAx; omega)) (kX _ _ (by unfold SX SAx; omega)) (fun a i _ _ => kX _ _ (by unfold SX SAx; omega)) (kM _ _ (by unfold SM SAm; omega)) (kM _ _ (by unfold SM SAm; omega)) (fun a i _ _ => kM _ _ (by unfold SM SAm; omega)),
    h7.cg (kX _ _ (by unfold SX SAx; omega)) (fun i => kX _ _ (by unfold SX SAx; omega)) (kM _ _ (by unfold SM SAm; omega)) (fun i => kM _ _ (by unfold SM SAm; omega)),
    h8.cg (kX _ _ (by unfold SX SAx; omega)) (kX _ _ (by unfold SX SAx; omega)) (fun i => kX _ _ (by unfold SX SAx; omega)) (fun i => kX _ _ (by unfold SX SAx; omega)) (kM _ _ (by unfold SM SAm; omega)) (kM _ _ (by unfold SM SAm; omega)) (kM _ _ (by unfold SM SAm; omega))⟩
