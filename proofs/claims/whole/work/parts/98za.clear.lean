/-! ===== phase 2: the draft, cleared ===== -/
theorem wr1_loop (G : Nat → Int32 → Mem → Option Mem) (M : Mem) (a1 off n : Nat) (v : Nat → Int32) (hn : n < 100000) (h0 : ∀ N s, (∀ a j, a ≠ a1 → s.1 a j = M.1 a j) → G (N + 1) (nI n) s = some s) (h1 : ∀ N i s, i < n → (∀ a j, a ≠ a1 → s.1 a j = M.1 a j) → G (N + 1) (nI i) s = G N (nI (i + 1)) (uI s a1 (off + i) (v i))) : ∃ M', G zFU 0 M = some M' ∧ Fr (fun a j => a = a1 ∧ off ≤ j ∧ j < off + n) M M' ∧ ∀ i, i < n → M'.1 a1 (off + i) = v i := by
  have key := up_zFU (σ := Int32 × Mem) (fun N s => G N s.1 s.2) (fun k s => ∃ T, s = (nI k, T) ∧ Fr (fun a j => a = a1 ∧ off ≤ j ∧ j < off + n) M T ∧ ∀ i, i < k → T.1 a1 (off + i) = v i) (fun t => Fr (fun a j => a = a1 ∧ off ≤ j ∧ j < off + n) M t ∧ ∀ i, i < n → t.1 a1 (off + i) = v i) n (by omega) (by
    rintro N s ⟨T, rfl, f, g⟩
    exact ⟨T, h0 N T (fun a j z => f.2 a j (fun y => z y.1)), f, g⟩) (by
    rintro N k s hk ⟨T, rfl, f, g⟩
    left
    refine ⟨(nI (k + 1), uI T a1 (off + k) (v k)), ⟨_, rfl, f.up _ ⟨rfl, by omega, by omega⟩, fun i hi => ?_⟩, h1 N k T hk (fun a j z => f.2 a j (fun y => z y.1))⟩
    by_cases z : i = k
    · rw [z, uI_eq]
    · rw [uI_ne (by omega), g i (by omega)]) (0, M) 0 (by omega) ⟨M, rfl, Fr.rf, fun i hi => by omega⟩
  obtain ⟨t, e, f, g⟩ := key
  exact ⟨t, e, f, g⟩
theorem wr2_loop (G : Nat → Int32 → Mem → Option Mem) (M : Mem) (a1 a2 n : Nat) (v1 v2 : Int32) (ha : a1 ≠ a2) (hn : n < 100000) (h0 : ∀ N s, G (N + 1) (nI n) s = some s) (h1 : ∀ N i s, i < n → G (N + 1) (nI i) s = G N (nI (i + 1)) (uI (uI s a1 i v1) a2 i v2)) : ∃ M', G zFU 0 M = some M' ∧ Fr (fun a j => (a = a1 ∨ a = a2) ∧ j < n) M M' ∧ ∀ i, i < n → M'.1 a1 i = v1 ∧ M'.1 a2 i = v2 := by
  have key := up_zFU (σ := Int32 × Mem) (fun N s => G N s.1 s.2) (fun k s => ∃ T, s = (nI k, T) ∧ Fr (fun a j => (a = a1 ∨ a = a2) ∧ j < n) M T ∧ ∀ i, i < k → T.1 a1 i = v1 ∧ T.1 a2 i = v2) (fun t => Fr (fun a j => (a = a1 ∨ a = a2) ∧ j < n) M t ∧ ∀ i, i < n → t.1 a1 i = v1 ∧ t.1 a2 i = v2) n (by omega) (by
    rintro N s ⟨T, rfl, f, g⟩
    exact ⟨T, h0 N T, f, g⟩) (by
    rintro N k s hk ⟨T, rfl, f, g⟩
    left
    refine ⟨(nI (k + 1), uI (uI T a1 k v1) a2 k v2), ⟨_, rfl, (f.up _ ⟨Or.inl rfl, hk⟩).up _ ⟨Or.inr rfl, hk⟩, fun i hi => ?_⟩, h1 N k T hk⟩
    by_cases z : i = k
    · rw [z, uI_ne (by omega), uI_eq, uI_eq]; exact ⟨rfl, rfl⟩
    · rw [uI_ne (by omega), uI_ne (by omega), uI_ne (by omega), uI_ne (by omega)]; exact g i (by omega)) (0, M) 0 (by omega) ⟨M, rfl, Fr.rf, fun i hi => by omega⟩
  obtain ⟨t, e, f, g⟩ := key
  exact ⟨t, e, f, g⟩
def SXc (a i : Nat) : Prop := (a = 4 ∧ i < 6) ∨ (6 ≤ a ∧ a ≤ 11) ∨ (a = 13 ∧ (i = 2 ∨ i = 3))
theorem clear4_c {M : Mem} : ∃ M', X3_clear 4 M = some M' ∧ Fr SXc M M' ∧ (M'.1 4 0 = 0 ∧ M'.1 4 1 = 0 ∧ M'.1 4 2 = 0 ∧ M'.1 4 3 = 0 ∧ M'.1 4 4 = 6 ∧ M'.1 4 5 = 0) ∧ (∀ i, i < 5 → M'.1 6 i = 0 ∧ M'.1 7 i = 10) ∧ (∀ i, i < 15 → M'.1 8 i = 0 ∧ M'.1 9 i = 0) ∧ (∀ i, i < 9 → M'.1 10 i = 0 ∧ M'.1 11 i = 0) ∧ M'.1 13 2 = 0 ∧ M'.1 13 3 = 0 := by
  have z6 : zlen zTX 6 = 5 := zlen_of aX_6
  have z7 : zlen zTX 7 = 5 := zlen_of aX_7
  have z8 : zlen zTX 8 = 15 := zlen_of aX_8
  have z9 : zlen zTX 9 = 15 := zlen_of aX_9
  have z10 : zlen zTX 10 = 9 := zlen_of aX_10
  have z11 : zlen zTX 11 = 9 := zlen_of aX_11
  obtain ⟨U, hU⟩ : ∃ U, U = uI (uI (uI (uI (uI (uI M 4 0 0) 4 1 0) 4 2 0) 4 3 0) 4 4 6) 4 5 0 := ⟨_, rfl⟩
  have fU : Fr SXc M U := by
    rw [hU]
    exact (((((Fr.rf.up _ (by unfold SXc; omega)).up _ (by unfold SXc; omega)).up _ (by unfold SXc; omega)).up _ (by unfold SXc; omega)).up _ (by unfold SXc; omega)).up _ (by unfold SXc; omega)
  obtain ⟨A, eA, fA, gA⟩ := wr2_loop (X3_clear_L1 4) U 6 7 5 0 10 (by omega) (by omega) (fun N s => by rw [X3_clear_L1, if_pos (by decide)]) (fun N i s hi => by
    rw [X3_clear_L1, if_neg (show ¬ (5 : Int32) ≤ nI i from nI_ge (b := 5) hi (by omega)), show (4 + 2 : Nat) = 6 from rfl, show (4 + 3 : Nat) = 7 from rfl, xp_in (by rw [z6]; omega), lt_e (uI s 6 i 0), xp_in (by rw [z7]; omega), lt_e, show nI i + 1 = nI (i + 1) from nI_add i 1])
  obtain ⟨B, eB, fB, gB⟩ := wr2_loop (X3_clear_L2 4) A 8 9 15 0 0 (by omega) (by omega) (fun N s => by rw [X3_clear_L2, if_pos (by decide)]) (fun N i s hi => by
    rw [X3_clear_L2, if_neg (show ¬ (15 : Int32) ≤ nI i from nI_ge (b := 15) hi (by omega)), show (4 + 4 : Nat) = 8 from rfl, show (4 + 5 : Nat) = 9 from rfl, xp_in (by rw [z8]; omega), lt_e (uI s 8 i 0), xp_in (by rw [z9]; omega), lt_e, show nI i + 1 = nI (i + 1) from nI_add i 1])
  obtain ⟨C, eC, fC, gC⟩ := wr2_loop (X3_clear_L3 4) B 10 11 9 0 0 (by omega) (by omega) (fun N s => by rw [X3_clear_L3, if_pos (by decide)]) (fun N i s hi => by
    rw [X3_clear_L3, if_neg (show ¬ (9 : Int32) ≤ nI i from nI_ge (b := 9) hi (by omega)), show (4 + 6 : Nat) = 10 from rfl, show (4 + 7 : Nat) = 11 from rfl, xp_in (by rw [z10]; omega), lt_e (uI s 10 i 0), xp_in (by rw [z11]; omega), lt_e, show nI i + 1 = nI (i + 1) from nI_add i 1])
  have fBA : ∀ a i, ¬ (8 ≤ a ∧ a ≤ 11) → C.1 a i = A.1 a i := fun a i z => by rw [fC.2 a i (by omega), fB.2 a i (by omega)]
  have c4 : ∀ i, C.1 4 i = U.1 4 i := fun i => by rw [fBA 4 i (by omega), fA.2 4 i (by omega)]
  obtain ⟨M', hM'⟩ : ∃ M', M' = uI (uI C 13 2 0) 13 3 0 := ⟨_, rfl⟩
  have mC : ∀ a i, ¬ (a = 13 ∧ (i = 2 ∨ i = 3)) → M'.1 a i = C.1 a i := fun a i z => by rw [hM', uI_ne (by omega), uI_ne (by omega)]
  refine ⟨M', ?_, ?_, ⟨?_, ?_, ?_, ?_, ?_, ?_⟩, fun i hi => ?_, fun i hi => ?_, fun i hi => ?_, ?_, ?_⟩
  · unfold X3_clear X1_clear
    rw [lt_e (uI M 4 0 0), lt_e (uI (uI M 4 0 0) 4 1 0), lt_e (uI (uI (uI M 4 0 0) 4 1 0) 4 2 0), lt_e (uI (uI (uI (uI M 4 0 0) 4 1 0) 4 2 0) 4 3 0), lt_e (uI (uI (uI (uI (uI M 4 0 0) 4 1 0) 4 2 0) 4 3 0) 4 4 6), lt_e (uI (uI (uI (uI (uI (uI M 4 0 0) 4 1 0) 4 2 0) 4 3 0) 4 4 6) 4 5 0), ← hU, eA, b1_s, eB, b1_s, eC, b1_s, hM']
    rfl
  · have f := ((fU.tr (fA.wk (fun a i z => by unfold SXc; omega))).tr (fB.wk (fun a i z => by unfold SXc; omega))).tr (fC.wk (fun a i z => by unfold SXc; omega))
    rw [hM']
    exact (f.up _ (by unfold SXc; omega)).up _ (by unfold SXc; omega)
  · rw [mC 4 0 (by omega), c4, hU]; rfl
  · rw [mC 4 1 (by omega), c4, hU]; rfl
  · rw [mC 4 2 (by omega), c4, hU]; rfl
  · rw [mC 4 3 (by omega), c4, hU]; rfl
  · rw [mC 4 4 (by omega), c4, hU]; rfl
  · rw [mC 4 5 (by omega), c4, hU]; rfl
  · rw [mC 6 i (by omega), mC 7 i (by omega), fBA 6 i (by omega), fBA 7 i (by omega)]; exact gA i hi
  · rw [mC 8 i (by omega), mC 9 i (by omega), fC.2 8 i (by omega), fC.2 9 i (by omega)]; exact gB i hi
  · rw [mC 10 i (by omega), mC 11 i (by omega)]; exact gC i hi
  · rw [hM', uI_ne (by omega), uI_eq]
  · rw [hM', uI_eq]
def SXt (a i : Nat) : Prop := (a = 3 ∧ (i = 8 ∨ i = 9 ∨ i = 10)) ∨ a = 20 ∨ a = 21 ∨ a = 22
theorem forgetTold_c {M : Mem} : ∃ M', X4_forgetTold M = some M' ∧ Fr SXt M M' ∧ (M'.1 3 8 = 0 ∧ M'.1 3 9 = 0 ∧ M'.1 3 10 = 0) ∧ (∀ i, i < 5 → M'.1 22 i = 0) ∧ (∀ i, i < 15 → M'.1 20 i = 0 ∧ M'.1 21 i = 0) := by
  obtain ⟨U, hU⟩ : ∃ U, U = uI (uI (uI M 3 8 0) 3 9 0) 3 10 0 := ⟨_, rfl⟩
  have fU : Fr SXt M U := by
    rw [hU]
    exact ((Fr.rf.up _ (by unfold SXt; omega)).up _ (by unfold SXt; omega)).up _ (by unfold SXt; omega)
  obtain ⟨A, eA, fA, gA⟩ := wr1_loop X4_forgetTold_L1 U 22 0 5 (fun _ => 0) (by omega) (fun N s _ => by rw [X4_forgetTold_L1, if_pos (by decide)]) (fun N i s hi _ => by
    rw [X4_forgetTold_L1, if_neg (show ¬ (5 : Int32) ≤ nI i from nI_ge (b := 5) hi (by omega)), gd_in (by omega) (by omega), nI_clamp (by omega), lt_e, show nI i + 1 = nI (i + 1) from nI_add i 1, Nat.zero_add])
  obtain ⟨B, eB, fB, gB⟩ := wr2_loop X4_forgetTold_L2 A 20 21 15 0 0 (by omega) (by omega) (fun N s => by rw [X4_forgetTold_L2, if_pos (by decide)]) (fun N i s hi => by
    rw [X4_forgetTold_L2, if_neg (show ¬ (15 : Int32) ≤ nI i from nI_ge (b := 15) hi (by omega)), if_neg (show ¬ (15 : Int32) ≤ nI i from nI_ge (b := 15) hi (by omega)), gd_in (by omega) (by omega), nI_clamp (by omega), lt_e (uI s 20 i 0), gd_in (by omega) (by omega), lt_e, show nI i + 1 = nI (i + 1) from nI_add i 1])
  have c3 : ∀ i, B.1 3 i = U.1 3 i := fun i => by rw [fB.2 3 i (by omega), fA.2 3 i (by omega)]
  refine ⟨B, ?_, (fU.tr (fA.wk (fun a i z => by unfold SXt; omega))).tr (fB.wk (fun a i z => by unfold SXt; omega)), ⟨?_, ?_, ?_⟩, fun i hi => ?_, gB⟩
  · unfold X4_forgetTold
    rw [lt_e (uI M 3 8 0), lt_e (uI (uI M 3 8 0) 3 9 0), lt_e (uI (uI (uI M 3 8 0) 3 9 0) 3 10 0), ← hU, eA, b1_s, eB, b1_s]
  · rw [c3, hU]; rfl
  · rw [c3, hU]; rfl
  · rw [c3, hU]; rfl
  · rw [fB.2 22 i (by omega)]
    have := gA i hi
    rw [Nat.zero_add] at this
    exact this
theorem and255 (x : Int32) : ∃ t : Nat, t < 256 ∧ x &&& 255 = nI t := by
  refine ⟨(x &&& 255).toBitVec.toNat, ?_, ?_⟩
  · have : (x &&& 255).toBitVec = x.toBitVec &&& 255#32 := rfl
    rw [this, BitVec.toNat_and]
    have : x.toBitVec.toNat &&& (255#32).toNat ≤ (255#32).toNat := Nat.and_le_right
    have e : (255#32).toNat = 255 := rfl
    rw [e] at this ⊢
    omega
  · apply Int32.toBitVec_inj.mp
    show (x &&& 255).toBitVec = BitVec.ofNat 32 (x &&& 255).toBitVec.toNat
    rw [BitVec.ofNat_toNat, BitVec.setWidth_eq]
theorem copyM_c {M : Mem} {n : Nat} (h : M.1 0 3 = nI n) (hn : n ≤ 1600) : ∃ M', X12_mill_L1 zFU 0 M = some M' ∧ Fr (fun a j => a = 2 ∧ 0 ≤ j ∧ j < 0 + n) M M' ∧ ∀ i, i < n → M'.1 2 (0 + i) = (M.1 1 i).toInt8.toInt32 := by
  refine wr1_loop X12_mill_L1 M 2 0 n (fun i => (M.1 1 i).toInt8.toInt32) (by omega) (fun N s hs => ?_) (fun N i s hi hs => ?_)
  · rw [X12_mill_L1, hs 0 3 (by decide), h, if_pos (nI_le (by omega) (by omega))]
  · rw [X12_mill_L1, hs 0 3 (by decide), h, if_neg (nI_ge hi (by omega)), gd_in (by omega) (by omega), gd_in (by omega) (by omega), nI_clamp (by omega), hs 1 i (by decide), lt_e, show nI i + 1 = nI (i + 1) from nI_add i 1, Nat.zero_add]
