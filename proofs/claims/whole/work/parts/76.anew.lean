/-! ===== phase 2: a new start; the first pair ===== -/
def SAn (a i : Nat) : Prop := (a = 33 ∧ i < 42) ∨ (a = 0 ∧ (i = 50 ∨ i = 51 ∨ i = 78 ∨ i = 55)) ∨ (a = 54 ∧ i < 3)
theorem anewL1_c {M : Mem} : ∃ M', X12_startAnew_L1 zFU 0 M = some M' ∧ Fr (fun a i => a = 33 ∧ i < 42) M M' ∧ ∀ k, k < 42 → M'.1 33 k = 0 := by
  have key := up_zFU (σ := Int32 × Mem) (fun n s => X12_startAnew_L1 n s.1 s.2) (fun i s => ∃ M1, s = (nI i, M1) ∧ Fr (fun a i => a = 33 ∧ i < 42) M M1 ∧ ∀ j, j < i → M1.1 33 j = 0) (fun M1 => Fr (fun a i => a = 33 ∧ i < 42) M M1 ∧ ∀ j, j < 42 → M1.1 33 j = 0) 42 (by omega) ?_ ?_ (0, M) 0 (by omega) ⟨M, rfl, Fr.rf, fun j hj => by omega⟩
  · obtain ⟨t, e, q⟩ := key
    exact ⟨t, e, q⟩
  · rintro n s ⟨M1, rfl, f, g⟩
    exact ⟨M1, by show X12_startAnew_L1 (n + 1) (nI 42) M1 = some M1; rw [X12_startAnew_L1, if_pos (by decide)], f, g⟩
  · rintro n i s hi ⟨M1, rfl, f, g⟩
    left
    refine ⟨(nI (i + 1), uI M1 33 i 0), ⟨_, rfl, f.up _ ⟨rfl, hi⟩, fun j hj => ?_⟩, ?_⟩
    · by_cases h : j = i
      · rw [h, uI_eq]
      · rw [uI_ne (by omega), g j (by omega)]
    · show X12_startAnew_L1 (n + 1) (nI i) M1 = X12_startAnew_L1 n (nI (i + 1)) (uI M1 33 i 0)
      rw [X12_startAnew_L1, if_neg (show ¬ (42 : Int32) ≤ nI i from nI_ge (b := 42) hi (by omega)), gd_in (by omega) (by omega), nI_clamp (by omega), lt_e, show nI i + 1 = nI (i + 1) from nI_add i 1]
theorem anewL3_c {M : Mem} {b i : Nat} (hb : M.1 0 41 = nI b) (b1 : b ≤ 1) (hi : i < 5) : ∃ M', X12_startAnew_L3 (nI i) zFU 0 M = some M' ∧ Fr (fun a j => a = 33 ∧ 3 * i ≤ j ∧ j < 3 * i + 3) M M' ∧ ∀ k, k < 3 → M'.1 33 (3 * i + k) = M.1 14 (3 * (5 * b + i) + k) := by
  have key := up_zFU (σ := Int32 × Mem) (fun n s => X12_startAnew_L3 (nI i) n s.1 s.2) (fun k s => ∃ M1, s = (nI k, M1) ∧ Fr (fun a j => a = 33 ∧ 3 * i ≤ j ∧ j < 3 * i + 3) M M1 ∧ ∀ j, j < k → M1.1 33 (3 * i + j) = M.1 14 (3 * (5 * b + i) + j)) (fun M1 => Fr (fun a j => a = 33 ∧ 3 * i ≤ j ∧ j < 3 * i + 3) M M1 ∧ ∀ j, j < 3 → M1.1 33 (3 * i + j) = M.1 14 (3 * (5 * b + i) + j)) 3 (by omega) ?_ ?_ (0, M) 0 (by omega) ⟨M, rfl, Fr.rf, fun j hj => by omega⟩
  · obtain ⟨t, e, q⟩ := key
    exact ⟨t, e, q⟩
  · rintro n s ⟨M1, rfl, f, g⟩
    exact ⟨M1, by show X12_startAnew_L3 (nI i) (n + 1) (nI 3) M1 = some M1; rw [X12_startAnew_L3, if_pos (by decide)], f, g⟩
  · rintro n k s hk ⟨M1, rfl, f, g⟩
    left
    refine ⟨(nI (k + 1), uI M1 33 (3 * i + k) (M.1 14 (3 * (5 * b + i) + k))), ⟨_, rfl, f.up _ ⟨rfl, by omega, by omega⟩, fun j hj => ?_⟩, ?_⟩
    · by_cases h : j = k
      · rw [h, uI_eq]
      · rw [uI_ne (by omega), g j (by omega)]
    · show X12_startAnew_L3 (nI i) (n + 1) (nI k) M1 = X12_startAnew_L3 (nI i) n (nI (k + 1)) (uI M1 33 (3 * i + k) (M.1 14 (3 * (5 * b + i) + k)))
      rw [X12_startAnew_L3, if_neg (show ¬ (3 : Int32) ≤ nI k from nI_ge (b := 3) hk (by omega)), f.2 0 41 (by omega), hb, show (5 : Int32) * nI b = nI (5 * b) from nI_mul 5 b, nI_add, show (3 : Int32) * nI (5 * b + i) = nI (3 * (5 * b + i)) from nI_mul 3 _, nI_add, show (3 : Int32) * nI i = nI (3 * i) from nI_mul 3 i, Int32.zero_add, nI_add, gd_in (by omega) (by omega), gd_in (by omega) (by omega), nI_clamp (by omega), nI_clamp (by omega), f.2 14 _ (by omega), lt_e, show nI k + 1 = nI (k + 1) from nI_add k 1]
theorem anewL2_c {M : Mem} {b mn : Nat} (hb : M.1 0 41 = nI b) (b1 : b ≤ 1) (h4 : M.1 4 b = nI mn) (hmn : mn ≤ 5) : ∃ M', X12_startAnew_L2 zFU 0 M = some M' ∧ Fr (fun a j => a = 33 ∧ j < 20) M M' ∧ (∀ i k, i < mn → k < 3 → M'.1 33 (3 * i + k) = M.1 14 (3 * (5 * b + i) + k)) ∧ (∀ i, i < mn → M'.1 33 (15 + i) = M.1 12 (5 * b + i)) ∧ (∀ j, 3 * mn ≤ j → j < 15 → M'.1 33 j = M.1 33 j) ∧ ∀ j, 15 + mn ≤ j → M'.1 33 j = M.1 33 j := by
  have key := up_zFU (σ := Int32 × Mem) (fun n s => X12_startAnew_L2 n s.1 s.2) (fun i s => ∃ M1, s = (nI i, M1) ∧ Fr (fun a j => a = 33 ∧ j < 20) M M1 ∧ (∀ i' k, i' < i → k < 3 → M1.1 33 (3 * i' + k) = M.1 14 (3 * (5 * b + i') + k)) ∧ (∀ i', i' < i → M1.1 33 (15 + i') = M.1 12 (5 * b + i')) ∧ (∀ j, 3 * i ≤ j → j < 15 → M1.1 33 j = M.1 33 j) ∧ ∀ j, 15 + i ≤ j → M1.1 33 j = M.1 33 j) (fun M' => Fr (fun a j => a = 33 ∧ j < 20) M M' ∧ (∀ i k, i < mn → k < 3 → M'.1 33 (3 * i + k) = M.1 14 (3 * (5 * b + i) + k)) ∧ (∀ i, i < mn → M'.1 33 (15 + i) = M.1 12 (5 * b + i)) ∧ (∀ j, 3 * mn ≤ j → j < 15 → M'.1 33 j = M.1 33 j) ∧ ∀ j, 15 + mn ≤ j → M'.1 33 j = M.1 33 j) mn (by omega) ?_ ?_ (0, M) 0 (by omega) ⟨M, rfl, Fr.rf, fun i k h _ => by omega, fun i h => by omega, fun _ _ _ => rfl, fun _ _ => rfl⟩
  · obtain ⟨t, e, q⟩ := key
    exact ⟨t, e, q⟩
  · rintro n s ⟨M1, rfl, f, g⟩
    exact ⟨M1, by show X12_startAnew_L2 (n + 1) (nI mn) M1 = some M1; rw [X12_startAnew_L2, many_c ((f.2 0 41 (by omega)).trans hb) b1 ((f.2 4 b (by omega)).trans h4), bo_s, if_pos (nI_le (by omega) (by omega))], f, g⟩
  · rintro n i s hi ⟨M1, rfl, f, g1, g2, g3, g4⟩
    left
    have hb1 : M1.1 0 41 = nI b := (f.2 0 41 (by omega)).trans hb
    obtain ⟨M2, e2, f2, q2⟩ := anewL3_c (M := uI M1 33 (15 + i) (M.1 12 (5 * b + i))) (i := i) hb1 b1 (by omega)
    refine ⟨(nI (i + 1), M2), ⟨_, rfl, (f.up _ ⟨rfl, by omega⟩).tr (f2.wk (fun a j z => ⟨z.1, by omega⟩)), fun i' k hi' hk => ?_, fun i' hi' => ?_, fun j h1 h2 => ?_, fun j h1 => ?_⟩, ?_⟩
    · by_cases h : i' = i
      · rw [h, q2 k hk, uI_ne (by omega), f.2 14 _ (by omega)]
      · rw [f2.2 33 _ (by omega), uI_ne (by omega), g1 i' k (by omega) hk]
    · rw [f2.2 33 _ (by omega)]
      by_cases h : i' = i
      · rw [h, uI_eq]
      · rw [uI_ne (by omega), g2 i' (by omega)]
    · rw [f2.2 33 _ (by omega), uI_ne (by omega), g3 j (by omega) h2]
    · rw [f2.2 33 _ (by omega), uI_ne (by omega), g4 j (by omega)]
    · show X12_startAnew_L2 (n + 1) (nI i) M1 = X12_startAnew_L2 n (nI (i + 1)) M2
      rw [X12_startAnew_L2, many_c hb1 b1 ((f.2 4 b (by omega)).trans h4), bo_s, if_neg (nI_ge hi (by omega)), hb1, show (5 : Int32) * nI b = nI (5 * b) from nI_mul 5 b, nI_add, gd_in (by omega) (by omega), show (15 : Int32) + nI i = nI (15 + i) from nI_add 15 i, gd_in (by omega) (by omega), nI_clamp (by omega), nI_clamp (by omega), f.2 12 _ (by omega), lt_e, e2, b1_s, show nI i + 1 = nI (i + 1) from nI_add i 1]
theorem anewL4_c {M : Mem} : ∃ M', X12_startAnew_L4 zFU 0 M = some M' ∧ Fr (fun a i => a = 54 ∧ i < 3) M M' ∧ ∀ k, k < 3 → M'.1 54 k = 0 := by
  obtain ⟨n, hn⟩ := zFU_s 4 (by omega)
  rw [hn, show n + 4 = n + 3 + 1 from rfl, X12_startAnew_L4, if_neg (by decide), show X12_startAnew_L4 (n + 3) ((0 : Int32) + 1) = X12_startAnew_L4 (n + 3) (nI 1) from rfl, show (0 : Int32) = nI 0 from rfl, gd_in (by omega) (by omega), nI_clamp (by omega), lt_e, show n + 3 = n + 2 + 1 from rfl, X12_startAnew_L4, if_neg (by decide), show nI 1 + 1 = nI 2 from rfl, gd_in (by omega) (by omega), nI_clamp (by omega), lt_e, show n + 2 = n + 1 + 1 from rfl, X12_startAnew_L4, if_neg (by decide), show nI 2 + 1 = nI 3 from rfl, gd_in (by omega) (by omega), nI_clamp (by omega), lt_e, X12_startAnew_L4, if_pos (by decide)]
  refine ⟨_, rfl, (((Fr.rf (S := fun a i => a = 54 ∧ i < 3)).up _ ⟨rfl, by omega⟩).up _ ⟨rfl, by omega⟩).up _ ⟨rfl, by omega⟩, three ?_ ?_ ?_⟩
  · rfl
  · rfl
  · rfl
theorem startAnew_c {M : Mem} {b mn : Nat} (hb : M.1 0 41 = nI b) (b1 : b ≤ 1) (h4 : M.1 4 b = nI mn) (hmn : mn ≤ 5) : ∃ M', X12_startAnew M = some M' ∧ Fr SAn M M' ∧ (∀ i k, i < mn → k < 3 → M'.1 33 (3 * i + k) = M.1 14 (3 * (5 * b + i) + k)) ∧ (∀ i, i < mn → M'.1 33 (15 + i) = M.1 12 (5 * b + i)) ∧ (∀ j, 3 * mn ≤ j → j < 15 → M'.1 33 j = 0) ∧ (∀ j, 15 + mn ≤ j → j < 41 → M'.1 33 j = 0) ∧ M'.1 33 41 = M.1 9 b ∧ (M'.1 0 50 = 0 ∧ M'.1 0 51 = 0 ∧ M'.1 0 78 = 0 ∧ M'.1 0 55 = 0) ∧ ∀ x, x < 3 → M'.1 54 x = 0 := by
  obtain ⟨M1, e1, f1, z1⟩ := anewL1_c (M := M)
  have hb1 : M1.1 0 41 = nI b := (f1.2 0 41 (by omega)).trans hb
  obtain ⟨M2, e2, f2, g1, g2, g3, g4⟩ := anewL2_c hb1 b1 ((f1.2 4 b (by omega)).trans h4) hmn
  have f12 : Fr SAn M M2 := (f1.wk (fun a i z => Or.inl z)).tr (f2.wk (fun a i z => Or.inl ⟨z.1, by omega⟩))
  have hb2 : M2.1 0 41 = nI b := (f2.2 0 41 (by omega)).trans hb1
  obtain ⟨M3, e3, f3, z3⟩ := anewL4_c (M := uI (uI (uI (uI (uI M2 33 41 (M2.1 9 b)) 0 50 0) 0 51 0) 0 78 0) 0 55 0)
  have fw : Fr SAn M (uI (uI (uI (uI (uI M2 33 41 (M2.1 9 b)) 0 50 0) 0 51 0) 0 78 0) 0 55 0) := ((((f12.up _ (Or.inl ⟨rfl, by omega⟩)).up _ (Or.inr (Or.inl ⟨rfl, by omega⟩))).up _ (Or.inr (Or.inl ⟨rfl, by omega⟩))).up _ (Or.inr (Or.inl ⟨rfl, by omega⟩))).up _ (Or.inr (Or.inl ⟨rfl, by omega⟩))
  have k33 : ∀ j, j < 41 → M3.1 33 j = M2.1 33 j := fun j hj => by
    rw [f3.2 33 j (by omega), uI_ne (by omega), uI_ne (by omega), uI_ne (by omega), uI_ne (by omega), uI_ne (by omega)]
  refine ⟨M3, ?_, fw.tr (f3.wk (fun a i z => Or.inr (Or.inr z))), fun i k hi hk => ?_, fun i hi => ?_, fun j h1 h2 => ?_, fun j h1 h2 => ?_, ?_, ⟨?_, ?_, ?_, ?_⟩, z3⟩
  · unfold X12_startAnew
    rw [e1, b1_s, e2, b1_s, hb2, gd_in (by omega) (by omega), nI_clamp (by omega), lt_e (uI M2 33 41 (M2.1 9 b)), lt_e (uI (uI M2 33 41 (M2.1 9 b)) 0 50 0), lt_e (uI (uI (uI M2 33 41 (M2.1 9 b)) 0 50 0) 0 51 0), lt_e (uI (uI (uI (uI M2 33 41 (M2.1 9 b)) 0 50 0) 0 51 0) 0 78 0), lt_e (uI (uI (uI (uI (uI M2 33 41 (M2.1 9 b)) 0 50 0) 0 51 0) 0 78 0) 0 55 0), e3, b1_s]
  · rw [k33 _ (by omega), g1 i k hi hk, f1.2 14 _ (by omega)]
  · rw [k33 _ (by omega), g2 i hi, f1.2 12 _ (by omega)]
  · rw [k33 _ (by omega), g3 j h1 h2, z1 j (by omega)]
  · rw [k33 _ (by omega), g4 j h1, z1 j (by omega)]
  · rw [f3.2 33 41 (by omega), uI_ne (by omega), uI_ne (by omega), uI_ne (by omega), uI_ne (by omega), uI_eq, f2.2 9 b (by omega), f1.2 9 b (by omega)]
  · rw [f3.2 0 50 (by omega)]; rfl
  · rw [f3.2 0 51 (by omega)]; rfl
  · rw [f3.2 0 78 (by omega)]; rfl
  · rw [f3.2 0 55 (by omega)]; rfl
def SCb (w a i : Nat) : Prop := (((3 ≤ a ∧ a ≤ 11) ∨ a = 23 ∨ a = 24 ∨ a = 25) ∧ i = w) ∨ (a = 18 ∧ 9 * w ≤ i ∧ i < 9 * w + 9) ∨ (a = 0 ∧ i = 43)
theorem clearBank_c {M : Mem} {w : Nat} (hw : M.1 0 42 = nI w) (w1 : w ≤ 1) : ∃ M', X12_clearBank M = some M' ∧ Fr (SCb w) M M' ∧ (∀ a, ((3 ≤ a ∧ a ≤ 11) ∨ a = 23 ∨ a = 24 ∨ a = 25) → M'.1 a w = if a = 8 then nI 6 else 0) ∧ (∀ r, r < 9 → M'.1 18 (9 * w + r) = 0) ∧ M'.1 0 43 = nI (560 * w) := by
  obtain ⟨U, hU⟩ : ∃ U, U = uI (uI (uI (uI (uI (uI (uI (uI (uI (uI (uI (uI M 3 w 0) 4 w 0) 5 w 0) 6 w 0) 7 w 0) 8 w 6) 9 w 0) 10 w 0) 11 w 0) 23 w 0) 24 w 0) 25 w 0 := ⟨_, rfl⟩
  have fU : Fr (SCb w) M U := by
    rw [hU]
    exact (((((((((((Fr.rf.up _ (by unfold SCb; omega)).up _ (by unfold SCb; omega)).up _ (by unfold SCb; omega)).up _ (by unfold SCb; omega)).up _ (by unfold SCb; omega)).up _ (by unfold SCb; omega)).up _ (by unfold SCb; omega)).up _ (by unfold SCb; omega)).up _ (by unfold SCb; omega)).up _ (by unfold SCb; omega)).up _ (by unfold SCb; omega)).up _ (by unfold SCb; omega)
  have key := up_zFU (σ := Int32 × Mem) (fun n s => X12_clearBank_L1 n s.1 s.2) (fun r s => ∃ M1, s = (nI (9 * w + r), M1) ∧ Fr (fun a i => a = 18 ∧ 9 * w ≤ i ∧ i < 9 * w + 9) U M1 ∧ ∀ j, j < r → M1.1 18 (9 * w + j) = 0) (fun M1 => Fr (fun a i => a = 18 ∧ 9 * w ≤ i ∧ i < 9 * w + 9) U M1 ∧ ∀ j, j < 9 → M1.1 18 (9 * w + j) = 0) 9 (by omega) ?_ ?_ (nI (9 * w), U) 0 (by omega) ⟨U, rfl, Fr.rf, fun j hj => by omega⟩
  · obtain ⟨M1, e, f, g⟩ := key
    have hU42 : U.1 0 42 = nI w := (fU.2 0 42 (by unfold SCb; omega)).trans hw
    refine ⟨uI M1 0 43 (nI (560 * w)), ?_, (fU.tr (f.wk (fun a i z => Or.inr (Or.inl z)))).up _ (by unfold SCb; omega), fun a ha => ?_, fun r hr => ?_, uI_eq _ _ _ _⟩
    · unfold X12_clearBank
      have e9 : (9 : Int32) * nI w = nI (9 * w) := nI_mul 9 w
      have e560 : (560 : Int32) * nI w = nI (560 * w) := nI_mul 560 w
      simp (disch := omega) only [lt_e, uI_ne, hw, gd_in, nI_clamp, e9]
      rw [← hU, e, b1_s, f.2 0 42 (by omega), hU42, e560]
    · rw [uI_ne (by omega), f.2 a w (by omega), hU]
      rcases (by omega : a = 3 ∨ a = 4 ∨ a = 5 ∨ a = 6 ∨ a = 7 ∨ a = 8 ∨ a = 9 ∨ a = 10 ∨ a = 11 ∨ a = 23 ∨ a = 24 ∨ a = 25) with rfl | rfl | rfl | rfl | rfl | rfl | rfl | rfl | rfl | rfl | rfl | rfl
      all_goals first
        | rw [if_neg (by decide)]; simp (disch := omega) only [uI_ne, uI_eq]
        | rw [if_pos rfl]; simp (disch := omega) only [uI_ne, uI_eq]; rfl
    · rw [uI_ne (by omega)]; exact g r hr
  · rintro n s ⟨M1, rfl, f, g⟩
    exact ⟨M1, by show X12_clearBank_L1 (n + 1) (nI (9 * w + 9)) M1 = some M1; rw [X12_clearBank_L1, f.2 0 42 (by omega), fU.2 0 42 (by unfold SCb; omega), hw, show (9 : Int32) * nI w + 9 = nI (9 * w + 9) by rw [show (9 : Int32) * nI w = nI (9 * w) from nI_mul 9 w]; exact nI_add _ 9, if_pos (nI_le (by omega) (by omega))], f, g⟩
  · rintro n i s hi ⟨M1, rfl, f, g⟩
    left
    refine ⟨(nI (9 * w + (i + 1)), uI M1 18 (9 * w + i) 0), ⟨_, rfl, f.up _ ⟨rfl, by omega, by omega⟩, fun j hj => ?_⟩, ?_⟩
    · by_cases h : j = i
      · rw [h, uI_eq]
      · rw [uI_ne (by omega), g j (by omega)]
    · show X12_clearBank_L1 (n + 1) (nI (9 * w + i)) M1 = X12_clearBank_L1 n (nI (9 * w + (i + 1))) (uI M1 18 (9 * w + i) 0)
      rw [X12_clearBank_L1, f.2 0 42 (by omega), fU.2 0 42 (by unfold SCb; omega), hw, show (9 : Int32) * nI w + 9 = nI (9 * w + 9) by rw [show (9 : Int32) * nI w = nI (9 * w) from nI_mul 9 w]; exact nI_add _ 9, if_neg (nI_ge (by omega) (by omega)), gd_in (by omega) (by omega), nI_clamp (by omega), lt_e, show nI (9 * w + i) + 1 = nI (9 * w + (i + 1)) from nI_add _ 1]
/-- the first pair of memories -/
theorem hR0 : ∃ M1 M2, X12_clearBank zM0 = some M1 ∧ X12_startAnew M1 = some M2 ∧ RR zX0 M2 := by
  have z0 : ∀ i, i ≠ 5 → zM0.1 0 i = 0 := fun i hi => if_neg hi
  have zz : ∀ a i, a ≠ 0 → zM0.1 a i = 0 := fun a i h => by
    show (if a = 0 then (fun i => if i = 5 then (-1 : Int32) else 0) else fun _ => 0) i = 0
    rw [if_neg h]
  obtain ⟨M1, e1, f1, g1, g2, g3⟩ := clearBank_c (M := zM0) (w := 0) (z0 42 (by omega)) (by omega)
  have hb : M1.1 0 41 = nI 0 := (f1.2 0 41 (by unfold SCb; omega)).trans (z0 41 (by omega))
  have h4 : M1.1 4 0 = nI 0 := (g1 4 (by omega)).trans rfl
  obtain ⟨M2, e2, f2, h1, h2, h3, h5, h6, ⟨h7, h8, h9, h10⟩, h11⟩ := startAnew_c hb (by omega) h4 (by omega)
  refine ⟨M1, M2, e1, e2, 0, 0, 0, 0, 6, ?_⟩
  have x0 : ∀ a i, a ≠ 16 → a ≠ 4 → a ≠ 23 → zX0.1 a i = 0 := fun a i q1 q2 q3 => by
    show (if a = 16 then (fun i => if i = 6 then (-1 : Int32) else 0) else if a = 4 then (fun i => if i = 4 then 6 else 0) else if a = 23 then (fun i => if i = 4 then 6 else 0) else fun _ => 0) i = 0
    rw [if_neg q1, if_neg q2, if_neg q3]
  have x23 : ∀ i, i ≠ 4 → zX0.1 23 i = 0 := fun i hi => if_neg hi
  have k1 : ∀ a, ((3 ≤ a ∧ a ≤ 11) ∨ a = 23 ∨ a = 24 ∨ a = 25) → M2.1 a 0 = if a = 8 then nI 6 else 0 := fun a ha => by
    rw [f2.2 a 0 (by unfold SAn; omega)]; exact g1 a ha
  have k0 : ∀ i, i ≠ 43 → i ≠ 5 → i ≠ 50 → i ≠ 51 → i ≠ 78 → i ≠ 55 → M2.1 0 i = 0 := fun i q1 q2 q3 q4 q5 q6 => by
    rw [f2.2 0 i (by unfold SAn; omega), f1.2 0 i (by unfold SCb; omega)]; exact z0 i q2
  have k33 : ∀ j, j < 41 → M2.1 33 j = 0 := fun j hj => by
    by_cases z : j < 15
    · exact h3 j (by omega) z
    · exact h5 j (by omega) hj
  have k18 : ∀ r, r < 9 → M2.1 18 (9 * 0 + r) = 0 := fun r hr => by
    rw [f2.2 18 _ (by unfold SAn; omega)]; exact g2 r hr
  have hM : RM zX0.1 23 M2.1 0 0 0 0 6 := by
    refine ⟨⟨by omega, by omega, by omega, by omega, by omega⟩, ⟨x23 0 (by omega), k1 4 (by omega), x23 1 (by omega), k1 3 (by omega), x23 2 (by omega), k1 5 (by omega), ?_, rfl, k1 8 (by omega)⟩, ⟨0, by omega, x23 5 (by omega), k1 9 (by omega)⟩, fun i hi => by omega, ⟨0, by omega, k1 10 (by omega), fun i hi => by omega⟩, fun i hi => by omega, fun i k hi _ => by omega, fun j _ _ => x0 _ _ (by omega) (by omega) (by omega), fun i k hi _ => by omega, fun r hr => ⟨0, by omega, x0 _ _ (by omega) (by omega) (by omega), k18 r hr, fun h => absurd rfl h⟩, fun i hi => by omega, 0, 0, 0, fun _ => 0, by omega, x0 _ _ (by omega) (by omega) (by omega), k1 7 (by omega), x0 _ _ (by omega) (by omega) (by omega), by omega, by omega, rfl, Or.inl ⟨k1 23 (by omega), rfl⟩, fun i hi => by omega⟩
    rw [x23 3 (by omega), k1 6 (by omega)]
    rfl
  have hS : RS (zX0.1 36) (M2.1 33) 0 0 6 999 := by
    have y : ∀ i, zX0.1 36 i = 0 := fun i => x0 36 i (by omega) (by omega) (by omega)
    refine ⟨fun i k hi hk => ⟨0, by omega, y _, k33 _ (by omega), fun _ => rfl⟩, fun i k hi hk => ⟨by rw [y, k33 _ (by omega)], fun _ => k33 _ (by omega)⟩, fun i hi => by rw [y, k33 _ (by omega)], fun i hi => ⟨0, by omega, y _, k33 _ (by omega)⟩, ⟨0, by omega, y _, k33 _ (by omega)⟩, ⟨0, by omega, y _, ?_⟩⟩
    rw [h6, g1 9 (by omega)]
    rfl
  refine ⟨hM, hS, ⟨0, 0, 0, by omega, by omega, by omega, x0 _ _ (by omega) (by omega) (by omega), x0 _ _ (by omega) (by omega) (by omega), x0 _ _ (by omega) (by omega) (by omega), h7, h8, fun j hj => ?_, fun i hi => by omega, fun i h1 h2 => by omega⟩, fun x hx => Or.inl ⟨x0 _ _ (by omega) (by omega) (by omega), h11 x hx⟩, ⟨0, by omega, x0 _ _ (by omega) (by omega) (by omega), h10, fun i hi => by omega⟩, ⟨0, 0, by omega, by omega, x0 _ _ (by omega) (by omega) (by omega), h9, x0 _ _ (by omega) (by omega) (by omega), k0 79 (by omega) (by omega) (by omega) (by omega) (by omega) (by omega), fun i hi => by omega⟩, ⟨0, by omega, x0 _ _ (by omega) (by omega) (by omega), k0 2 (by omega) (by omega) (by omega) (by omega) (by omega) (by omega), fun i hi => by omega⟩, ⟨?_, ?_, by omega, k0 41 (by omega) (by omega) (by omega) (by omega) (by omega) (by omega), fun i hi => ⟨x0 _ _ (by omega) (by omega) (by omega), x0 _ _ (by omega) (by omega) (by omega)⟩⟩⟩
  · rw [x0 40 _ (by omega) (by omega) (by omega), x0 36 _ (by omega) (by omega) (by omega)]
  · rw [k0 4 (by omega) (by omega) (by omega) (by omega) (by omega) (by omega)]; rfl
  · rw [f2.2 0 5 (by unfold SAn; omega), f1.2 0 5 (by unfold SCb; omega)]; rfl
