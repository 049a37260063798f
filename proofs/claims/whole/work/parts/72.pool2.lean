/-! ===== phase 2: pool, the outer loop ===== -/
theorem poolL4_c {MM : Mem} {b mn m : Nat} {base : Nat → Nat → Int32} {u : Nat → Nat} (hb : MM.1 0 41 = nI b) (b1 : b ≤ 1) (h4 : MM.1 4 b = nI mn) (hmn : mn ≤ 5) (hm : m < mn) (hO : OV MM b mn base (fun _ _ => 0)) (h39 : ∀ k, k < 3 → MM.1 39 k = nI (u k)) :
    ∃ M3, X12_layPool_L4 (nI m) zFU 0 MM = some M3 ∧ Fr (SO mn) MM M3 ∧ OV M3 b mn base (upd3 (fun _ _ => 0) m (fun k => nI (u k))) := by
  obtain ⟨M1, M2, M3, e1, e2, e3, f1, f2, f3, o3⟩ := lay3 (w := MM.1 39) (way := 1) (u := fun _ => 0) (u' := fun k => nI (u k)) hb b1 h4 hmn hm hO (fun _ _ => rfl) (fun k hk => by rw [h39 k hk]; exact up_1 _) (fun k hk h => by rw [h39 k hk]; exact lkp _ _)
  refine ⟨M3, ?_, f3, o3⟩
  obtain ⟨n, hn⟩ := zFU_s 4 (by omega)
  have st : ∀ (f k : Nat) (M M' : Mem), k < 3 → Fr (SO mn) MM M → X12_lay (nI m) (nI k) (MM.1 39 k) 1 M = some M' → X12_layPool_L4 (nI m) (f + 1) (nI k) M = X12_layPool_L4 (nI m) f (nI (k + 1)) M' := fun f k M M' hk hf e => by
    rw [X12_layPool_L4, if_neg (show ¬ (3 : Int32) ≤ nI k from nI_ge (b := 3) hk (by omega)), gd_in (by omega) (by omega), nI_clamp (by omega), hf.2 39 _ (by unfold SO; omega), e, bo_s, show nI k + 1 = nI (k + 1) from nI_add k 1]
  rw [hn, show n + 4 = n + 3 + 1 from rfl, show (0 : Int32) = nI 0 from rfl, st _ 0 _ _ (by omega) Fr.rf e1, show n + 3 = n + 2 + 1 from rfl, st _ 1 _ _ (by omega) f1 e2, show n + 2 = n + 1 + 1 from rfl, st _ 2 _ _ (by omega) f2 e3, X12_layPool_L4, if_pos (by decide)]
theorem poolL5_c {MM : Mem} {b mn m : Nat} {base : Nat → Nat → Int32} {u : Nat → Nat} (hb : MM.1 0 41 = nI b) (b1 : b ≤ 1) (h4 : MM.1 4 b = nI mn) (hmn : mn ≤ 5) (hm : m < mn) (hO : OV MM b mn base (upd3 (fun _ _ => 0) m (fun k => nI (u k)))) (h39 : ∀ k, k < 3 → MM.1 39 k = nI (u k)) :
    ∃ M3, X12_layPool_L5 (nI m) zFU 0 MM = some M3 ∧ Fr (fun a i => SO mn a i ∨ S35 a i) MM M3 ∧ OV M3 b mn base (fun _ _ => 0) ∧ ∀ k, k < 3 → M3.1 35 k = nI (u k) := by
  have st : ∀ (f k : Nat) (M : Mem) (r : Nat → Nat → Int32), k < 3 → Fr (fun a i => SO mn a i ∨ S35 a i) MM M → OV M b mn base r → r m k = nI (u k) → ∃ M', X12_layPool_L5 (nI m) (f + 1) (nI k) M = X12_layPool_L5 (nI m) f (nI (k + 1)) M' ∧ Fr (fun a i => SO mn a i ∨ S35 a i) MM M' ∧ OV M' b mn base (upd2 r m k 0) ∧ M'.1 35 k = nI (u k) ∧ ∀ j, j ≠ k → M'.1 35 j = M.1 35 j := fun f k M r hk hf ho hr => by
    have h39' : M.1 39 k = nI (u k) := (hf.2 39 k (by unfold SO S35; omega)).trans (h39 k hk)
    obtain ⟨M1, e1, f1, o1⟩ := lay_c (n := nI (u k)) (way := -1) (u := nI (u k)) (u' := 0) ((hf.2 0 41 (by unfold SO S35; omega)).trans hb) b1 ((hf.2 4 b (by unfold SO S35; omega)).trans h4) hmn hm hk ho hr (up_m _) (fun h => lkm _ _)
    refine ⟨uI M1 35 k (nI (u k)), ?_, (hf.tr (f1.wk (fun a i z => Or.inl z))).up _ (Or.inr ⟨rfl, hk⟩), fun p j hp hj => ?_, uI_eq _ _ _ _, fun j hj => ?_⟩
    · rw [X12_layPool_L5, if_neg (show ¬ (3 : Int32) ≤ nI k from nI_ge (b := 3) hk (by omega)), gd_in (by omega) (by omega), nI_clamp (by omega), h39', e1, bo_s, gd_in (by omega) (by omega), f1.2 39 k (by unfold SO; omega), h39', lt_e, show nI k + 1 = nI (k + 1) from nI_add k 1]
    · exact o1 p j hp hj
    · rw [uI_ne (by omega), f1.2 35 j (by unfold SO; omega)]
  obtain ⟨n, hn⟩ := zFU_s 4 (by omega)
  have v0 : ∀ k, k < 3 → upd3 (fun _ _ => (0 : Int32)) m (fun k => nI (u k)) m k = nI (u k) := fun k hk => if_pos ⟨rfl, hk⟩
  obtain ⟨M1, e1, f1, o1, r1, k1⟩ := st (n + 3) 0 MM _ (by omega) Fr.rf hO (v0 0 (by omega))
  obtain ⟨M2, e2, f2, o2, r2, k2⟩ := st (n + 2) 1 M1 _ (by omega) f1 o1 (by rw [upd2_ne (by omega)]; exact v0 1 (by omega))
  obtain ⟨M3, e3, f3, o3, r3, k3⟩ := st (n + 1) 2 M2 _ (by omega) f2 o2 (by rw [upd2_ne (by omega), upd2_ne (by omega)]; exact v0 2 (by omega))
  refine ⟨M3, ?_, f3, o3.cg (fun _ _ _ _ => rfl) (fun p j hj => ?_), three ?_ ?_ r3⟩
  · rw [hn, show n + 4 = n + 3 + 1 from rfl, show (0 : Int32) = nI 0 from rfl, e1, show n + 3 = n + 2 + 1 from rfl, e2, show n + 2 = n + 1 + 1 from rfl, e3, X12_layPool_L5, if_pos (by decide)]
  · by_cases z : p = m
    · subst z
      rcases (by omega : j = 0 ∨ j = 1 ∨ j = 2) with rfl | rfl | rfl
      · rw [upd2_ne (by omega), upd2_ne (by omega), upd2_eq]
      · rw [upd2_ne (by omega), upd2_eq]
      · rw [upd2_eq]
    · rw [upd2_ne (by omega), upd2_ne (by omega), upd2_ne (by omega)]
      exact if_neg (by omega)
  · rw [k3 0 (by omega), k2 0 (by omega)]; exact r1
  · rw [k3 1 (by omega)]; exact r2
theorem poolL6_c {M : Mem} : ∃ M', X12_layPool_L6 zFU 0 M = some M' ∧ Fr (fun a i => a = 39) M M' ∧ ∀ k, k < 3 → M'.1 39 k = M.1 35 k := by
  obtain ⟨n, hn⟩ := zFU_s 4 (by omega)
  rw [hn, show n + 4 = n + 3 + 1 from rfl, X12_layPool_L6, if_neg (by decide), show (0 : Int32) = nI 0 from rfl, gd_in (by omega) (by omega), gd_in (by omega) (by omega), nI_clamp (by omega), lt_e, show n + 3 = n + 2 + 1 from rfl, X12_layPool_L6, if_neg (by decide), show nI 0 + 1 = nI 1 from rfl, gd_in (by omega) (by omega), gd_in (by omega) (by omega), nI_clamp (by omega), lt_e, show n + 2 = n + 1 + 1 from rfl, X12_layPool_L6, if_neg (by decide), show nI 1 + 1 = nI 2 from rfl, gd_in (by omega) (by omega), gd_in (by omega) (by omega), nI_clamp (by omega), lt_e, X12_layPool_L6, if_pos (by decide)]
  refine ⟨_, rfl, (((Fr.rf (S := fun a _ => a = 39)).up _ rfl).up _ rfl).up _ rfl, three ?_ ?_ ?_⟩
  · rfl
  · rfl
  · rfl
theorem poolL2_c {M : Mem} : ∃ M', X12_layPool_L2 zFU 0 M = some M' ∧ Fr (fun a i => a = 39) M M' ∧ ∀ k, k < 3 → M'.1 39 k = nI 0 := by
  obtain ⟨n, hn⟩ := zFU_s 4 (by omega)
  rw [hn, show n + 4 = n + 3 + 1 from rfl, X12_layPool_L2, if_neg (by decide), show (0 : Int32) = nI 0 from rfl, gd_in (by omega) (by omega), nI_clamp (by omega), lt_e, show n + 3 = n + 2 + 1 from rfl, X12_layPool_L2, if_neg (by decide), show nI 0 + 1 = nI 1 from rfl, gd_in (by omega) (by omega), nI_clamp (by omega), lt_e, show n + 2 = n + 1 + 1 from rfl, X12_layPool_L2, if_neg (by decide), show nI 1 + 1 = nI 2 from rfl, gd_in (by omega) (by omega), nI_clamp (by omega), lt_e, X12_layPool_L2, if_pos (by decide)]
  refine ⟨_, rfl, (((Fr.rf (S := fun a _ => a = 39)).up _ rfl).up _ rfl).up _ rfl, three ?_ ?_ ?_⟩
  · rfl
  · rfl
  · rfl
theorem restM_c {M : Mem} {bo fr : Nat → Nat} (h40 : ∀ k, k < 3 → M.1 40 k = nI (bo k)) (h39 : ∀ k, k < 3 → M.1 39 k = nI (fr k)) (hle : ∀ k, k < 3 → fr k ≤ bo k) : ∃ M', X12_layOther_L1 zFU 0 M = some M' ∧ Fr (fun a i => a = 41) M M' ∧ ∀ k, k < 3 → M'.1 41 k = nI (bo k - fr k) := by
  obtain ⟨n, hn⟩ := zFU_s 4 (by omega)
  rw [hn, show n + 4 = n + 3 + 1 from rfl, X12_layOther_L1, if_neg (by decide), show (0 : Int32) = nI 0 from rfl, gd_in (by omega) (by omega), gd_in (by omega) (by omega), gd_in (by omega) (by omega), nI_clamp (by omega), lt_e, show n + 3 = n + 2 + 1 from rfl, X12_layOther_L1, if_neg (by decide), show nI 0 + 1 = nI 1 from rfl, gd_in (by omega) (by omega), gd_in (by omega) (by omega), gd_in (by omega) (by omega), nI_clamp (by omega), lt_e, show n + 2 = n + 1 + 1 from rfl, X12_layOther_L1, if_neg (by decide), show nI 1 + 1 = nI 2 from rfl, gd_in (by omega) (by omega), gd_in (by omega) (by omega), gd_in (by omega) (by omega), nI_clamp (by omega), lt_e, X12_layOther_L1, if_pos (by decide)]
  refine ⟨_, rfl, (((Fr.rf (S := fun a _ => a = 41)).up _ rfl).up _ rfl).up _ rfl, three ?_ ?_ ?_⟩
  · show M.1 40 0 - M.1 39 0 = _
    rw [h40 0 (by omega), h39 0 (by omega), nI_sub (hle 0 (by omega))]
  · show M.1 40 1 - M.1 39 1 = _
    rw [h40 1 (by omega), h39 1 (by omega), nI_sub (hle 1 (by omega))]
  · show M.1 40 2 - M.1 39 2 = _
    rw [h40 2 (by omega), h39 2 (by omega), nI_sub (hle 2 (by omega))]
theorem inBoth_c {M : Mem} {m o k p q : Nat} (hm : m < 5) (ho : o < 5) (hk : k < 3) (h1 : M.1 36 (3 * m + k) = nI p) (h2 : M.1 36 (3 * o + k) = nI q) : X5_inBoth (nI m) (nI o) (nI k) M = nI (p + q) := by
  unfold X5_inBoth
  rw [purseOf_c (Or.inl rfl) hm hk, purseOf_c (Or.inl rfl) ho hk, show M.1 (35 + 1) (3 * m + k) = _ from h1, show M.1 (35 + 1) (3 * o + k) = _ from h2, nI_add]
theorem limX_c {M : Mem} {m o : Nat} {p q : Nat → Nat} (hm : m < 5) (ho : o < 5) (h1 : ∀ k, k < 3 → M.1 36 (3 * m + k) = nI (p k)) (h2 : ∀ k, k < 3 → M.1 36 (3 * o + k) = nI (q k)) : ∃ M', X5_findPool_L1 (nI m) (nI o) zFU 0 M = some M' ∧ Fr (fun a i => a = 49) M M' ∧ ∀ k, k < 3 → M'.1 49 k = nI (p k + q k) := by
  have hz : zlen zTX 49 = 3 := zlX_49
  have st : ∀ (n k : Nat) (M1 : Mem), k < 3 → Fr (fun a i => a = 49) M M1 → X5_findPool_L1 (nI m) (nI o) (n + 1) (nI k) M1 = X5_findPool_L1 (nI m) (nI o) n (nI (k + 1)) (uI M1 49 k (nI (p k + q k))) := fun n k M1 hk f => by
    rw [X5_findPool_L1, if_neg (show ¬ (3 : Int32) ≤ nI k from nI_ge (b := 3) hk (by omega)), inBoth_c hm ho hk ((f.2 36 _ (by omega)).trans (h1 k hk)) ((f.2 36 _ (by omega)).trans (h2 k hk)), xp_in (by omega), lt_e, show nI k + 1 = nI (k + 1) from nI_add k 1]
  obtain ⟨n, hn⟩ := zFU_s 4 (by omega)
  have f1 : Fr (fun a i => a = 49) M (uI M 49 0 (nI (p 0 + q 0))) := Fr.rf.up _ rfl
  have f2 := f1.up (nI (p 1 + q 1)) (k := 49) (i := 1) rfl
  rw [hn, show n + 4 = n + 3 + 1 from rfl, show (0 : Int32) = nI 0 from rfl, st _ 0 _ (by omega) Fr.rf, show n + 3 = n + 2 + 1 from rfl, st _ 1 _ (by omega) f1, show n + 2 = n + 1 + 1 from rfl, st _ 2 _ (by omega) f2, X5_findPool_L1, if_pos (by decide)]
  refine ⟨_, rfl, f2.up _ rfl, three ?_ ?_ ?_⟩
  · rfl
  · rfl
  · rfl
theorem restX_c {M : Mem} {m o : Nat} {p q fr : Nat → Nat} (hm : m < 5) (ho : o < 5) (h1 : ∀ k, k < 3 → M.1 36 (3 * m + k) = nI (p k)) (h2 : ∀ k, k < 3 → M.1 36 (3 * o + k) = nI (q k)) (h46 : ∀ k, k < 3 → M.1 46 (3 * m + k) = nI (fr k)) (hle : ∀ k, k < 3 → fr k ≤ p k + q k) : ∃ M', X5_findBeside_L1 (nI m) (nI o) zFU 0 M = some M' ∧ Fr (fun a i => a = 50) M M' ∧ ∀ k, k < 3 → M'.1 50 k = nI (p k + q k - fr k) := by
  have hz : zlen zTX 50 = 3 := zlX_50
  have hz46 : zlen zTX 46 = 15 := zlX_46
  have st : ∀ (n k : Nat) (M1 : Mem), k < 3 → Fr (fun a i => a = 50) M M1 → X5_findBeside_L1 (nI m) (nI o) (n + 1) (nI k) M1 = X5_findBeside_L1 (nI m) (nI o) n (nI (k + 1)) (uI M1 50 k (nI (p k + q k - fr k))) := fun n k M1 hk f => by
    rw [X5_findBeside_L1, if_neg (show ¬ (3 : Int32) ≤ nI k from nI_ge (b := 3) hk (by omega)), inBoth_c hm ho hk ((f.2 36 _ (by omega)).trans (h1 k hk)) ((f.2 36 _ (by omega)).trans (h2 k hk)), show nI m * 3 = nI (3 * m) by rw [show nI m * 3 = nI (m * 3) from nI_mul m 3, Nat.mul_comm], nI_add, xc_in (by omega), f.2 46 _ (by omega), h46 k hk, nI_sub (hle k hk), xp_in (by omega), lt_e, show nI k + 1 = nI (k + 1) from nI_add k 1]
  obtain ⟨n, hn⟩ := zFU_s 4 (by omega)
  have f1 : Fr (fun a i => a = 50) M (uI M 50 0 (nI (p 0 + q 0 - fr 0))) := Fr.rf.up _ rfl
  have f2 := f1.up (nI (p 1 + q 1 - fr 1)) (k := 50) (i := 1) rfl
  rw [hn, show n + 4 = n + 3 + 1 from rfl, show (0 : Int32) = nI 0 from rfl, st _ 0 _ (by omega) Fr.rf, show n + 3 = n + 2 + 1 from rfl, st _ 1 _ (by omega) f1, show n + 2 = n + 1 + 1 from rfl, st _ 2 _ (by omega) f2, X5_findBeside_L1, if_pos (by decide)]
  refine ⟨_, rfl, f2.up _ rfl, three ?_ ?_ ?_⟩
  · rfl
  · rfl
  · rfl
theorem bothM_c {M : Mem} {b m o kd : Nat} {p q : Nat → Nat} (hb : M.1 0 41 = nI b) (b1 : b ≤ 1) (h3 : M.1 3 b = nI kd) (hkd : kd ≤ 3) (hm : m < 5) (ho : o < 5) (h1 : ∀ k, k < 3 → M.1 33 (3 * m + k) = nI (p k) ∧ (kd ≤ k → p k = 0)) (h2 : ∀ k, k < 3 → M.1 33 (3 * o + k) = nI (q k) ∧ (kd ≤ k → q k = 0)) : ∃ M', X12_layPool_L1 (nI m) (nI o) zFU 0 M = some M' ∧ Fr (fun a i => a = 40) M M' ∧ ∀ k, k < 3 → M'.1 40 k = nI (p k + q k) := by
  have st : ∀ (n k : Nat) (M1 : Mem), k < 3 → Fr (fun a i => a = 40) M M1 → X12_layPool_L1 (nI m) (nI o) (n + 1) (nI k) M1 = X12_layPool_L1 (nI m) (nI o) n (nI (k + 1)) (uI M1 40 k (nI (p k + q k))) := fun n k M1 hk f => by
    rw [X12_layPool_L1, if_neg (show ¬ (3 : Int32) ≤ nI k from nI_ge (b := 3) hk (by omega)), f.2 0 41 (by omega), hb, gd_in (by omega) (by omega), nI_clamp (by omega), f.2 3 b (by omega), h3, inPurse_c hm hk, bo_s, inPurse_c ho hk, bo_s, f.2 33 _ (by omega), f.2 33 _ (by omega), (h1 k hk).1, (h2 k hk).1, nI_add]
    have e : (if nI kd ≤ nI k then some 0 else some (nI (p k + q k)) : Option Int32) = some (nI (p k + q k)) := by
      by_cases h : kd ≤ k
      · rw [if_pos (nI_le h (by omega)), (h1 k hk).2 h, (h2 k hk).2 h]; rfl
      · rw [if_neg (nI_ge (by omega) (by omega))]
    rw [e, b1_s, gd_in (by omega) (by omega), nI_clamp (by omega), lt_e, show nI k + 1 = nI (k + 1) from nI_add k 1]
  obtain ⟨n, hn⟩ := zFU_s 4 (by omega)
  have f1 : Fr (fun a i => a = 40) M (uI M 40 0 (nI (p 0 + q 0))) := Fr.rf.up _ rfl
  have f2 := f1.up (nI (p 1 + q 1)) (k := 40) (i := 1) rfl
  rw [hn, show n + 4 = n + 3 + 1 from rfl, show (0 : Int32) = nI 0 from rfl, st _ 0 _ (by omega) Fr.rf, show n + 3 = n + 2 + 1 from rfl, st _ 1 _ (by omega) f1, show n + 2 = n + 1 + 1 from rfl, st _ 2 _ (by omega) f2, X12_layPool_L1, if_pos (by decide)]
  refine ⟨_, rfl, f2.up _ rfl, three ?_ ?_ ?_⟩
  · rfl
  · rfl
  · rfl
