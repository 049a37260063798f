/-! ===== phase 2: rows laid, growths together, copies ===== -/
theorem OV.cg {MM : Mem} {b mn : Nat} {base base' r r' : Nat → Nat → Int32} (h : OV MM b mn base r) (e0 : ∀ p j, p < mn → j < 3 → base p j = base' p j) (e : ∀ p j, j < 3 → r p j = r' p j) : OV MM b mn base' r' := fun p k hp hk => by
  rw [h p k hp hk]
  unfold ov
  rw [e _ _ hk, e _ _ hk, e _ _ hk, e0 _ _ hp hk]
theorem OV.fr {MM MM' : Mem} {b mn : Nat} {base r : Nat → Nat → Int32} {S : Nat → Nat → Prop} (h : OV MM b mn base r) (f : Fr S MM MM') (h1 : ∀ i, ¬ S 33 i) (h2 : ∀ i, ¬ S 13 i) : OV MM' b mn base r := fun p k hp hk => by
  rw [f.2 33 _ (h1 _), h p k hp hk]
  simp only [f.2 13 _ (h2 _)]
theorem lay3 {MM : Mem} {b mn m : Nat} {way : Int32} {w u u' : Nat → Int32} {base r : Nat → Nat → Int32} (hb : MM.1 0 41 = nI b) (b1 : b ≤ 1) (h4 : MM.1 4 b = nI mn) (hmn : mn ≤ 5) (hm : m < mn) (hO : OV MM b mn base r)
    (hu : ∀ k, k < 3 → r m k = u k) (h1 : ∀ k, k < 3 → u k + way * w k = u' k) (h2 : ∀ k, k < 3 → ∀ h, lk h (u k) + way * lk h (w k) = lk h (u' k)) :
    ∃ M1 M2 M3, X12_lay (nI m) (nI 0) (w 0) way MM = some M1 ∧ X12_lay (nI m) (nI 1) (w 1) way M1 = some M2 ∧ X12_lay (nI m) (nI 2) (w 2) way M2 = some M3 ∧ Fr (SO mn) MM M1 ∧ Fr (SO mn) MM M2 ∧ Fr (SO mn) MM M3 ∧ OV M3 b mn base (upd3 r m u') := by
  obtain ⟨M1, e1, f1, o1⟩ := lay_c (k := 0) hb b1 h4 hmn hm (by omega) hO (hu 0 (by omega)) (h1 0 (by omega)) (h2 0 (by omega))
  have n41 : ∀ i, ¬ SO mn 0 i := fun i => by unfold SO; omega
  have n4 : ∀ i, ¬ SO mn 4 i := fun i => by unfold SO; omega
  obtain ⟨M2, e2, f2, o2⟩ := lay_c (k := 1) (u := u 1) ((f1.2 0 41 (n41 _)).trans hb) b1 ((f1.2 4 b (n4 _)).trans h4) hmn hm (by omega) o1 (by rw [upd2_ne (by omega), hu 1 (by omega)]) (h1 1 (by omega)) (h2 1 (by omega))
  have f2' := f1.tr f2
  obtain ⟨M3, e3, f3, o3⟩ := lay_c (k := 2) (u := u 2) ((f2'.2 0 41 (n41 _)).trans hb) b1 ((f2'.2 4 b (n4 _)).trans h4) hmn hm (by omega) o2 (by rw [upd2_ne (by omega), upd2_ne (by omega), hu 2 (by omega)]) (h1 2 (by omega)) (h2 2 (by omega))
  refine ⟨M1, M2, M3, e1, e2, e3, f1, f2', f2'.tr f3, o3.cg (fun _ _ _ _ => rfl) (fun p j hj => ?_)⟩
  unfold upd3
  by_cases hp : p = m
  · rw [if_pos ⟨hp, hj⟩, hp]
    rcases (by omega : j = 0 ∨ j = 1 ∨ j = 2) with rfl | rfl | rfl
    · rw [upd2_ne (by omega), upd2_ne (by omega), upd2_eq]
    · rw [upd2_ne (by omega), upd2_eq]
    · rw [upd2_eq]
  · rw [if_neg (by omega), upd2_ne (by omega), upd2_ne (by omega), upd2_ne (by omega)]
/-- a loop that lays three hours, of cell w -/
theorem layRow_c {MM : Mem} {b mn m : Nat} {way : Int32} {u u' : Nat → Int32} {base r : Nat → Nat → Int32} (hb : MM.1 0 41 = nI b) (b1 : b ≤ 1) (h4 : MM.1 4 b = nI mn) (hmn : mn ≤ 5) (hm : m < mn) (hO : OV MM b mn base r)
    (hu : ∀ k, k < 3 → r m k = u k) (h1 : ∀ k, k < 3 → u k + way * MM.1 35 k = u' k) (h2 : ∀ k, k < 3 → ∀ h, lk h (u k) + way * lk h (MM.1 35 k) = lk h (u' k)) : ∃ M3, X12_layRow (nI m) way MM = some M3 ∧ Fr (SO mn) MM M3 ∧ OV M3 b mn base (upd3 r m u') := by
  obtain ⟨M1, M2, M3, e1, e2, e3, f1, f2, f3, o3⟩ := lay3 (w := MM.1 35) hb b1 h4 hmn hm hO hu h1 h2
  refine ⟨M3, ?_, f3, o3⟩
  unfold X12_layRow
  obtain ⟨n, hn⟩ := zFU_s 4 (by omega)
  rw [hn, show n + 4 = n + 3 + 1 from rfl, X12_layRow_L1, if_neg (by decide), show (0 : Int32) = nI 0 from rfl, gd_in (by omega) (by omega), nI_clamp (by omega), e1, bo_s, show n + 3 = n + 2 + 1 from rfl, X12_layRow_L1, if_neg (by decide), show nI 0 + 1 = nI 1 from rfl, gd_in (by omega) (by omega), nI_clamp (by omega), f1.2 35 1 (by unfold SO; omega), e2, bo_s, show n + 2 = n + 1 + 1 from rfl, X12_layRow_L1, if_neg (by decide), show nI 1 + 1 = nI 2 from rfl, gd_in (by omega) (by omega), nI_clamp (by omega), f2.2 35 2 (by unfold SO; omega), e3, bo_s, X12_layRow_L1, if_pos (by decide), b1_s]
theorem layBestRow_c {MM : Mem} {b mn m : Nat} {way : Int32} {u u' : Nat → Int32} {base r : Nat → Nat → Int32} (hb : MM.1 0 41 = nI b) (b1 : b ≤ 1) (h4 : MM.1 4 b = nI mn) (hmn : mn ≤ 5) (hm : m < mn) (hO : OV MM b mn base r)
    (hu : ∀ k, k < 3 → r m k = u k) (h1 : ∀ k, k < 3 → u k + way * MM.1 36 k = u' k) (h2 : ∀ k, k < 3 → ∀ h, lk h (u k) + way * lk h (MM.1 36 k) = lk h (u' k)) : ∃ M3, X12_layBestRow (nI m) way MM = some M3 ∧ Fr (SO mn) MM M3 ∧ OV M3 b mn base (upd3 r m u') := by
  obtain ⟨M1, M2, M3, e1, e2, e3, f1, f2, f3, o3⟩ := lay3 (w := MM.1 36) hb b1 h4 hmn hm hO hu h1 h2
  refine ⟨M3, ?_, f3, o3⟩
  unfold X12_layBestRow
  obtain ⟨n, hn⟩ := zFU_s 4 (by omega)
  rw [hn, show n + 4 = n + 3 + 1 from rfl, X12_layBestRow_L1, if_neg (by decide), show (0 : Int32) = nI 0 from rfl, gd_in (by omega) (by omega), nI_clamp (by omega), e1, bo_s, show n + 3 = n + 2 + 1 from rfl, X12_layBestRow_L1, if_neg (by decide), show nI 0 + 1 = nI 1 from rfl, gd_in (by omega) (by omega), nI_clamp (by omega), f1.2 36 1 (by unfold SO; omega), e2, bo_s, show n + 2 = n + 1 + 1 from rfl, X12_layBestRow_L1, if_neg (by decide), show nI 1 + 1 = nI 2 from rfl, gd_in (by omega) (by omega), nI_clamp (by omega), f2.2 36 2 (by unfold SO; omega), e3, bo_s, X12_layBestRow_L1, if_pos (by decide), b1_s]
theorem lkp (h n : Int32) : lk h 0 + 1 * lk h n = lk h n := by rw [lk_0, up_1]
theorem lkm (h n : Int32) : lk h n + (-1) * lk h n = lk h 0 := by rw [lk_0, up_m]
/-- scratch of a growth -/
def SXg (x _i : Nat) : Prop := x = 34 ∨ x = 37 ∨ x = 44
def SMg (x i : Nat) : Prop := x = 32 ∨ (x = 0 ∧ i = 47)
/-- both sides see the same over the plots: state o and rows a of the class, what is laid of the reference -/
def GQ (MX MM : Mem) (o a mn kd : Nat) : Prop := NN MX a ∧ (∀ p, p < mn → (∀ k, k < 3 → LF MX o a p k = if k < kd then MM.1 33 (20 + 3 * p + k) else 0) ∧ MX.1 (o + 1) (30 + p) = MM.1 33 (15 + p)) ∧ MX.1 (o + 1) 40 = MM.1 33 40
theorem GQ.fr {MX MM MX' MM' : Mem} {o a mn kd : Nat} (h : GQ MX MM o a mn kd) (ho : o = 35 ∨ o = 42) (ha : a ≠ 34 ∧ a ≠ 37 ∧ a ≠ 44) (fX : Fr SXg MX MX') (fM : Fr SMg MM MM') : GQ MX' MM' o a mn kd := by
  obtain ⟨h1, h2, h3⟩ := h
  have k1 : ∀ i, ¬ SXg (o + 1) i := fun i => by unfold SXg; omega
  have k2 : ∀ i, ¬ SXg a i := fun i => by unfold SXg; omega
  have k3 : ∀ i, ¬ SXg 26 i := fun i => by unfold SXg; omega
  have k4 : ∀ i, ¬ SMg 33 i := fun i => by unfold SMg; omega
  refine ⟨h1.fr fX k2, fun p hp => ⟨fun k hk => ?_, ?_⟩, ?_⟩
  · rw [LF.fr fX k1 k2 k3, fM.2 _ _ (k4 _)]
    exact (h2 p hp).1 k hk
  · rw [fX.2 _ _ (k1 _), fM.2 _ _ (k4 _)]
    exact (h2 p hp).2
  · rw [fX.2 _ _ (k1 _), fM.2 _ _ (k4 _)]
    exact h3
theorem RM.fg {MX MM MX' MM' : Mem} {b mn kd bn hr : Nat} {S T : Nat → Nat → Prop} (h : RM MX.1 23 MM.1 b mn kd bn hr) (fX : Fr S MX MX') (fM : Fr T MM MM') (hS : ∀ a i, 23 ≤ a → a ≤ 33 → ¬ S a i) (hT : ∀ a i, 3 ≤ a → a ≤ 29 → ¬ T a i) : RM MX'.1 23 MM'.1 b mn kd bn hr :=
  h.cg (fun a i h1 h2 => fX.2 a i (hS a i h1 h2)) (fun a i h1 h2 => fM.2 a i (hT a i h1 h2))
theorem grow_q {MX MM : Mem} {o a p b mn kd bn hr : Nat} (ho : o = 35 ∨ o = 42) (hz : zlen zTX a = 15) (ha : a ≠ 34 ∧ a ≠ 37 ∧ a ≠ 44) (hp : p < mn) (hM : RM MX.1 23 MM.1 b mn kd bn hr) (hb : MM.1 0 41 = nI b) (b1 : b ≤ 1) (hG : GQ MX MM o a mn kd) :
    ∃ v MX' MM', X9_growthWith o a (nI p) MX = some (v, MX') ∧ X12_growthOf (nI p) MM = some (v, MM') ∧ Fr SXg MX MX' ∧ Fr SMg MM MM' := by
  have h5 := hM.1.1
  exact grow_c ho hz ⟨ha.2.1, ha.2.2⟩ (by omega) hG.1 hM hb b1 (hG.2.1 p hp).1 (hG.2.1 p hp).2 hG.2.2
theorem all_q {MX MM : Mem} {o b mn kd bn hr : Nat} (ho : o = 35 ∨ o = 42) (hM : RM MX.1 23 MM.1 b mn kd bn hr) (hb : MM.1 0 41 = nI b) (b1 : b ≤ 1) (hG : GQ MX MM o 46 mn kd) :
    ∃ v MX' MM', X5_growthOfAll o MX = some (v, MX') ∧ X12_growths MM = some (v, MM') ∧ Fr SXg MX MX' ∧ Fr SMg MM MM' := by
  have h5 := hM.1.1
  have key := two_zFU (σ := Int32 × Int32 × Mem) (σ' := Int32 × Int32 × Mem) (fun n s => X5_growthOfAll_L1 o n s.1 s.2.1 s.2.2) (fun n s => X12_growths_L1 n s.1 s.2.1 s.2.2)
    (fun d s s' => ∃ i sm M1 M2, i + d = mn ∧ s = (sm, nI i, M1) ∧ s' = (sm, nI i, M2) ∧ Fr SXg MX M1 ∧ Fr SMg MM M2) (fun t t' => t.1 = t'.1 ∧ Fr SXg MX t.2 ∧ Fr SMg MM t'.2) ?_ mn (0, 0, MX) (0, 0, MM) (by omega) ⟨0, 0, MX, MM, by omega, rfl, rfl, Fr.rf, Fr.rf⟩
  · obtain ⟨t, t', e1, e2, q1, q2, q3⟩ := key
    refine ⟨t.1, t.2, t'.2, ?_, ?_, q2, q3⟩
    · unfold X5_growthOfAll
      exact (congrArg (fun x => b2_ x fun e4 M5 => some (e4, M5)) e1)
    · unfold X12_growths
      rw [q1]
      exact (congrArg (fun x => b2_ x fun e4 M5 => some (e4, M5)) e2)
  · rintro n n' d s s' ⟨i, sm, M1, M2, hd, rfl, rfl, f1, f2⟩
    have hM1 := hM.fg f1 f2 (fun a i h1 h2 => by unfold SXg; omega) (fun a i h1 h2 => by unfold SMg; omega)
    have hb2 : M2.1 0 41 = nI b := (f2.2 0 41 (by unfold SMg; omega)).trans hb
    by_cases hi : i = mn
    · left
      refine ⟨(sm, M1), (sm, M2), ?_, ?_, rfl, f1, f2⟩
      · show X5_growthOfAll_L1 o (n + 1) sm (nI i) M1 = _
        rw [X5_growthOfAll_L1, hM1.2.1.1, if_pos (nI_le (by omega) (by omega))]
      · show X12_growths_L1 (n' + 1) sm (nI i) M2 = _
        rw [X12_growths_L1, many_c hb2 b1 hM1.2.1.2.1, bo_s, if_pos (nI_le (by omega) (by omega))]
    · right
      obtain ⟨v, M3, M4, g1, g2, g3, g4⟩ := grow_q ho zlX_46 (by omega) (show i < mn by omega) hM1 hb2 b1 (hG.fr ho (by omega) f1 f2)
      refine ⟨d - 1, (sm + v, nI (i + 1), M3), (sm + v, nI (i + 1), M4), by omega, ⟨i + 1, sm + v, M3, M4, by omega, rfl, rfl, f1.tr g3, f2.tr g4⟩, ?_, ?_⟩
      · show X5_growthOfAll_L1 o (n + 1) sm (nI i) M1 = X5_growthOfAll_L1 o n (sm + v) (nI (i + 1)) M3
        rw [X5_growthOfAll_L1, hM1.2.1.1, if_neg (nI_ge (by omega) (by omega)), g1, bp_s, show nI i + 1 = nI (i + 1) from nI_add i 1]
      · show X12_growths_L1 (n' + 1) sm (nI i) M2 = X12_growths_L1 n' (sm + v) (nI (i + 1)) M4
        rw [X12_growths_L1, many_c hb2 b1 hM1.2.1.2.1, bo_s, if_neg (nI_ge (by omega) (by omega)), g2, bp_s, show nI i + 1 = nI (i + 1) from nI_add i 1]
/-- the class's leaves, by its rows, are what is laid over the plots -/
theorem LF_ov {MX MM : Mem} {o a b mn kd p k : Nat} {base r : Nat → Nat → Int32} (hO : OV MM b mn base r) (hp : p < mn) (hmn : mn ≤ 5) (hk : k < 3) (hbase : MX.1 (o + 1) (15 + (3 * p + k)) = base p k) (hr : ∀ q, q < 5 → MX.1 a (3 * q + k) = r q k) (hz : ∀ q, mn ≤ q → r q k = 0) (hhd : ∀ q, q < mn → MX.1 26 q = MM.1 13 (5 * b + q)) (hkz : kd ≤ k → base p k = 0 ∧ ∀ q, r q k = 0) :
    LF MX o a p k = if k < kd then MM.1 33 (20 + 3 * p + k) else 0 := by
  unfold LF
  rw [hbase, hr p (by omega)]
  by_cases q : k < kd
  · rw [if_pos q, hO p k hp hk]
    unfold ov
    have e1 : (if 0 < p then lk (MX.1 26 (p - 1)) (MX.1 a (3 * (p - 1) + k)) else 0) = (if 0 < p then lk (MM.1 13 (5 * b + (p - 1))) (r (p - 1) k) else 0) := by
      by_cases h0 : 0 < p
      · rw [if_pos h0, if_pos h0, hhd _ (by omega), hr _ (by omega)]
      · rw [if_neg h0, if_neg h0]
    have e2 : (if p < 4 then lk (MX.1 26 p) (MX.1 a (3 * (p + 1) + k)) else 0) = (if p + 1 < mn then lk (MM.1 13 (5 * b + p)) (r (p + 1) k) else 0) := by
      by_cases h0 : p + 1 < mn
      · rw [if_pos h0, if_pos (by omega), hhd _ (by omega), hr _ (by omega)]
      · rw [if_neg h0]
        by_cases h4 : p < 4
        · rw [if_pos h4, hr _ (by omega), hz _ (by omega), lk_0]
        · rw [if_neg h4]
    rw [e1, e2]
  · obtain ⟨z1, z2⟩ := hkz (by omega)
    rw [if_neg q, z1, z2]
    have e1 : (if 0 < p then lk (MX.1 26 (p - 1)) (MX.1 a (3 * (p - 1) + k)) else 0) = 0 := by
      by_cases h0 : 0 < p
      · rw [if_pos h0, hr _ (by omega), z2, lk_0]
      · rw [if_neg h0]
    have e2 : (if p < 4 then lk (MX.1 26 p) (MX.1 a (3 * (p + 1) + k)) else 0) = 0 := by
      by_cases h0 : p < 4
      · rw [if_pos h0, hr _ (by omega), z2, lk_0]
      · rw [if_neg h0]
    rw [e1, e2]
    rfl
theorem cpI {M : Mem} {a c n : Nat} (ha : zlen zTX a = n) (hc : zlen zTX c = n) (hn : n < 2 ^ 31) : X11_copyInts a c M = some (uC M a c 0 0 n) := by
  unfold X11_copyInts
  rw [ha, hc, if_neg (nI_nlt (Nat.le_refl n) hn), nI_clamp hn]
  have : cpOk 0 0 (nI n) n n = true := by
    unfold cpOk
    rw [nI_clamp hn]
    have h1 : (0 : Int32).toNatClampNeg = 0 := rfl
    rw [h1]
    simp [nI_pos' hn]
  rw [gd_p this]
  rfl
theorem uC_g (M : Mem) (s d n a i : Nat) : (uC M s d 0 0 n).1 a i = if a = d ∧ i < n then M.1 s i else M.1 a i := by
  show (if a = d ∧ 0 ≤ i ∧ i < 0 + n then M.1 s (0 + (i - 0)) else M.1 a i) = _
  by_cases h : a = d ∧ i < n
  · rw [if_pos h, if_pos ⟨h.1, by omega, by omega⟩]
    simp
  · rw [if_neg h, if_neg (by omega)]
