/-! ===== phase 2: seek against layBest; best, good ===== -/
theorem SK.fr2 {MX MM MX' MM' : Mem} {o m b mn kd bn hr hh sp : Nat} {l : Nat → Nat} {base rx : Nat → Nat → Int32} {S T : Nat → Nat → Prop} (h : SK MX MM o m b mn kd bn hr hh sp l base rx) (fX : Fr S MX MX') (fM : Fr T MM MM')
    (kX : ∀ a i, a = 36 ∨ a = 43 ∨ (23 ≤ a ∧ a ≤ 33) → ¬ S a i) (kM : ∀ a i, (3 ≤ a ∧ a ≤ 29) → ¬ T a i) (k41 : ¬ T 0 41) (kM2 : ∀ i, (i < 20 ∨ 35 ≤ i) → ¬ T 33 i) : SK MX' MM' o m b mn kd bn hr hh sp l base rx := by
  obtain ⟨h1, h2, h3, h4, h5, h6, ⟨h7, h7'⟩, h8, h9, h10, h11, h12⟩ := h
  have hmn := h2.1.1
  refine ⟨h1, h2.fg fX fM (fun a i q1 q2 => kX a i (by omega)) (fun a i q1 q2 => kM a i (by omega)), (fM.2 0 41 k41).trans h3, h4, h5, h6, ⟨(fM.2 33 _ (kM2 _ (by omega))).trans h7, h7'⟩, fun p k hp hk => ?_, h9, h10, fun p hp => ?_, ?_⟩
  · rw [fX.2 _ _ (kX _ _ (by omega))]; exact h8 p k hp hk
  · rw [fX.2 _ _ (kX _ _ (by omega)), fM.2 _ _ (kM2 _ (by omega))]; exact h11 p hp
  · rw [fX.2 _ _ (kX _ _ (by omega)), fM.2 _ _ (kM2 _ (by omega))]; exact h12
theorem clearRow_c {M : Mem} {m : Nat} (hm : m < 5) : ∃ M', X5_clearRow (nI m) M = some M' ∧ Fr (S46 m) M M' ∧ ∀ k, k < 3 → M'.1 46 (3 * m + k) = nI 0 := by
  have hz : zlen zTX 46 = 15 := zlX_46
  unfold X5_clearRow
  obtain ⟨n, hn⟩ := zFU_s 4 (by omega)
  have e : nI m * 3 = nI (3 * m) := by rw [show nI m * 3 = nI (m * 3) from nI_mul m 3, Nat.mul_comm]
  rw [hn, show n + 4 = n + 3 + 1 from rfl, X5_clearRow_L1, if_neg (by decide), e, show (0 : Int32) = nI 0 from rfl, nI_add, xp_in (by omega), lt_e, show n + 3 = n + 2 + 1 from rfl, X5_clearRow_L1, if_neg (by decide), show nI 0 + 1 = nI 1 from rfl, e, nI_add, xp_in (by omega), lt_e, show n + 2 = n + 1 + 1 from rfl, X5_clearRow_L1, if_neg (by decide), show nI 1 + 1 = nI 2 from rfl, e, nI_add, xp_in (by omega), lt_e, X5_clearRow_L1, if_pos (by decide), b1_s]
  refine ⟨_, rfl, ((Fr.rf.up _ ⟨rfl, by omega, by omega⟩).up _ ⟨rfl, by omega, by omega⟩).up _ ⟨rfl, by omega, by omega⟩, three ?_ ?_ ?_⟩
  · rw [uI_ne (by omega), uI_ne (by omega), uI_eq]
  · rw [uI_ne (by omega), uI_eq]; rfl
  · rw [uI_eq]; rfl
theorem clearRows_c {M : Mem} : ∃ M', X5_clearRows M = some M' ∧ Fr (fun a i => a = 46 ∧ i < 15) M M' ∧ ∀ i, i < 15 → M'.1 46 i = 0 := by
  have hz : zlen zTX 46 = 15 := zlX_46
  have key := up_zFU (σ := Int32 × Mem) (fun n s => X5_clearRows_L1 n s.1 s.2) (fun i s => ∃ M1, s = (nI i, M1) ∧ Fr (fun a i => a = 46 ∧ i < 15) M M1 ∧ ∀ j, j < i → M1.1 46 j = 0) (fun M1 => Fr (fun a i => a = 46 ∧ i < 15) M M1 ∧ ∀ j, j < 15 → M1.1 46 j = 0) 15 (by omega) ?_ ?_ (0, M) 0 (by omega) ⟨M, rfl, Fr.rf, fun j hj => by omega⟩
  · obtain ⟨t, e, q⟩ := key
    exact ⟨t, by unfold X5_clearRows; exact (congrArg (fun x => b1_ x fun M3 => some M3) e), q⟩
  · rintro n s ⟨M1, rfl, f, g⟩
    exact ⟨M1, by show X5_clearRows_L1 (n + 1) (nI 15) M1 = some M1; rw [X5_clearRows_L1, if_pos (by decide)], f, g⟩
  · rintro n i s hi ⟨M1, rfl, f, g⟩
    left
    refine ⟨(nI (i + 1), uI M1 46 i 0), ⟨_, rfl, f.up _ ⟨rfl, hi⟩, fun j hj => ?_⟩, ?_⟩
    · by_cases h : j = i
      · rw [h, uI_eq]
      · rw [uI_ne (by omega), g j (by omega)]
    · show X5_clearRows_L1 (n + 1) (nI i) M1 = X5_clearRows_L1 n (nI (i + 1)) (uI M1 46 i 0)
      rw [X5_clearRows_L1, if_neg (show ¬ (15 : Int32) ≤ nI i from nI_ge (b := 15) hi (by omega)), xp_in (by omega), lt_e, show nI i + 1 = nI (i + 1) from nI_add i 1]
theorem limits_c {M : Mem} {o m : Nat} (ho : o = 35 ∨ o = 42) (hm : m < 5) : ∃ M', X5_seek_L1 o (nI m) zFU 0 M = some M' ∧ Fr (fun a _ => a = 49) M M' ∧ ∀ j, j < 3 → M'.1 49 j = M.1 (o + 1) (3 * m + j) := by
  have hz : zlen zTX 49 = 3 := zlX_49
  obtain ⟨n, hn⟩ := zFU_s 4 (by omega)
  rw [hn, show n + 4 = n + 3 + 1 from rfl, X5_seek_L1, if_neg (by decide), show (0 : Int32) = nI 0 from rfl, purseOf_c ho hm (by omega), xp_in (by omega), lt_e, show n + 3 = n + 2 + 1 from rfl, X5_seek_L1, if_neg (by decide), show nI 0 + 1 = nI 1 from rfl, purseOf_c ho hm (by omega), xp_in (by omega), lt_e, show n + 2 = n + 1 + 1 from rfl, X5_seek_L1, if_neg (by decide), show nI 1 + 1 = nI 2 from rfl, purseOf_c ho hm (by omega), xp_in (by omega), lt_e, X5_seek_L1, if_pos (by decide)]
  have f1 : Fr (fun a _ => a = 49) M (uI M 49 0 (M.1 (o + 1) (3 * m + 0))) := Fr.rf.up _ rfl
  have f2 := f1.up ((uI M 49 0 (M.1 (o + 1) (3 * m + 0))).1 (o + 1) (3 * m + 1)) (k := 49) (i := 1) rfl
  refine ⟨_, rfl, f2.up _ rfl, three ?_ ?_ ?_⟩
  · rw [uI_ne (by omega), uI_ne (by omega), uI_eq]
  · rw [uI_ne (by omega), uI_eq]
    exact f1.2 _ _ (by omega)
  · rw [uI_eq]
    exact f2.2 _ _ (by omega)
theorem layMost_c {M : Mem} {b m kd : Nat} {l : Nat → Nat} (hb : M.1 0 41 = nI b) (b1 : b ≤ 1) (h3 : M.1 3 b = nI kd) (hkd : kd ≤ 3) (hm : m < 5) (hl : ∀ j, j < 3 → M.1 33 (3 * m + j) = nI (l j) ∧ (kd ≤ j → l j = 0)) : ∃ M', X12_layMost (nI m) M = some M' ∧ Fr (fun a _ => a = 38) M M' ∧ ∀ j, j < 3 → M'.1 38 j = nI (l j) := by
  have st : ∀ (n j : Nat) (M1 : Mem), j < 3 → Fr (fun a _ => a = 38) M M1 → X12_layMost_L1 (nI m) (n + 1) (nI j) M1 = X12_layMost_L1 (nI m) n (nI (j + 1)) (uI M1 38 j (nI (l j))) := fun n j M1 hj f => by
    rw [X12_layMost_L1, if_neg (show ¬ (3 : Int32) ≤ nI j from nI_ge (b := 3) hj (by omega)), f.2 0 41 (by omega), hb, gd_in (by omega) (by omega), nI_clamp (by omega), f.2 3 b (by omega), h3, inPurse_c hm hj, bo_s, f.2 33 _ (by omega), (hl j hj).1]
    have e : (if nI kd ≤ nI j then some 0 else some (nI (l j)) : Option Int32) = some (nI (l j)) := by
      by_cases h : kd ≤ j
      · rw [if_pos (nI_le h (by omega)), (hl j hj).2 h]; rfl
      · rw [if_neg (nI_ge (by omega) (by omega))]
    rw [e, b1_s, gd_in (by omega) (by omega), nI_clamp (by omega), lt_e, show nI j + 1 = nI (j + 1) from nI_add j 1]
  unfold X12_layMost
  obtain ⟨n, hn⟩ := zFU_s 4 (by omega)
  have f1 : Fr (fun a _ => a = 38) M (uI M 38 0 (nI (l 0))) := Fr.rf.up _ rfl
  have f2 := f1.up (nI (l 1)) (k := 38) (i := 1) rfl
  rw [hn, show n + 4 = n + 3 + 1 from rfl, show (0 : Int32) = nI 0 from rfl, st _ 0 _ (by omega) Fr.rf, show n + 3 = n + 2 + 1 from rfl, st _ 1 _ (by omega) f1, show n + 2 = n + 1 + 1 from rfl, st _ 2 _ (by omega) f2, X12_layMost_L1, if_pos (by decide), b1_s]
  refine ⟨_, rfl, f2.up _ rfl, three ?_ ?_ ?_⟩
  · rfl
  · rfl
  · rfl
def SXs (m a i : Nat) : Prop := SXl m a i ∨ a = 49 ∨ (a = 46 ∧ i < 15)
def SMs (mn a i : Nat) : Prop := SMl mn a i ∨ a = 38
/-- what is laid over the plots is as it was -/
theorem all_same {MM MM' : Mem} {b mn : Nat} {base r : Nat → Nat → Int32} {T : Nat → Nat → Prop} (f : Fr T MM MM') (h : OV MM b mn base r) (h' : OV MM' b mn base r) (hT : ∀ i, T 33 i → 20 ≤ i ∧ i < 20 + 3 * mn) (h13 : ∀ i, ¬ T 13 i) : ∀ i, MM'.1 33 i = MM.1 33 i := fun i => by
  by_cases q : 20 ≤ i ∧ i < 20 + 3 * mn
  · have e : i = 20 + 3 * ((i - 20) / 3) + (i - 20) % 3 := by omega
    rw [e, h _ _ (by omega) (by omega), h' _ _ (by omega) (by omega)]
    simp only [f.2 13 _ (h13 _)]
  · exact f.2 33 i (fun z => q (hT i z))
theorem Fr.less {S T : Nat → Nat → Prop} {M M' : Mem} (f : Fr S M M') (h : ∀ a i, ¬ T a i → S a i → M'.1 a i = M.1 a i) : Fr T M M' := ⟨f.1, fun a i n => by
  by_cases q : S a i
  · exact h a i n q
  · exact f.2 a i q⟩
theorem seek_c {MX MM : Mem} {o m b mn kd bn hr hh sp aim : Nat} {l : Nat → Nat} {base rx : Nat → Nat → Int32} (hK : SK MX MM o m b mn kd bn hr hh sp l base rx) (haim : aim = 0 ∨ aim = 1)
    (hlp : ∀ j, j < 3 → MX.1 (o + 1) (3 * m + j) = nI (l j) ∧ MM.1 33 (3 * m + j) = nI (l j)) (hspx : MX.1 (o + 1) (35 + m) = nI sp) (hrow : ∀ p k, p < 5 → k < 3 → p ≠ m → MX.1 46 (3 * p + k) = rx p k) (hO : OV MM b mn base rx) :
    ∃ v MX' MM', ∃ w : Nat → Nat, X5_seek o (nI m) (nI aim) 0 MX = some (v, MX') ∧ X12_layBest (nI m) (nI aim) MM = some MM' ∧ Fr (SXs m) MX MX' ∧ Fr (SMs mn) MM MM' ∧ OV MM' b mn base rx ∧ (∀ i, MM'.1 33 i = MM.1 33 i) ∧
      (∀ p k, p < 5 → k < 3 → MX'.1 46 (3 * p + k) = if p = m then nI (w k) else rx p k) ∧ (∀ k, k < 3 → MM'.1 36 k = nI (w k)) ∧ MM'.1 0 57 = v ∧ MM'.1 0 56 = nI (w 0 + w 1 + w 2) ∧ w 0 + w 1 + w 2 ≤ 8 ∧ ∀ k, k < 3 → w k ≤ l k := by
  obtain ⟨ho, hM, hb, b1, hm, hl, ⟨hsp, hsp2, hhs⟩, hbase, hrx, hrn, hcrop, hweek⟩ := id hK
  have hmn := hM.1.1
  have hkd := hM.1.2.1
  obtain ⟨M1, e1, f1, z1⟩ := clearRow_c (M := MX) (show m < 5 by omega)
  have f2 : Fr (SXs m) MX (uI M1 41 8 0) := (f1.wk (fun a i h => Or.inl (Or.inr (Or.inr h)))).up _ (Or.inl (Or.inr (Or.inl (Or.inl ⟨rfl, Or.inl rfl⟩))))
  obtain ⟨M5, e5, f5, z5⟩ := limits_c (M := uI M1 41 8 0) ho (show m < 5 by omega)
  have fX5 : Fr (SXs m) MX M5 := f2.tr (f5.wk (fun a i h => Or.inr (Or.inl h)))
  obtain ⟨N1, d1, g1, y1⟩ := layMost_c (l := l) hb b1 hM.2.1.2.2.2.1 hkd (show m < 5 by omega) (fun j hj => ⟨(hlp j hj).2, (hl j hj).2⟩)
  obtain ⟨N2, d2, g2, y2⟩ := noRow_c (M := N1)
  have gM : Fr (SMs mn) MM (uI N2 0 56 (-1)) := ((g1.wk (fun a i h => Or.inr h)).tr (g2.wk (fun a i h => Or.inl (Or.inr (Or.inr (Or.inl h)))))).up _ (Or.inl (Or.inr (Or.inl (Or.inl ⟨rfl, Or.inl rfl⟩))))
  have hKs := hK.fr2 fX5 gM (fun a i q => by unfold SXs SXl SXg SBx S46; omega) (fun a i q => by unfold SMs SMl SMg SBm S35 SO; omega) (by unfold SMs SMl SMg SBm S35 SO; omega) (fun i q => by unfold SMs SMl SMg SBm S35 SO; omega)
  have hz0 : o + 1 ≠ 49 ∧ o + 1 ≠ 41 ∧ o + 1 ≠ 46 := by omega
  have hlx : ∀ j, j < 3 → M5.1 49 j = nI (l j) := fun j hj => by
    rw [z5 j hj, uI_ne (by omega), f1.2 _ _ (by unfold S46; omega)]
    exact (hlp j hj).1
  have hRW : RW M5 m 0 0 0 rx := fun p k hp hk => by
    rw [f5.2 46 _ (by omega), uI_ne (by omega)]
    by_cases z : p = m
    · subst z
      rw [if_pos rfl, z1 k hk]
      exact three (P := fun k => nI 0 = nI (t3 0 0 0 k)) rfl rfl rfl k hk
    · rw [if_neg z, f1.2 46 _ (by unfold S46; omega)]
      exact hrow p k hp hk z
  have hO2 : OV (uI N2 0 56 (-1)) b mn base rx := fun p k hp hk => ((hO.fr g1 (fun i => by omega) (fun i => by omega)).fr g2 (fun i => by unfold S35; omega) (fun i => by unfold S35; omega)) p k hp hk
  obtain ⟨M15, N39, r1, r2, r3, r4, r5, q1, q2, w, q3, q4, q5, q6, q7, q8⟩ := seek_loop hKs haim hlx (fun j hj => by rw [uI_ne (by omega), g2.2 38 j (by unfold S35; omega)]; exact y1 j hj) hRW (fun k hk => by rw [uI_ne (by omega)]; exact y2 k hk) hO2 ((f5.2 41 8 (by omega)).trans rfl) rfl
  have fMM : Fr (SMs mn) MM N39 := gM.tr (r4.wk (fun a i h => Or.inl h))
  refine ⟨M15.1 41 9, uC M15 47 46 0 0 15, N39, w, ?_, ?_, (fX5.tr (r3.wk (fun a i h => Or.inl h))).cp (fun i h1 h2 => Or.inr (Or.inr ⟨rfl, by omega⟩)), fMM, r5,
    all_same fMM hO r5 (fun i h => by unfold SMs SMl SMg SBm S35 SO at h; omega) (fun i => by unfold SMs SMl SMg SBm S35 SO; omega), fun p k hp hk => ?_, q8, q2.symm, q4, q5, q6⟩
  · unfold X5_seek
    have hleft : X9_leftOf o (nI m) M5 = nI hh := by
      unfold X9_leftOf
      rw [spentBy_c ho (by omega), fX5.2 (o + 1) _ (by unfold SXs SXl SXg SBx S46; omega), hspx, hKs.2.1.2.1.2.2.2.2.2.2.2.1, nI_sub (by omega)]
      congr 1
      omega
    rw [e1, bo_s, lt_e, e5, b1_s, lt_e, hleft, r1, b1_s, cpI zlX_47 zlX_46 (by omega), bo_s, uC_g, if_neg (by omega)]
  · unfold X12_layBest
    rw [d1, bo_s, d2, bo_s, lt_e, r2, b1_s]
  · rw [uC_g, if_pos ⟨rfl, by omega⟩]
    exact q7 p k hp hk
/-- what is now, and no rows: what both sides see -/
theorem RS.sk {MX MM : Mem} {o m b mn kd bn hr W : Nat} (hS : RS (MX.1 (o + 1)) (MM.1 33) mn kd hr W) (ho : o = 35 ∨ o = 42) (hM : RM MX.1 23 MM.1 b mn kd bn hr) (hb : MM.1 0 41 = nI b) (b1 : b ≤ 1) (hm : m < mn) :
    ∃ (l : Nat → Nat) (hh sp : Nat), SK MX MM o m b mn kd bn hr hh sp l (fun p k => MX.1 (o + 1) (15 + (3 * p + k))) (fun _ _ => 0) ∧ (∀ j, j < 3 → MX.1 (o + 1) (3 * m + j) = nI (l j) ∧ MM.1 33 (3 * m + j) = nI (l j)) ∧ MX.1 (o + 1) (35 + m) = nI sp := by
  obtain ⟨h1, h2, h3, h4, ⟨wk, _, h5, h5'⟩, h6⟩ := hS
  have hmn := hM.1.1
  obtain ⟨n0, a0, b0, c0, d0⟩ := h1 m 0 (by omega) (by omega)
  obtain ⟨n1, a1, b1', c1, d1⟩ := h1 m 1 (by omega) (by omega)
  obtain ⟨n2, a2, b2, c2, d2⟩ := h1 m 2 (by omega) (by omega)
  obtain ⟨sp, s1, s2, s3⟩ := h4 m (by omega)
  refine ⟨t3 n0 n1 n2, hr - sp, sp, ⟨ho, hM, hb, b1, hm, three ⟨by show n0 ≤ 200; omega, fun h => d0 (Or.inr h)⟩ ⟨by show n1 ≤ 200; omega, fun h => d1 (Or.inr h)⟩ ⟨by show n2 ≤ 200; omega, fun h => d2 (Or.inr h)⟩, ⟨s3, s1, by omega⟩, fun p k hp hk => ⟨rfl, fun hkd => ?_⟩, fun _ _ _ _ => rfl, fun _ _ _ _ => ⟨0, by omega, rfl⟩, fun p hp => h3 p (by omega), h5.trans h5'.symm⟩, three ⟨b0, c0⟩ ⟨b1', c1⟩ ⟨b2, c2⟩, s2⟩
  show MX.1 (o + 1) (15 + (3 * p + k)) = 0
  rw [(h2 p k (by omega) hk).1, (h2 p k (by omega) hk).2 (Or.inr hkd)]
theorem ov_0 {hd : Nat → Int32} {mn p k : Nat} {base : Nat → Nat → Int32} : ov hd mn base (fun _ _ => 0) p k = base p k := by
  unfold ov
  simp only [lk_0, ite_self, Int32.add_zero]
theorem RS.ov {MX MM : Mem} {o b mn kd hr W : Nat} (hS : RS (MX.1 (o + 1)) (MM.1 33) mn kd hr W) (hmn : mn ≤ 5) : OV MM b mn (fun p k => MX.1 (o + 1) (15 + (3 * p + k))) (fun _ _ => 0) := fun p k hp hk => by
  rw [ov_0, (hS.2.1 p k (by omega) hk).1, Nat.add_assoc]
