/-! ===== phase 2: will, thrive ===== -/
theorem keepNow_c {M : Mem} : ∃ M', X12_keepNow M = some M' ∧ Fr (fun a i => a = 42) M M' ∧ ∀ k, k < 42 → M'.1 42 k = M.1 33 k := by
  have key := up_zFU (σ := Int32 × Mem) (fun n s => X12_keepNow_L1 n s.1 s.2) (fun i s => ∃ M1, s = (nI i, M1) ∧ Fr (fun a i => a = 42) M M1 ∧ (∀ k, k < i → M1.1 42 k = M.1 33 k)) (fun M1 => Fr (fun a i => a = 42) M M1 ∧ (∀ k, k < 42 → M1.1 42 k = M.1 33 k)) 42 (by omega) ?_ ?_ (0, M) 0 (by omega) ⟨M, rfl, Fr.rf, fun k hk => by omega⟩
  · obtain ⟨t, e, q⟩ := key
    exact ⟨t, by unfold X12_keepNow; exact (congrArg (fun x => b1_ x fun M7 => some M7) e), q⟩
  · rintro n s ⟨M1, rfl, f, q⟩
    exact ⟨M1, by show X12_keepNow_L1 (n + 1) (nI 42) M1 = some M1; rw [X12_keepNow_L1, if_pos (by decide)], f, q⟩
  · rintro n i s hi ⟨M1, rfl, f, q1⟩
    left
    refine ⟨(nI (i + 1), uI M1 42 i (M.1 33 i)), ⟨_, rfl, f.up _ rfl, fun k hk => ?_⟩, ?_⟩
    · by_cases h : k = i
      · rw [h, uI_eq]
      · rw [uI_ne (by omega), q1 k (by omega)]
    · show X12_keepNow_L1 (n + 1) (nI i) M1 = X12_keepNow_L1 n (nI (i + 1)) (uI M1 42 i (M.1 33 i))
      rw [X12_keepNow_L1, if_neg (show ¬ (42 : Int32) ≤ nI i from nI_ge (b := 42) hi (by omega)), gd_in (by omega) (by omega), gd_in (by omega) (by omega), nI_clamp (by omega), f.2 33 i (by omega), lt_e, show nI i + 1 = nI (i + 1) from nI_add i 1]
theorem bringBack_c {M : Mem} : ∃ M', X12_bringBack M = some M' ∧ Fr SSm M M' ∧ ∀ k, k < 42 → M'.1 33 k = M.1 42 k := by
  have key := up_zFU (σ := Int32 × Mem) (fun n s => X12_bringBack_L1 n s.1 s.2) (fun i s => ∃ M1, s = (nI i, M1) ∧ Fr SSm M M1 ∧ (∀ k, k < i → M1.1 33 k = M.1 42 k)) (fun M1 => Fr SSm M M1 ∧ (∀ k, k < 42 → M1.1 33 k = M.1 42 k)) 42 (by omega) ?_ ?_ (0, M) 0 (by omega) ⟨M, rfl, Fr.rf, fun k hk => by omega⟩
  · obtain ⟨t, e, q⟩ := key
    exact ⟨t, by unfold X12_bringBack; exact (congrArg (fun x => b1_ x fun M7 => some M7) e), q⟩
  · rintro n s ⟨M1, rfl, f, q⟩
    exact ⟨M1, by show X12_bringBack_L1 (n + 1) (nI 42) M1 = some M1; rw [X12_bringBack_L1, if_pos (by decide)], f, q⟩
  · rintro n i s hi ⟨M1, rfl, f, q1⟩
    left
    refine ⟨(nI (i + 1), uI M1 33 i (M.1 42 i)), ⟨_, rfl, f.up _ ⟨rfl, hi⟩, fun k hk => ?_⟩, ?_⟩
    · by_cases h : k = i
      · rw [h, uI_eq]
      · rw [uI_ne (by omega), q1 k (by omega)]
    · show X12_bringBack_L1 (n + 1) (nI i) M1 = X12_bringBack_L1 n (nI (i + 1)) (uI M1 33 i (M.1 42 i))
      rw [X12_bringBack_L1, if_neg (show ¬ (42 : Int32) ≤ nI i from nI_ge (b := 42) hi (by omega)), gd_in (by omega) (by omega), gd_in (by omega) (by omega), nI_clamp (by omega), f.2 42 i (by unfold SSm; omega), lt_e, show nI i + 1 = nI (i + 1) from nI_add i 1]
/-- scratch of the reference, or what is now -/
def SMa (a i : Nat) : Prop := SM a i ∨ SSm a i
theorem back_SM {MM M1 M2 M3 : Mem} (f1 : Fr (fun a i => a = 42) MM M1) (g1 : ∀ k, k < 42 → M1.1 42 k = MM.1 33 k) (f2 : Fr (fun a i => SMa a i ∧ a ≠ 42) M1 M2) (f3 : Fr SSm M2 M3) (g3 : ∀ k, k < 42 → M3.1 33 k = M2.1 42 k) : Fr SM MM M3 := by
  have f : Fr SMa MM M3 := ((f1.wk (fun a i z => Or.inl (by unfold SM; omega))).tr (f2.wk (fun a i z => z.1))).tr (f3.wk (fun a i z => Or.inr z))
  refine f.less fun a i n q => ?_
  rcases q with q | ⟨rfl, q⟩
  · exact absurd q n
  · rw [g3 i q, f2.2 42 i (by omega), g1 i q]
theorem will_loop {MX MM : Mem} {b mn kd bn hr n : Nat} (hn : n ≤ 30) (hM : RM MX.1 23 MM.1 b mn kd bn hr) (hb : MM.1 0 41 = nI b) (b1 : b ≤ 1) (hS : RS (MX.1 43) (MM.1 33) mn kd hr 999) (h0 : ∀ i, i < 15 → MX.1 45 i = 0) :
    ∃ MX' MM', X5_cropLeftAlone_L1 (nI n) zFU 0 MX = some MX' ∧ X12_will_L1 (nI n) zFU 0 MM = some MM' ∧ Fr (SWx 42) MX MX' ∧ Fr SWm MM MM' ∧ ∃ W, RS (MX'.1 43) (MM'.1 33) mn kd hr W := by
  have key := two_zFU (σ := Int32 × Mem) (σ' := Int32 × Mem) (fun k s => X5_cropLeftAlone_L1 (nI n) k s.1 s.2) (fun k s => X12_will_L1 (nI n) k s.1 s.2)
    (fun d s s' => ∃ i M1 M2, i + d = n ∧ s = (nI i, M1) ∧ s' = (nI i, M2) ∧ Fr (SWx 42) MX M1 ∧ Fr SWm MM M2 ∧ RS (M1.1 43) (M2.1 33) mn kd hr (999 + i))
    (fun t t' => Fr (SWx 42) MX t ∧ Fr SWm MM t' ∧ ∃ W, RS (t.1 43) (t'.1 33) mn kd hr W) ?_ n (0, MX) (0, MM) (by omega) ⟨0, MX, MM, by omega, rfl, rfl, Fr.rf, Fr.rf, hS⟩
  · obtain ⟨t, t', e1, e2, q⟩ := key
    exact ⟨t, t', e1, e2, q⟩
  · rintro k k' d s s' ⟨i, M1, M2, hd, rfl, rfl, f1, f2, hS1⟩
    have hM1 := hM.fg f1 f2 (fun a i h1 h2 => by unfold SWx SSx SXg; omega) (fun a i h1 h2 => by unfold SWm SSm SMg; omega)
    have hb2 : M2.1 0 41 = nI b := (f2.2 0 41 (by unfold SWm SSm SMg; omega)).trans hb
    by_cases hi : i = n
    · left
      subst hi
      refine ⟨M1, M2, ?_, ?_, f1, f2, _, hS1⟩
      · show X5_cropLeftAlone_L1 (nI i) (k + 1) (nI i) M1 = _
        rw [X5_cropLeftAlone_L1, if_pos (nI_le (by omega) (by omega))]
      · show X12_will_L1 (nI i) (k' + 1) (nI i) M2 = _
        rw [X12_will_L1, if_pos (nI_le (by omega) (by omega))]
    · right
      obtain ⟨v, N1, N2, e1, e2, g1, g2, g3⟩ := goWeek_c (o := 42) (Or.inr rfl) hM1 hb2 b1 hS1.w (fun i hi => (f1.2 45 i (by unfold SWx SSx SXg; omega)).trans (h0 i hi))
      refine ⟨d - 1, (nI (i + 1), N1), (nI (i + 1), N2), by omega, ⟨i + 1, N1, N2, by omega, rfl, rfl, f1.tr g1, f2.tr g2, g3⟩, ?_, ?_⟩
      · show X5_cropLeftAlone_L1 (nI n) (k + 1) (nI i) M1 = X5_cropLeftAlone_L1 (nI n) k (nI (i + 1)) N1
        rw [X5_cropLeftAlone_L1, if_neg (nI_ge (by omega) (by omega)), e1, bp_s, show nI i + 1 = nI (i + 1) from nI_add i 1]
      · show X12_will_L1 (nI n) (k' + 1) (nI i) M2 = X12_will_L1 (nI n) k' (nI (i + 1)) N2
        rw [X12_will_L1, if_neg (nI_ge (by omega) (by omega)), e2, bp_s, show nI i + 1 = nI (i + 1) from nI_add i 1]
theorem become_c {M : Mem} : X9_become 42 35 M = some (uC M 36 43 0 0 42) := by
  unfold X9_become
  rw [cpI (a := 35 + 1) (c := 42 + 1) zlX_36 zlX_43 (by omega), bo_s]
theorem p2_will (a1 a2 : Int32) : zStep RR (fun M => (dO dIM) (X11_will a1 a2 M)) (fun M => (dO dIM) (X12_will a1 a2 M)) := zs_MM fun MX MM hR => by
  obtain ⟨b, mn, kd, bn, hr, h⟩ := hR
  have stay : ∃ v MX' MM', (some ((-1 : Int32), MX) : Option (Int32 × Mem)) = some (v, MX') ∧ (some ((-1 : Int32), MM) : Option (Int32 × Mem)) = some (v, MM') ∧ RR MX' MM' := ⟨_, _, _, rfl, rfl, b, mn, kd, bn, hr, h⟩
  obtain ⟨c1, ha1, ha2, a3', a4', a5, c2, b1, b2, b3, b4, b5, b6, b7, b8, b9⟩ := h.k
  unfold X11_will X12_will
  rcases man_c h a1 with ⟨m, hm, rfl, e1, e2⟩ | ⟨e1, e2⟩
  · rw [e1, e2, if_pos rfl, bo_s, if_pos rfl]
    by_cases q1 : a2 < 0
    · rw [if_pos q1, isIn_neg q1, if_neg Bool.false_ne_true]
      exact stay
    · obtain ⟨n, hn, rfl⟩ := nI_of q1
      rw [if_neg q1, show X12_isIn (nI n) 0 30 = decide (n ≤ 30) from isIn_le (n := 30) hn (by omega)]
      by_cases q2 : n ≤ 30
      · rw [if_pos (show nI n ≤ 30 from nI_le (b := 30) q2 (by omega)), decide_eq_true q2, if_pos rfl]
        obtain ⟨M1, k1, k2, k3⟩ := keepNow_c (M := MM)
        have fx : Fr SX MX (uC MX 36 43 0 0 42) := Fr.rf.cp (fun i _ _ => by unfold SX; omega)
        have hx := h.fr fx (k2.wk (fun a i z => by unfold SM; omega))
        have hS : RS ((uC MX 36 43 0 0 42).1 43) (M1.1 33) mn kd hr 999 := hx.2.1.cg (fun j hj => by rw [uC_g, if_pos ⟨rfl, hj⟩, uC_g, if_neg (by omega)]) (fun _ _ => rfl)
        obtain ⟨MX', MM', x1, x2, x3, x4, W, x5⟩ := will_loop q2 hx.1 ((k2.2 0 41 (by omega)).trans c2) c1 hS (fun i hi => (hx.2.2.2.2.2.2.2.2.2.2.2 i hi).2)
        obtain ⟨M11, y1, y2, y3⟩ := bringBack_c (M := MM')
        refine ⟨MM'.1 33 (15 + m), MX', M11, ?_, ?_, b, mn, kd, bn, hr, h.fr (fx.tr (x3.wk (fun a i z => by unfold SWx SSx SXg at z; unfold SX; omega))) (back_SM k2 k3 (x4.wk (fun a i z => ⟨by unfold SWm SSm SMg at z; unfold SMa SM SSm; omega, by unfold SWm SSm SMg at z; omega⟩)) y2 y3)⟩
        · unfold X5_cropLeftAlone
          rw [become_c, bo_s, x1, b1_s, bp_s, cropOf_c (Or.inr rfl) (by omega), show MX'.1 (42 + 1) (30 + m) = MM'.1 33 (15 + m) from x5.2.2.1 m (by omega)]
        · rw [k1, bo_s, x2, b1_s, show (15 : Int32) + nI m = nI (15 + m) from nI_add 15 m, gd_in (by omega) (by omega), nI_clamp (by omega), lt_e, y1, bo_s]
      · rw [if_neg (show ¬ nI n ≤ 30 from nI_ge (b := n) (a := 30) (by omega) hn), decide_eq_false q2, if_neg Bool.false_ne_true]
        exact stay
  · rw [e1, e2, if_neg Bool.false_ne_true, bo_s, if_neg Bool.false_ne_true]
    exact stay
theorem dl_0 {hd : Nat → Int32} {i q : Nat} : dl hd i q 0 = 0 := by
  unfold dl
  simp only [lk_0, ite_self]
theorem ov_dl {hd : Nat → Int32} {mn m q j : Nat} {base : Nat → Nat → Int32} {w : Nat → Int32} (hq : q < mn) (hm : m < mn) (hj : j < 3) : ov hd mn base (upd3 (fun _ _ => 0) m w) q j = base q j + dl hd m q (w j) := by
  have u1 : ∀ p, p ≠ m → upd3 (fun _ _ => (0 : Int32)) m w p j = 0 := fun p h => if_neg (fun z => h z.1)
  have u2 : upd3 (fun _ _ => (0 : Int32)) m w m j = w j := if_pos ⟨rfl, hj⟩
  unfold ov dl
  by_cases h1 : q = m
  · subst h1
    rw [u2, if_pos rfl, u1 (q + 1) (by omega), lk_0]
    have e : (if 0 < q then lk (hd (q - 1)) (upd3 (fun _ _ => (0 : Int32)) q w (q - 1) j) else 0) = 0 := by
      by_cases h0 : 0 < q
      · rw [if_pos h0, u1 _ (by omega), lk_0]
      · rw [if_neg h0]
    rw [e, ite_self, Int32.add_zero, Int32.add_zero]
  · rw [u1 q h1, if_neg h1]
    by_cases h2 : q + 1 = m
    · have e : (if 0 < q then lk (hd (q - 1)) (upd3 (fun _ _ => (0 : Int32)) m w (q - 1) j) else 0) = 0 := by
        by_cases h0 : 0 < q
        · rw [if_pos h0, u1 _ (by omega), lk_0]
        · rw [if_neg h0]
      rw [if_pos h2, e, Int32.add_zero, Int32.add_zero, if_pos (show q + 1 < mn by omega), h2, u2]
    · rw [if_neg h2, u1 (q + 1) h2, lk_0, ite_self, Int32.add_zero, Int32.add_zero]
      by_cases h3 : q = m + 1
      · subst h3
        rw [if_pos rfl, if_pos (by omega), Nat.add_sub_cancel, u2]
      · rw [if_neg h3]
        by_cases h0 : 0 < q
        · rw [if_pos h0, u1 _ (by omega), lk_0]
        · rw [if_neg h0]
/-- the class spends a man's row, of what lies ahead -/
theorem spend3_c {M : Mem} {m mn kd : Nat} {l w : Nat → Nat} (h0 : M.1 23 0 = nI mn) (h1 : M.1 23 1 = nI kd) (hmn : mn ≤ 5) (hkd : kd ≤ 3) (hm : m < mn) (hl : ∀ k, k < 3 → M.1 43 (3 * m + k) = nI (l k) ∧ l k ≤ 99 ∧ w k ≤ l k) (hw : ∀ k, k < 3 → M.1 46 (3 * m + k) = nI (w k)) :
    ∃ M', X5_cropAtBest_L2 (nI m) zFU 0 M = some M' ∧ Fr (fun a j => a = 43 ∧ ((3 * m ≤ j ∧ j < 3 * m + 3) ∨ j = 35 + m ∨ (15 ≤ j ∧ j < 15 + 3 * mn))) M M' ∧ (∀ k, k < kd → M'.1 43 (3 * m + k) = nI (l k - w k)) ∧ (∀ k, kd ≤ k → k < 3 → M'.1 43 (3 * m + k) = nI (l k)) ∧
      ∀ q j, q < 5 → j < 3 → M'.1 43 (15 + (3 * q + j)) = M.1 43 (15 + (3 * q + j)) + (if j < kd ∧ q < mn then dl (M.1 26) m q (nI (w j)) else 0) := by
  have hz46 : zlen zTX 46 = 15 := zlX_46
  have key := up_zFU (σ := Int32 × Mem) (fun n s => X5_cropAtBest_L2 (nI m) n s.1 s.2) (fun i s => ∃ M1, s = (nI i, M1) ∧ Fr (fun a j => a = 43 ∧ ((3 * m ≤ j ∧ j < 3 * m + 3) ∨ j = 35 + m ∨ (15 ≤ j ∧ j < 15 + 3 * mn))) M M1 ∧ (∀ k, k < i → M1.1 43 (3 * m + k) = nI (l k - w k)) ∧ (∀ k, i ≤ k → k < 3 → M1.1 43 (3 * m + k) = nI (l k)) ∧
      ∀ q j, q < 5 → j < 3 → M1.1 43 (15 + (3 * q + j)) = M.1 43 (15 + (3 * q + j)) + (if j < i ∧ q < mn then dl (M.1 26) m q (nI (w j)) else 0))
    (fun M1 => Fr (fun a j => a = 43 ∧ ((3 * m ≤ j ∧ j < 3 * m + 3) ∨ j = 35 + m ∨ (15 ≤ j ∧ j < 15 + 3 * mn))) M M1 ∧ (∀ k, k < kd → M1.1 43 (3 * m + k) = nI (l k - w k)) ∧ (∀ k, kd ≤ k → k < 3 → M1.1 43 (3 * m + k) = nI (l k)) ∧
      ∀ q j, q < 5 → j < 3 → M1.1 43 (15 + (3 * q + j)) = M.1 43 (15 + (3 * q + j)) + (if j < kd ∧ q < mn then dl (M.1 26) m q (nI (w j)) else 0)) kd (by omega) ?_ ?_ (0, M) 0 (by omega) ⟨M, rfl, Fr.rf, fun k hk => by omega, fun k _ hk => (hl k hk).1, fun q j _ _ => by rw [if_neg (by omega), Int32.add_zero]⟩
  · obtain ⟨t, e, q⟩ := key
    exact ⟨t, e, q⟩
  · rintro n s ⟨M1, rfl, f, q⟩
    exact ⟨M1, by show X5_cropAtBest_L2 (nI m) (n + 1) (nI kd) M1 = some M1; rw [X5_cropAtBest_L2, f.2 23 1 (by omega), h1, if_pos (nI_le (by omega) (by omega))], f, q⟩
  · rintro n i s hi ⟨M1, rfl, f, q1, q2, q3⟩
    left
    obtain ⟨_, l99, lw⟩ := hl i (by omega)
    obtain ⟨N, x1, x2, x3, x4, x5⟩ := spendH_c (M := M1) (o := 42) (i := m) (k := i) (nn := w i) (Or.inr rfl) ((f.2 23 0 (by omega)).trans h0) hmn hm (by omega) (q2 i (Nat.le_refl i) (by omega)) l99 lw
    have e26 : M1.1 26 = M.1 26 := funext fun j => f.2 26 j (by omega)
    refine ⟨(nI (i + 1), N), ⟨N, rfl, f.tr (x2.wk (fun a j z => ⟨z.1, by omega⟩)), fun k hk => ?_, fun k hk hk3 => ?_, fun q j hq hj => ?_⟩, ?_⟩
    · by_cases h : k = i
      · rw [h]; exact x3
      · rw [x2.2 43 _ (by omega)]; exact q1 k (by omega)
    · rw [x2.2 43 _ (by omega)]; exact q2 k (by omega) hk3
    · have y := x5 q j hq hj
      rw [e26] at y
      rw [show N.1 43 (15 + (3 * q + j)) = _ from y, show M1.1 (42 + 1) (15 + (3 * q + j)) = _ from q3 q j hq hj]
      by_cases c : q < mn
      · by_cases h : j = i
        · rw [if_neg (by omega), if_pos ⟨h, c⟩, if_pos ⟨by omega, c⟩, Int32.add_zero, h]
        · rw [if_neg (show ¬ (j = i ∧ q < mn) by omega), Int32.add_zero]
          by_cases h2 : j < i
          · rw [if_pos ⟨h2, c⟩, if_pos ⟨by omega, c⟩]
          · rw [if_neg (by omega), if_neg (by omega)]
      · rw [if_neg (by omega), if_neg (by omega), if_neg (by omega), Int32.add_zero, Int32.add_zero]
    · show X5_cropAtBest_L2 (nI m) (n + 1) (nI i) M1 = X5_cropAtBest_L2 (nI m) n (nI (i + 1)) N
      rw [X5_cropAtBest_L2, f.2 23 1 (by omega), h1, if_neg (nI_ge hi (by omega)), show nI m * 3 = nI (3 * m) by rw [show nI m * 3 = nI (m * 3) from nI_mul m 3, Nat.mul_comm], nI_add, xc_in (by omega), f.2 46 _ (by omega), hw i (by omega), x1, bo_s, show nI i + 1 = nI (i + 1) from nI_add i 1]
