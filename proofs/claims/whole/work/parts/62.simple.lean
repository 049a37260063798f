/-! ===== phase 2: man, all, saves, richest, gulf, most, lies ===== -/
theorem psum_x {MX MM : Mem} {b mn kd bn hr i : Nat} (h : RP MX.1 MM.1 b mn kd bn hr) (hi : i < 5) : ∃ s, s ≤ 297 ∧ X9_purseSum 35 (nI i) MX = some (nI s) ∧ X12_sumOf 0 (nI i) MM = some (nI s) := by
  obtain ⟨c1, ha1, ha2, a3, a4, a5, c2, b1, b2, b3, b4, b5, b6, b7, b8, b9⟩ := h.k
  obtain ⟨p0, x0, y0, z0, w0⟩ := h.2.1.1 i 0 hi (by omega)
  obtain ⟨p1, x1, y1, z1, w1⟩ := h.2.1.1 i 1 hi (by omega)
  obtain ⟨p2, x2, y2, z2, w2⟩ := h.2.1.1 i 2 hi (by omega)
  refine ⟨p0 + p1 + p2, by omega, ?_, ?_⟩
  · unfold X9_purseSum
    obtain ⟨n, hn⟩ := zFU_s 4 (by omega)
    have st : ∀ (f k : Nat) (c : Int32) (p : Nat), k < kd → MX.1 36 (3 * i + k) = nI p → X9_purseSum_L1 35 (nI i) MX (f + 1) c (nI k) = X9_purseSum_L1 35 (nI i) MX f (c + nI p) (nI (k + 1)) := fun f k c p hk hp => by
      rw [X9_purseSum_L1, b3, if_neg (nI_ge hk (by omega)), purseOf_c (Or.inl rfl) hi (by omega), show MX.1 (35 + 1) (3 * i + k) = nI p from hp, lt_e, show nI k + 1 = nI (k + 1) from nI_add k 1]
    have en : ∀ (f k : Nat) (c : Int32), k = kd → X9_purseSum_L1 35 (nI i) MX (f + 1) c (nI k) = some c := fun f k c hk => by
      rw [X9_purseSum_L1, b3, if_pos (nI_le (by omega) (by omega))]
    rw [hn, show n + 4 = n + 3 + 1 from rfl]
    rcases (by omega : kd = 0 ∨ kd = 1 ∨ kd = 2 ∨ kd = 3) with z | z | z | z
    · have e : (0 : Int32) = nI 0 := rfl
      rw [e, en _ 0 _ (by omega), b1_s, w0 (Or.inr (by omega)), w1 (Or.inr (by omega)), w2 (Or.inr (by omega))]
    · have e : (0 : Int32) = nI 0 := rfl
      rw [e, st _ 0 _ p0 (by omega) y0, show n + 3 = n + 2 + 1 from rfl, en _ 1 _ (by omega), b1_s, nI_add, w1 (Or.inr (by omega)), w2 (Or.inr (by omega)), Nat.zero_add, Nat.add_zero]
    · have e : (0 : Int32) = nI 0 := rfl
      rw [e, st _ 0 _ p0 (by omega) y0, show n + 3 = n + 2 + 1 from rfl, st _ 1 _ p1 (by omega) y1, show n + 2 = n + 1 + 1 from rfl, en _ 2 _ (by omega), b1_s, nI_add, nI_add, w2 (Or.inr (by omega)), Nat.zero_add, Nat.add_zero]
    · have e : (0 : Int32) = nI 0 := rfl
      rw [e, st _ 0 _ p0 (by omega) y0, show n + 3 = n + 2 + 1 from rfl, st _ 1 _ p1 (by omega) y1, show n + 2 = n + 1 + 1 from rfl, st _ 2 _ p2 (by omega) y2, en _ 3 _ (by omega), b1_s, nI_add, nI_add, nI_add, Nat.zero_add]
  · rw [sumOf_c hi, show 3 * i = 3 * i + 0 from rfl, z0, show 3 * i + 0 + 1 = 3 * i + 1 from rfl, z1, show 3 * i + 0 + 2 = 3 * i + 2 from rfl, z2, nI_add, nI_add]
theorem wsum_x {MX MM : Mem} {b mn kd bn hr i : Nat} (h : RP MX.1 MM.1 b mn kd bn hr) (hi : i < mn) : ∃ p0 p1 p2 : Nat, X3_wageSum 23 (nI i) MX = some (nI (p0 + p1 + p2)) ∧ X12_payOf (nI i) 0 MM = some (nI p0) ∧ X12_payOf (nI i) 1 MM = some (nI p1) ∧ X12_payOf (nI i) 2 MM = some (nI p2) := by
  obtain ⟨c1, ha1, ha2, a3, a4, a5, c2, b1, b2, b3, b4, b5, b6, b7, b8, b9⟩ := h.k
  obtain ⟨p0, x0, y0, z0, w0⟩ := h.1.2.2.2.2.2.2.2.2.1 i 0 hi (by omega)
  obtain ⟨p1, x1, y1, z1, w1⟩ := h.1.2.2.2.2.2.2.2.2.1 i 1 hi (by omega)
  obtain ⟨p2, x2, y2, z2, w2⟩ := h.1.2.2.2.2.2.2.2.2.1 i 2 hi (by omega)
  refine ⟨p0, p1, p2, ?_, ?_, ?_, ?_⟩
  · unfold X3_wageSum
    obtain ⟨n, hn⟩ := zFU_s 4 (by omega)
    have st : ∀ (f k : Nat) (c : Int32) (p : Nat), k < kd → MX.1 28 (3 * i + k) = nI p → X3_wageSum_L1 23 (nI i) MX (f + 1) c (nI k) = X3_wageSum_L1 23 (nI i) MX f (c + nI p) (nI (k + 1)) := fun f k c p hk hp => by
      rw [X3_wageSum_L1, b3, if_neg (nI_ge hk (by omega)), wageOf_c (by omega) (by omega), hp, lt_e, show nI k + 1 = nI (k + 1) from nI_add k 1]
    have en : ∀ (f k : Nat) (c : Int32), k = kd → X3_wageSum_L1 23 (nI i) MX (f + 1) c (nI k) = some c := fun f k c hk => by
      rw [X3_wageSum_L1, b3, if_pos (nI_le (by omega) (by omega))]
    have e : (0 : Int32) = nI 0 := rfl
    rw [hn, show n + 4 = n + 3 + 1 from rfl, e]
    rcases (by omega : kd = 0 ∨ kd = 1 ∨ kd = 2 ∨ kd = 3) with z | z | z | z
    · rw [en _ 0 _ (by omega), b1_s, w0 (by omega), w1 (by omega), w2 (by omega)]
    · rw [st _ 0 _ p0 (by omega) y0, show n + 3 = n + 2 + 1 from rfl, en _ 1 _ (by omega), b1_s, nI_add, w1 (by omega), w2 (by omega), Nat.zero_add, Nat.add_zero]
    · rw [st _ 0 _ p0 (by omega) y0, show n + 3 = n + 2 + 1 from rfl, st _ 1 _ p1 (by omega) y1, show n + 2 = n + 1 + 1 from rfl, en _ 2 _ (by omega), b1_s, nI_add, nI_add, w2 (by omega), Nat.zero_add, Nat.add_zero]
    · rw [st _ 0 _ p0 (by omega) y0, show n + 3 = n + 2 + 1 from rfl, st _ 1 _ p1 (by omega) y1, show n + 2 = n + 1 + 1 from rfl, st _ 2 _ p2 (by omega) y2, en _ 3 _ (by omega), b1_s, nI_add, nI_add, nI_add, Nat.zero_add]
  · rw [show (0 : Int32) = nI 0 from rfl, payOf_c c2 c1 (by omega) (by omega), z0]
  · rw [show (1 : Int32) = nI 1 from rfl, payOf_c c2 c1 (by omega) (by omega), z1]
  · rw [show (2 : Int32) = nI 2 from rfl, payOf_c c2 c1 (by omega) (by omega), z2]
theorem bit_fin : ∀ (m : Fin 32) (i : Fin 5), ((nI m.1) >>> ((nI i.1) &&& 31)) &&& 1 = nI (m.1 / 2 ^ i.1 % 2) := by decide +kernel
theorem p2_man (a1 a2 : Int32) : zStep RR (fun M => (dO dIM) (X11_man a1 a2 M)) (fun M => (dO dIM) (X12_man a1 a2 M)) := zs_MM fun MX MM hR => by
  obtain ⟨b, mn, kd, bn, hr, h⟩ := hR
  have stay : ∀ v : Int32, ∃ v MX' MM', (some (v, MX) : Option (Int32 × Mem)) = some (v, MX') ∧ (some (v, MM) : Option (Int32 × Mem)) = some (v, MM') ∧ RR MX' MM' := fun v => ⟨v, _, _, rfl, rfl, b, mn, kd, bn, hr, h⟩
  obtain ⟨c1, ha1, ha2, a3, a4, a5, c2, b1, b2, b3, b4, b5, b6, b7, b8, b9⟩ := h.k
  unfold X11_man X12_man
  rcases man_c h a1 with ⟨i, hi, rfl, e1, e2⟩ | ⟨e1, e2⟩
  · rw [e1, e2, if_pos rfl, bo_s, if_pos rfl]
    by_cases q0 : a2 = 0
    · rw [if_pos q0, if_pos q0, cropOf_c (Or.inl rfl) (by omega), show (15 : Int32) + nI i = nI (15 + i) from nI_add 15 i, gd_in (by omega) (by omega), nI_clamp (by omega), show MX.1 (35 + 1) (30 + i) = _ from h.2.1.2.2.1 i (by omega)]
      exact ⟨_, _, _, rfl, rfl, b, mn, kd, bn, hr, h⟩
    · rw [if_neg q0, if_neg q0]
      by_cases q1 : a2 = 1
      · obtain ⟨n, _, n1, n2⟩ := h.2.1.2.2.2.1 i (by omega)
        rw [if_pos q1, if_pos q1, spentBy_c (Or.inl rfl) (by omega), show (35 : Int32) + nI i = nI (35 + i) from nI_add 35 i, gd_in (by omega) (by omega), nI_clamp (by omega), show MX.1 (35 + 1) (35 + i) = _ from n1, n2]
        exact ⟨_, _, _, rfl, rfl, b, mn, kd, bn, hr, h⟩
      · rw [if_neg q1, if_neg q1]
        by_cases q2 : a2 = 2
        · have hG := RS.gq (o := 35) (a := 38) h.2.1 h.1 (fun i hi => (h.2.2.2.2.2.2.2.2.2.2.2 i hi).1)
          obtain ⟨v, MX', MM', x1, x2, x3, x4⟩ := grow_q (a := 38) (Or.inl rfl) zlX_38 (by omega) hi h.1 c2 c1 hG
          rw [if_pos q2, if_pos q2]
          unfold X9_growthOf
          rw [show X9_growthWith 35 (35 + 3) (nI i) MX = _ from x1, x2, bp_s, bp_s, bp_s]
          exact ⟨v, MX', MM', rfl, rfl, b, mn, kd, bn, hr, h.fr (x3.wk (fun a i z => by unfold SXg at z; unfold SX; omega)) (x4.wk (fun a i z => by unfold SMg at z; unfold SM; omega))⟩
        · rw [if_neg q2, if_neg q2]
          by_cases q3 : a2 = 3
          · obtain ⟨s, _, s1, s2⟩ := psum_x h (show i < 5 by omega)
            rw [if_pos q3, if_pos q3, s1, s2, bo_s, bo_s]
            exact ⟨_, _, _, rfl, rfl, b, mn, kd, bn, hr, h⟩
          · rw [if_neg q3, if_neg q3]
            by_cases q4 : a2 = 4
            · obtain ⟨p0, p1, p2, s1, s2, s3, s4⟩ := wsum_x h hi
              rw [if_pos q4, if_pos q4, s1, s2, bo_s, bo_s, s3, bo_s, s4, bo_s, nI_add, nI_add]
              exact ⟨_, _, _, rfl, rfl, b, mn, kd, bn, hr, h⟩
            · rw [if_neg q4, if_neg q4]
              by_cases q5 : a2 = 5
              · rw [if_pos q5, if_pos q5, xc_in (by rw [zlX_26]; omega), c2, show (5 : Int32) * nI b = nI (5 * b) from nI_mul 5 b, nI_add, gd_in (by omega) (by omega), nI_clamp (by omega), show MX.1 26 i = _ from h.1.2.2.2.2.2.1 i hi]
                exact ⟨_, _, _, rfl, rfl, b, mn, kd, bn, hr, h⟩
              · rw [if_neg q5, if_neg q5]
                by_cases q6 : a2 = 6
                · obtain ⟨mask, m1, m2, m3⟩ := h.1.2.2.2.2.1
                  rw [if_pos q6, if_pos q6, c2, gd_in (by omega) (by omega), nI_clamp (by omega), m2, bit_fin ⟨mask, m1⟩ ⟨i, by omega⟩]
                  unfold X3_isLoose
                  rw [show X11_cell (23 + 2) (nI i) MX = nI (mask / 2 ^ i % 2) by rw [xc_in (by rw [show 23 + 2 = 25 from rfl, zlX_25]; omega)]; exact m3 i hi]
                  rcases (by omega : mask / 2 ^ i % 2 = 0 ∨ mask / 2 ^ i % 2 = 1) with z | z
                  · rw [z, if_pos (show nI 0 = 0 from rfl), if_neg Bool.false_ne_true]
                    exact ⟨_, _, _, rfl, rfl, b, mn, kd, bn, hr, h⟩
                  · rw [z, if_neg (show ¬ nI 1 = 0 by decide), if_pos rfl]
                    exact ⟨_, _, _, rfl, rfl, b, mn, kd, bn, hr, h⟩
                · rw [if_neg q6, if_neg q6]
                  exact ⟨_, _, _, rfl, rfl, b, mn, kd, bn, hr, h⟩
  · rw [e1, e2, if_neg Bool.false_ne_true, bo_s, if_neg Bool.false_ne_true]
    exact ⟨_, _, _, rfl, rfl, b, mn, kd, bn, hr, h⟩
theorem p2_all (a1 a2 : Int32) : zStep RR (fun M => (dO (dI M)) (X11_all a1 a2 M)) (fun M => (dO (dI M)) (X12_all a1 a2 M)) := zs_OO fun MX MM hR => by
  obtain ⟨b, mn, kd, bn, hr, h⟩ := hR
  obtain ⟨c1, ha1, ha2, a3, a4, a5, c2, b1, b2, b3, b4, b5, b6, b7, b8, b9⟩ := h.k
  unfold X11_all X12_all
  rcases kind_c h a1 with ⟨k, hk, rfl, e1, e2⟩ | ⟨e1, e2⟩
  · rw [e1, e2, if_pos rfl, bo_s, if_pos rfl]
    by_cases q1 : a2 < 0
    · rw [if_pos q1, isIn_neg q1, if_neg Bool.false_ne_true]
      exact ⟨_, rfl, rfl⟩
    · obtain ⟨j, hj, rfl⟩ := nI_of q1
      rw [if_neg q1, show X12_isIn (nI j) 0 1 = decide (j ≤ 1) from isIn_le (n := 1) hj (by omega)]
      by_cases q2 : j ≤ 1
      · rw [if_pos (show nI j ≤ 1 from nI_le (b := 1) q2 (by omega)), decide_eq_true q2, if_pos rfl]
        obtain ⟨t, t', x1, x2, x3⟩ := two_zFU (σ := Int32 × Int32) (σ' := Int32 × Int32) (fun n s => X11_all_L1 (nI k) (nI j) MX n s.1 s.2) (fun n s => X12_all_L1 (nI k) (nI j) MM n s.1 s.2) (fun d s s' => ∃ i sm, i + d = mn ∧ s = (sm, nI i) ∧ s' = (sm, nI i)) (fun t t' => t = t') (by
          rintro n n' d s s' ⟨i, sm, hd, rfl, rfl⟩
          by_cases hi : i = mn
          · left
            refine ⟨sm, sm, ?_, ?_, rfl⟩
            · show X11_all_L1 (nI k) (nI j) MX (n + 1) sm (nI i) = _
              rw [X11_all_L1, b1, if_pos (nI_le (by omega) (by omega))]
            · show X12_all_L1 (nI k) (nI j) MM (n' + 1) sm (nI i) = _
              rw [X12_all_L1, many_c c2 c1 b2, bo_s, if_pos (nI_le (by omega) (by omega))]
          · right
            obtain ⟨p, _, p1, p2, _⟩ := h.2.1.1 i k (by omega) (by omega)
            obtain ⟨o1, _⟩ := h.2.1.2.1 i k (by omega) (by omega)
            by_cases hj0 : j = 0
            · refine ⟨d - 1, (sm + nI p, nI (i + 1)), (sm + nI p, nI (i + 1)), by omega, ⟨i + 1, _, by omega, rfl, rfl⟩, ?_, ?_⟩
              · show X11_all_L1 (nI k) (nI j) MX (n + 1) sm (nI i) = X11_all_L1 (nI k) (nI j) MX n (sm + nI p) (nI (i + 1))
                rw [X11_all_L1, b1, if_neg (nI_ge (by omega) (by omega)), if_pos (by rw [hj0]; rfl), purseOf_c (Or.inl rfl) (by omega) (by omega), show MX.1 (35 + 1) (3 * i + k) = _ from p1, l1_s, show nI i + 1 = nI (i + 1) from nI_add i 1]
              · show X12_all_L1 (nI k) (nI j) MM (n' + 1) sm (nI i) = X12_all_L1 (nI k) (nI j) MM n' (sm + nI p) (nI (i + 1))
                rw [X12_all_L1, many_c c2 c1 b2, bo_s, if_neg (nI_ge (by omega) (by omega)), if_pos (by rw [hj0]; rfl), inPurse_c (by omega) (by omega), p2, bo_s, b1_s, show nI i + 1 = nI (i + 1) from nI_add i 1]
            · refine ⟨d - 1, (sm + MX.1 36 (15 + (3 * i + k)), nI (i + 1)), (sm + MX.1 36 (15 + (3 * i + k)), nI (i + 1)), by omega, ⟨i + 1, _, by omega, rfl, rfl⟩, ?_, ?_⟩
              · show X11_all_L1 (nI k) (nI j) MX (n + 1) sm (nI i) = X11_all_L1 (nI k) (nI j) MX n (sm + MX.1 36 (15 + (3 * i + k))) (nI (i + 1))
                rw [X11_all_L1, b1, if_neg (nI_ge (by omega) (by omega)), if_neg (nI_ne0 (by omega) (by omega)), overAt_c (Or.inl rfl) (by omega) (by omega), l1_s, show nI i + 1 = nI (i + 1) from nI_add i 1]
              · show X12_all_L1 (nI k) (nI j) MM (n' + 1) sm (nI i) = X12_all_L1 (nI k) (nI j) MM n' (sm + MX.1 36 (15 + (3 * i + k))) (nI (i + 1))
                rw [X12_all_L1, many_c c2 c1 b2, bo_s, if_neg (nI_ge (by omega) (by omega)), if_neg (nI_ne0 (by omega) (by omega)), overOf_c c2 c1 b4 ha2 (by omega) (by omega), if_pos hk, bo_s, b1_s, o1, Nat.add_assoc, show nI i + 1 = nI (i + 1) from nI_add i 1]) mn (0, 0) (0, 0) (by omega) ⟨0, 0, by omega, rfl, rfl⟩
        exact ⟨t, congrArg (fun x => b1_ x fun e7 => some e7) x1, (congrArg (fun x => b1_ x fun e7 => some e7) x2).trans (by rw [x3]; rfl)⟩
      · rw [if_neg (show ¬ nI j ≤ 1 from nI_ge (b := j) (a := 1) (by omega) hj), decide_eq_false q2, if_neg Bool.false_ne_true]
        exact ⟨_, rfl, rfl⟩
  · rw [e1, e2, if_neg Bool.false_ne_true, bo_s, if_neg Bool.false_ne_true]
    exact ⟨_, rfl, rfl⟩
theorem p2_saves (a1 a2 a3 : Int32) : zStep RR (fun M => (dO (dI M)) (X11_saves a1 a2 a3 M)) (fun M => (dO (dI M)) (X12_saves a1 a2 a3 M)) := zs_OO fun MX MM hR => by
  obtain ⟨b, mn, kd, bn, hr, h⟩ := hR
  obtain ⟨c1, ha1, ha2, a3', a4, a5, c2, b1, b2, b3, b4, b5, b6, b7, b8, b9⟩ := h.k
  unfold X11_saves X12_saves X3_hasPair
  rcases man_c h a1 with ⟨i, hi, rfl, e1, e2⟩ | ⟨e1, e2⟩
  · rw [e1, e2, if_pos rfl, bo_s, if_pos rfl]
    rcases kind_c h a2 with ⟨k, hk, rfl, e3, e4⟩ | ⟨e3, e4⟩
    · rw [e3, e4, if_pos rfl, if_pos rfl, bo_s, if_pos rfl]
      by_cases q1 : a3 < 0
      · rw [if_pos q1, isIn_neg q1, if_neg Bool.false_ne_true]
        exact ⟨_, rfl, rfl⟩
      · obtain ⟨g, hg, rfl⟩ := nI_of q1
        rw [if_neg q1, show X12_isIn (nI g) 0 99 = decide (g ≤ 99) from isIn_le (n := 99) hg (by omega)]
        by_cases q2 : g ≤ 99
        · obtain ⟨p, p9, p1, p2, _⟩ := h.2.1.1 i k (by omega) (by omega)
          obtain ⟨w, w9, w1, w2, _⟩ := h.1.2.2.2.2.2.2.2.2.1 i k hi (by omega)
          rw [if_pos (show nI g ≤ 99 from nI_le (b := 99) q2 (by omega)), decide_eq_true q2, if_pos rfl, inPurse_c (by omega) (by omega), p2, bo_s]
          obtain ⟨t, t', x1, x2, x3⟩ := two_zFU (σ := Int32) (σ' := Int32 × Int32) (fun n s => X11_saves_L1 (nI i) (nI k) (nI g) MX n s) (fun n s => X12_saves_L1 (nI i) (nI k) (nI g) MM n s.1 s.2) (fun d s s' => ∃ j, j + d = 61 ∧ s = nI j ∧ s' = (nI (p + j * w), nI j)) (fun t t' => t = t') (by
            rintro n n' d s s' ⟨j, hd, rfl, rfl⟩
            have hb : j * w ≤ 61 * 9 := Nat.mul_le_mul (by omega) w9
            by_cases hj : j = 61
            · left
              refine ⟨-1, -1, ?_, ?_, rfl⟩
              · show X11_saves_L1 (nI i) (nI k) (nI g) MX (n + 1) (nI j) = _
                rw [X11_saves_L1, hj, if_pos (by decide)]
              · show X12_saves_L1 (nI i) (nI k) (nI g) MM (n' + 1) (nI (p + j * w)) (nI j) = _
                rw [X12_saves_L1, hj, if_pos (by decide)]
            · have ex : ∀ n, X11_saves_L1 (nI i) (nI k) (nI g) MX (n + 1) (nI j) = if nI (p + j * w) < nI g then X11_saves_L1 (nI i) (nI k) (nI g) MX n (nI (j + 1)) else some (nI j) := fun n => by
                rw [X11_saves_L1, if_neg (show ¬ (60 : Int32) < nI j from nI_nlt (a := 60) (by omega) (by omega)), purseOf_c (Or.inl rfl) (by omega) (by omega), show MX.1 (35 + 1) (3 * i + k) = _ from p1, wageOf_c (by omega) (by omega), show MX.1 28 (3 * i + k) = _ from w1, nI_mul, nI_add, show nI j + 1 = nI (j + 1) from nI_add j 1]
              have em : ∀ n, X12_saves_L1 (nI i) (nI k) (nI g) MM (n + 1) (nI (p + j * w)) (nI j) = if nI (p + j * w) < nI g then X12_saves_L1 (nI i) (nI k) (nI g) MM n (nI (p + (j + 1) * w)) (nI (j + 1)) else some (nI j) := fun n => by
                rw [X12_saves_L1, if_neg (show ¬ (60 : Int32) < nI j from nI_nlt (a := 60) (by omega) (by omega)), payOf_c c2 c1 (by omega) (by omega), w2, bo_s, nI_add, show nI j + 1 = nI (j + 1) from nI_add j 1, Nat.add_assoc, ← Nat.succ_mul]
              by_cases z : nI (p + j * w) < nI g
              · right
                exact ⟨d - 1, nI (j + 1), (nI (p + (j + 1) * w), nI (j + 1)), by omega, ⟨j + 1, by omega, rfl, rfl⟩, by show X11_saves_L1 (nI i) (nI k) (nI g) MX (n + 1) (nI j) = _; rw [ex, if_pos z], by show X12_saves_L1 (nI i) (nI k) (nI g) MM (n' + 1) (nI (p + j * w)) (nI j) = _; rw [em, if_pos z]⟩
              · left
                exact ⟨nI j, nI j, by show X11_saves_L1 (nI i) (nI k) (nI g) MX (n + 1) (nI j) = _; rw [ex, if_neg z], by show X12_saves_L1 (nI i) (nI k) (nI g) MM (n' + 1) (nI (p + j * w)) (nI j) = _; rw [em, if_neg z], rfl⟩) 61 (nI 0) (nI p, nI 0) (by omega) ⟨0, by omega, rfl, by rw [Nat.zero_mul, Nat.add_zero]⟩
          exact ⟨t, x1, x2.trans (by rw [x3])⟩
        · rw [if_neg (show ¬ nI g ≤ 99 from nI_ge (b := g) (a := 99) (by omega) hg), decide_eq_false q2, if_neg Bool.false_ne_true]
          exact ⟨_, rfl, rfl⟩
    · rw [e3, e4, if_neg Bool.false_ne_true, if_neg Bool.false_ne_true, bo_s, if_neg Bool.false_ne_true]
      exact ⟨_, rfl, rfl⟩
  · rw [e1, e2, if_neg Bool.false_ne_true, if_neg Bool.false_ne_true, bo_s, if_neg Bool.false_ne_true]
    exact ⟨_, rfl, rfl⟩
theorem p2_lies (a1 : Int32) : zStep RR (fun M => (dI M) (X11_lies a1 M)) (fun M => (dO (dI M)) (X12_lies a1 M)) := zs_I fun MX MM hR => by
  obtain ⟨b, mn, kd, bn, hr, h⟩ := hR
  obtain ⟨n, hn, n1, n2, n3⟩ := h.2.2.2.2.1
  unfold X11_lies X7_numberAt X12_lies
  rw [n1, n2]
  by_cases q1 : a1 < 0
  · rw [if_pos q1, isIn_neg q1, if_neg Bool.false_ne_true]
  · obtain ⟨j, hj, rfl⟩ := nI_of q1
    rw [if_neg q1, isIn_lt hj (by omega)]
    by_cases q2 : j < n
    · rw [if_neg (nI_ge q2 (by omega)), decide_eq_true q2, if_pos rfl, gd_in (by omega) hj, nI_clamp hj, xc_in (by rw [zlX_52]; omega), n3 j q2]
    · rw [if_pos (nI_le (by omega) hj), decide_eq_false q2, if_neg Bool.false_ne_true]
