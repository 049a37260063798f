/-! ===== phase 2: give, change, undo, redo, images ===== -/
theorem RS.purse {c g c' g' : Nat → Int32} {mn kd hr W : Nat} (h : RS c g mn kd hr W) (hp : ∀ i k, i < 5 → k < 3 → ∃ n, n ≤ 99 ∧ c' (3 * i + k) = nI n ∧ g' (3 * i + k) = nI n ∧ (mn ≤ i ∨ kd ≤ k → n = 0)) (r1 : ∀ j, 15 ≤ j → j < 42 → c' j = c j) (r2 : ∀ j, 15 ≤ j → j < 42 → g' j = g j) : RS c' g' mn kd hr W := by
  obtain ⟨h1, h2, h3, h4, h5, h6⟩ := h
  refine ⟨hp, fun q j hq hj => ?_, fun q hq => ?_, fun q hq => ?_, ?_, ?_⟩
  · rw [r1 _ (by omega) (by omega), r2 _ (by omega) (by omega)]; exact h2 q j hq hj
  · rw [r1 _ (by omega) (by omega), r2 _ (by omega) (by omega)]; exact h3 q hq
  · rw [r1 _ (by omega) (by omega), r2 _ (by omega) (by omega)]; exact h4 q hq
  · rw [r1 _ (by omega) (by omega), r2 _ (by omega) (by omega)]; exact h5
  · rw [r1 _ (by omega) (by omega), r2 _ (by omega) (by omega)]; exact h6
theorem gets_c {M : Mem} {i k p n : Nat} (hi : i < 5) (hk : k < 3) (hp : M.1 33 (3 * i + k) = nI p) (h : p + n < 1000) : X12_gets (nI i) (nI k) (nI n) M = some (uI M 33 (3 * i + k) (nI (min (p + n) 99))) := by
  have e5 : (0 : Int32) + 3 * nI i + nI k = nI (3 * i + k) := by simp only [nlit, nI_mul, nI_add, Nat.zero_add]
  unfold X12_gets
  rw [inPurse_c hi hk, hp, bo_s, e5, gd_in (by omega) (by omega), nI_clamp (by omega), nI_add, lesser99 _ h, lt_e]
theorem p2_give (a1 a2 a3 a4 : Int32) : zStep RR (fun M => (dO dIM) (X11_give a1 a2 a3 a4 M)) (fun M => (dO dIM) (X12_give a1 a2 a3 a4 M)) := zs_MM fun MX MM hR => by
  obtain ⟨b, mn, kd, bn, hr, h⟩ := hR
  have stay : ∃ v MX' MM', (some ((-1 : Int32), MX) : Option (Int32 × Mem)) = some (v, MX') ∧ (some ((-1 : Int32), MM) : Option (Int32 × Mem)) = some (v, MM') ∧ RR MX' MM' := ⟨_, _, _, rfl, rfl, b, mn, kd, bn, hr, h⟩
  obtain ⟨c1, ha1, ha2, a3', a4', a5, c2, b1, b2, b3, b4, b5, b6, b7, b8, b9⟩ := h.k
  unfold X11_give X12_give X3_hasPair
  rcases man_c h a1 with ⟨i, hi, rfl, e1, e2⟩ | ⟨e1, e2⟩
  · rw [e1, e2, if_pos rfl, bo_s, if_pos rfl]
    rcases man_c h a2 with ⟨o, ho, rfl, e5, e6⟩ | ⟨e5, e6⟩
    · rw [e5, e6, bo_s, if_pos rfl, if_pos rfl]
      by_cases qo : nI i = nI o
      · rw [if_pos qo, if_pos qo]
        rcases kind_c h a3 with ⟨k, hk, rfl, e3, e4⟩ | ⟨e3, e4⟩
        · rw [e3, if_pos rfl, if_pos rfl]; exact stay
        · rw [e3, if_neg Bool.false_ne_true, if_neg Bool.false_ne_true]; exact stay
      · have hio : i ≠ o := fun z => qo (by rw [z])
        rw [if_neg qo, if_neg qo]
        rcases kind_c h a3 with ⟨k, hk, rfl, e3, e4⟩ | ⟨e3, e4⟩
        · obtain ⟨p, p1, p2, p3, _⟩ := h.2.1.1 i k (by omega) (by omega)
          obtain ⟨q, q1, q2, q3, _⟩ := h.2.1.1 o k (by omega) (by omega)
          rw [e3, e4, if_pos rfl, if_pos rfl, bo_s, if_pos rfl, inPurse_c (by omega) (by omega), p3, bo_s]
          by_cases z1 : a4 < 1
          · rw [if_pos z1, isIn_neg z1, if_neg (by decide)]
            exact stay
          · obtain ⟨nn, n1, n2, rfl⟩ := isIn_1 z1
            rw [if_neg z1, isIn_1n n1 n2 (by omega), purseOf_c (Or.inl rfl) (by omega) (by omega), p2]
            by_cases z2 : nn ≤ p
            · rw [if_neg (show ¬ 99 < nI nn from nI_nlt (a := 99) (by omega) (by omega)), if_pos (nI_le z2 (by omega)), decide_eq_true z2, if_pos rfl]
              have fx : Fr (fun a i => a = 36 ∧ i < 42) MX (uI (uI MX 36 (3 * i + k) (nI (p - nn))) 36 (3 * o + k) (nI (min (q + nn) 99))) := (Fr.rf.up _ ⟨rfl, by omega⟩).up _ ⟨rfl, by omega⟩
              obtain ⟨MX2, MM1, k1, k2, k3, k4, k5, k6⟩ := keep_c h fx
              have y3 : MM1.1 33 (3 * i + k) = nI p := (k4.2 33 _ (by omega)).trans p3
              have y4 : (uI MM1 33 (3 * i + k) (nI (p - nn))).1 33 (3 * o + k) = nI q := (uI_ne (by omega)).trans ((k4.2 33 _ (by omega)).trans q3)
              have fm : Fr (fun a i => a = 33 ∧ i < 42) MM1 (uI (uI MM1 33 (3 * i + k) (nI (p - nn))) 33 (3 * o + k) (nI (min (q + nn) 99))) := (Fr.rf.up _ ⟨rfl, by omega⟩).up _ ⟨rfl, by omega⟩
              have hRS : RS (MX2.1 36) ((uI (uI MM1 33 (3 * i + k) (nI (p - nn))) 33 (3 * o + k) (nI (min (q + nn) 99))).1 33) mn kd hr 999 := by
                refine h.2.1.purse (fun i' k' hi' hk' => ?_) (fun j j1 j2 => ?_) (fun j j1 j2 => ?_)
                · rw [k5]
                  by_cases w1 : 3 * i' + k' = 3 * o + k
                  · rw [w1, uI_eq, uI_eq]
                    exact ⟨_, by omega, rfl, rfl, fun w => by omega⟩
                  · rw [uI_ne (k := 36) (i := 3 * o + k) (by omega), uI_ne (k := 33) (i := 3 * o + k) (by omega)]
                    by_cases w2 : 3 * i' + k' = 3 * i + k
                    · rw [w2, uI_eq, uI_eq]
                      exact ⟨_, by omega, rfl, rfl, fun w => by omega⟩
                    · rw [uI_ne (k := 36) (by omega), uI_ne (k := 33) (by omega), k4.2 33 _ (by omega)]
                      exact h.2.1.1 i' k' hi' hk'
                · rw [k5, uI_ne (by omega), uI_ne (by omega)]
                · rw [uI_ne (by omega), uI_ne (by omega), k4.2 33 _ (by omega)]
              refine ⟨nI (min (q + nn) 99), MX2, _, ?_, ?_, b, mn, kd, bn, hr, h.act (k3.wk (fun a i z => Or.inr z)) ((k4.wk (fun a i z => by first | omega | (unfold SAm; omega))).tr (fm.wk (fun a i z => by first | omega | (unfold SAm; omega)))) hRS (k6 _ fm)⟩
              · rw [addP_c (Or.inl rfl) (by omega) (by omega), p2, nI_addm z2, min99 (by omega), lt_e, addP_c (Or.inl rfl) (by omega) (by omega), uI_ne (by omega), q2, nI_add, min99' _ (by omega), lt_e, k1, bo_s, purseOf_c (Or.inl rfl) (by omega) (by omega), k5, uI_eq]
              · have e7 : (0 : Int32) + 3 * nI i + nI k = nI (3 * i + k) := by simp only [nlit, nI_mul, nI_add, Nat.zero_add]
                rw [k2, bo_s, e7, gd_in (by omega) (by omega), nI_clamp (by omega), y3, nI_sub z2, lt_e, gets_c (by omega) (by omega) y4 (by omega), bo_s, inPurse_c (by omega) (by omega), uI_eq, bo_s]
            · rw [decide_eq_false z2, if_neg Bool.false_ne_true]
              by_cases z3 : (99 : Int32) < nI nn
              · rw [if_pos z3]; exact stay
              · rw [if_neg z3, if_neg (nI_ge (by omega) (by omega))]; exact stay
        · rw [e3, e4, if_neg Bool.false_ne_true, if_neg Bool.false_ne_true, bo_s, if_neg Bool.false_ne_true]
          exact stay
    · rw [e5, e6, bo_s, if_neg Bool.false_ne_true, if_neg Bool.false_ne_true]
      rcases kind_c h a3 with ⟨k, hk, rfl, e3, e4⟩ | ⟨e3, e4⟩
      · rw [e3, if_pos rfl, if_pos rfl]; exact stay
      · rw [e3, if_neg Bool.false_ne_true, if_neg Bool.false_ne_true]; exact stay
  · rw [e1, e2, if_neg Bool.false_ne_true, if_neg Bool.false_ne_true, bo_s, if_neg Bool.false_ne_true]
    exact stay
theorem p2_change (a1 a2 a3 : Int32) : zStep RR (fun M => (dO dIM) (X11_change a1 a2 a3 M)) (fun M => (dO dIM) (X12_change a1 a2 a3 M)) := zs_MM fun MX MM hR => by
  obtain ⟨b, mn, kd, bn, hr, h⟩ := hR
  have stay : ∃ v MX' MM', (some ((-1 : Int32), MX) : Option (Int32 × Mem)) = some (v, MX') ∧ (some ((-1 : Int32), MM) : Option (Int32 × Mem)) = some (v, MM') ∧ RR MX' MM' := ⟨_, _, _, rfl, rfl, b, mn, kd, bn, hr, h⟩
  obtain ⟨c1, ha1, ha2, a3', a4', a5, c2, b1, b2, b3, b4, b5, b6, b7, b8, b9⟩ := h.k
  unfold X11_change X12_change X3_hasPair
  rcases man_c h a1 with ⟨i, hi, rfl, e1, e2⟩ | ⟨e1, e2⟩
  · rw [e1, e2, if_pos rfl, bo_s, if_pos rfl, if_pos rfl]
    rcases kind_c h a2 with ⟨k, hk, rfl, e3, e4⟩ | ⟨e3, e4⟩
    · rw [e3, e4, if_pos rfl, if_pos rfl, bo_s, if_pos rfl]
      rcases kind_c h a3 with ⟨o, ho, rfl, e5, e6⟩ | ⟨e5, e6⟩
      · rw [e5, e6, if_pos rfl, if_pos rfl, bo_s, if_pos rfl, lt_e, c2, lt_e (9 * nI b + 3 * nI k + nI o)]
        obtain ⟨p, p1, p2, p3, _⟩ := h.2.1.1 i k (by omega) (by omega)
        obtain ⟨q, q1, q2, q3, _⟩ := h.2.1.1 i o (by omega) (by omega)
        obtain ⟨r, r1, r2, r3, r4⟩ := h.1.2.2.2.2.2.2.2.2.2.1 (3 * k + o) (by omega)
        have e7 : (9 : Int32) * nI b + 3 * nI k + nI o = nI (9 * b + (3 * k + o)) := by simp only [nlit, nI_mul, nI_add, Nat.add_assoc]
        rw [e7, gd_in (by omega) (by omega), nI_clamp (by omega), (rate_c (by omega) (by omega)).1, show MX.1 29 (3 * k + o) = nI r from r2, r3]
        by_cases z0 : r = 0
        · rw [z0, if_pos (show nI 0 = 0 from rfl), if_pos (show nI 0 = 0 from rfl)]
          exact stay
        · have z0' : ¬ nI r = 0 := nI_ne0 (by omega) (by omega)
          rw [if_neg z0', if_neg z0', purseOf_c (Or.inl rfl) (by omega) (by omega), p2, inPurse_c (by omega) (by omega), p3, bo_s]
          by_cases z2 : r ≤ p
          · obtain ⟨g, g1, g2, g3, g4⟩ := r4 z0
            rw [if_pos (nI_le z2 (by omega)), if_pos (nI_le z2 (by omega))]
            -- what he has of the second kind then
            have hq' : ∀ (S : Mem) (cell : Nat), S.1 cell (3 * i + k) = nI p → S.1 cell (3 * i + o) = nI q → (uI S cell (3 * i + k) (nI (p - r))).1 cell (3 * i + o) = nI (if k = o then p - r else q) := fun S cell h1 h2 => by
              by_cases w : k = o
              · subst w; rw [uI_eq, if_pos rfl]
              · rw [uI_ne (by omega), h2, if_neg w]
            have hqb : (if k = o then p - r else q) ≤ 99 := by split <;> omega
            generalize hqq : (if k = o then p - r else q) = qq at hq' hqb
            have fx : Fr (fun a i => a = 36 ∧ i < 42) MX (uI (uI MX 36 (3 * i + k) (nI (p - r))) 36 (3 * i + o) (nI (min (qq + g) 99))) := (Fr.rf.up _ ⟨rfl, by omega⟩).up _ ⟨rfl, by omega⟩
            obtain ⟨MX2, MM1, k1, k2, k3, k4, k5, k6⟩ := keep_c h fx
            have y3 : MM1.1 33 (3 * i + k) = nI p := (k4.2 33 _ (by omega)).trans p3
            have y4 : (uI MM1 33 (3 * i + k) (nI (p - r))).1 33 (3 * i + o) = nI qq := hq' MM1 33 y3 ((k4.2 33 _ (by omega)).trans q3)
            have fm : Fr (fun a i => a = 33 ∧ i < 42) MM1 (uI (uI MM1 33 (3 * i + k) (nI (p - r))) 33 (3 * i + o) (nI (min (qq + g) 99))) := (Fr.rf.up _ ⟨rfl, by omega⟩).up _ ⟨rfl, by omega⟩
            have hRS : RS (MX2.1 36) ((uI (uI MM1 33 (3 * i + k) (nI (p - r))) 33 (3 * i + o) (nI (min (qq + g) 99))).1 33) mn kd hr 999 := by
              refine h.2.1.purse (fun i' k' hi' hk' => ?_) (fun j j1 j2 => ?_) (fun j j1 j2 => ?_)
              · rw [k5]
                by_cases w1 : 3 * i' + k' = 3 * i + o
                · rw [w1, uI_eq, uI_eq]
                  exact ⟨_, by omega, rfl, rfl, fun w => by omega⟩
                · rw [uI_ne (k := 36) (i := 3 * i + o) (by omega), uI_ne (k := 33) (i := 3 * i + o) (by omega)]
                  by_cases w2 : 3 * i' + k' = 3 * i + k
                  · rw [w2, uI_eq, uI_eq]
                    exact ⟨_, by omega, rfl, rfl, fun w => by omega⟩
                  · rw [uI_ne (k := 36) (by omega), uI_ne (k := 33) (by omega), k4.2 33 _ (by omega)]
                    exact h.2.1.1 i' k' hi' hk'
              · rw [k5, uI_ne (by omega), uI_ne (by omega)]
              · rw [uI_ne (by omega), uI_ne (by omega), k4.2 33 _ (by omega)]
            refine ⟨nI (min (qq + g) 99), MX2, _, ?_, ?_, b, mn, kd, bn, hr, h.act (k3.wk (fun a i z => Or.inr z)) ((k4.wk (fun a i z => by first | omega | (unfold SAm; omega))).tr (fm.wk (fun a i z => by first | omega | (unfold SAm; omega)))) hRS (k6 _ fm)⟩
            · rw [addP_c (Or.inl rfl) (by omega) (by omega), p2, nI_addm z2, min99 (by omega), lt_e, (rate_c (by omega) (by omega)).2, uI_ne (by omega), show MX.1 30 (3 * k + o) = nI g from g3, addP_c (Or.inl rfl) (by omega) (by omega), hq' MX 36 p2 q2, nI_add, min99' _ (by omega), lt_e, k1, bo_s, purseOf_c (Or.inl rfl) (by omega) (by omega), k5, uI_eq]
            · have e8 : (0 : Int32) + 3 * nI i + nI k = nI (3 * i + k) := by simp only [nlit, nI_mul, nI_add, Nat.zero_add]
              rw [k2, bo_s, e8, gd_in (by omega) (by omega), nI_clamp (by omega), y3, k4.2 18 _ (by omega), r3, nI_sub z2, lt_e, uI_ne (by omega), k4.2 19 _ (by omega), g4, gd_in (by omega) (by omega), gets_c (by omega) (by omega) y4 (by omega), bo_s, inPurse_c (by omega) (by omega), uI_eq, bo_s]
          · rw [if_neg (nI_ge (by omega) (by omega)), if_neg (nI_ge (by omega) (by omega))]
            exact stay
      · rw [e5, e6, if_neg Bool.false_ne_true, if_neg Bool.false_ne_true, bo_s, if_neg Bool.false_ne_true]
        exact stay
    · rw [e3, e4, if_neg Bool.false_ne_true, if_neg Bool.false_ne_true, bo_s, if_neg Bool.false_ne_true]
      exact stay
  · rw [e1, e2, if_neg Bool.false_ne_true, if_neg Bool.false_ne_true, bo_s, if_neg Bool.false_ne_true]
    exact stay
