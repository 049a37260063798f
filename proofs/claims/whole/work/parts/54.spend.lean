/-! ===== phase 2: hours spent, given, changed ===== -/
/-- n hours spent over plot i: what comes over plot q -/
def dl (hd : Nat → Int32) (i q : Nat) (n : Int32) : Int32 := if q = i then n else if q + 1 = i then lk (hd q) n else if q = i + 1 then lk (hd i) n else 0
theorem addP_c {M : Mem} {o i k : Nat} {x : Int32} (ho : o = 35 ∨ o = 42) (hi : i < 5) (hk : k < 3) : X9_addToPurse o (nI i) (nI k) x M = uI M (o + 1) (3 * i + k) (if 99 < M.1 (o + 1) (3 * i + k) + x then 99 else M.1 (o + 1) (3 * i + k) + x) := by
  have hz : zlen zTX (o + 1) = 42 := by rcases ho with rfl | rfl <;> first | exact zlX_36 | exact zlX_43
  unfold X9_addToPurse
  rw [purseOf_c ho hi hk, lt_e, show nI i * 3 = nI (i * 3) from nI_mul i 3, nI_add, xp_in (by omega), Nat.mul_comm i 3]
theorem min99 {p : Nat} (h : p ≤ 99) : (if (99 : Int32) < nI p then 99 else nI p) = nI p := if_neg (nI_nlt (b := p) (a := 99) h (by omega))
theorem min99' (p : Nat) (h : p < 1000) : (if (99 : Int32) < nI p then 99 else nI p) = nI (min p 99) := by
  by_cases q : 99 < p
  · rw [if_pos (show (99 : Int32) < nI p from nI_lt (a := 99) q (by omega)), Nat.min_eq_right (by omega)]; rfl
  · rw [if_neg (show ¬ (99 : Int32) < nI p from nI_nlt (a := 99) (by omega) (by omega)), Nat.min_eq_left (by omega)]
theorem lesser99 (p : Nat) (h : p < 1000) : X12_lesser 99 (nI p) = nI (min p 99) := by
  unfold X12_lesser
  by_cases q : p ≤ 99
  · rw [if_pos (show nI p ≤ 99 from nI_le (b := 99) q (by omega)), Nat.min_eq_left q]
  · rw [if_neg (show ¬ nI p ≤ 99 from nI_ge (b := p) (a := 99) (by omega) (by omega)), Nat.min_eq_right (by omega)]; rfl
section SPH
variable {o i k b mn : Nat} {n : Int32}
/-- what one turn of the class's loop over the plots does -/
def upq (o i k mn : Nat) (n : Int32) (q : Nat) (M : Mem) : Mem := if q < mn then uI M (o + 1) (15 + (3 * q + k)) (M.1 (o + 1) (15 + (3 * q + k)) + dl (M.1 26) i q n) else M
theorem upq_fr {q : Nat} {M : Mem} (hq : q < 9) : Fr (fun a j => a = o + 1 ∧ 15 ≤ j ∧ j < 15 + 3 * mn) M (upq o i k mn n q M) ∨ ¬ k < 3 := by
  by_cases hk : k < 3
  · left
    unfold upq
    split
    · exact Fr.rf.up _ ⟨rfl, by omega, by omega⟩
    · exact Fr.rf
  · exact Or.inr hk
theorem upq_v {q p j : Nat} {M : Mem} (hk : k < 3) (hj : j < 3) : (upq o i k mn n q M).1 (o + 1) (15 + (3 * p + j)) = M.1 (o + 1) (15 + (3 * p + j)) + (if j = k ∧ p = q ∧ q < mn then dl (M.1 26) i q n else 0) := by
  unfold upq
  by_cases h : q < mn
  · rw [if_pos h, uI_g]
    by_cases h2 : j = k ∧ p = q
    · obtain ⟨rfl, rfl⟩ := h2
      rw [if_pos ⟨rfl, rfl⟩, if_pos ⟨rfl, rfl, h⟩]
    · rw [if_neg (by omega), if_neg (by omega), Int32.add_zero]
  · rw [if_neg h, if_neg (by omega), Int32.add_zero]
theorem sp_st {M : Mem} {q f : Nat} (ho : o = 35 ∨ o = 42) (h0 : M.1 23 0 = nI mn) (hmn : mn ≤ 5) (hi : i < 5) (hk : k < 3) (hq : q ≤ i + 1) (hq2 : i ≤ q + 1) : X9_spendHours_L1 o (nI i) (nI k) n (f + 1) (nI q) M = X9_spendHours_L1 o (nI i) (nI k) n f (nI (q + 1)) (upq o i k mn n q M) := by
  have hz : zlen zTX (o + 1) = 42 := by rcases ho with rfl | rfl <;> first | exact zlX_36 | exact zlX_43
  rw [X9_spendHours_L1, show nI i + 1 = nI (i + 1) from nI_add i 1, if_neg (nI_nlt hq (by omega)), show nI q + 1 = nI (q + 1) from nI_add q 1]
  unfold X3_hasMan upq
  rw [if_neg (nI_pos (by omega)), h0]
  by_cases h : q < mn
  · rw [if_neg (nI_ge h (by omega)), if_pos rfl, if_pos h, overAt_c ho (by omega) hk, lt_e, show nI q * 3 = nI (q * 3) from nI_mul q 3, show (15 : Int32) + nI (q * 3) = nI (15 + q * 3) from nI_add _ _, nI_add, xp_in (by omega), lt_e, l1_s, reach_c hi (by omega), show 15 + q * 3 + k = 15 + (3 * q + k) by omega]
    have e : (if i = q then n else lk (M.1 26 (min i q)) n) = dl (M.1 26) i q n := by
      unfold dl
      by_cases h1 : i = q
      · rw [if_pos h1, if_pos h1.symm]
      · rw [if_neg h1, if_neg (fun z => h1 z.symm)]
        by_cases h2 : q + 1 = i
        · rw [if_pos h2, Nat.min_eq_right (by omega)]
        · rw [if_neg h2, if_pos (by omega), Nat.min_eq_left (by omega)]
    rw [e]
  · rw [if_pos (nI_le (by omega) (by omega)), if_neg (by decide), l1_s, if_neg h]
theorem sp_first {M : Mem} {f : Nat} : X9_spendHours_L1 o (nI 0) (nI k) n (f + 1) (-1) M = X9_spendHours_L1 o (nI 0) (nI k) n f (nI 0) M := by
  have e : X3_hasMan 23 (-1) M = false := if_pos (by decide)
  rw [X9_spendHours_L1, if_neg (by decide), e, if_neg (by decide), l1_s]
  rfl
theorem sp_stop {M : Mem} {q f : Nat} (hi : i < 5) (hq : i + 1 < q) (hq2 : q < 9) : X9_spendHours_L1 o (nI i) (nI k) n (f + 1) (nI q) M = some M := by
  rw [X9_spendHours_L1, show nI i + 1 = nI (i + 1) from nI_add i 1, if_pos (nI_lt hq (by omega))]
theorem spend_L1 {M : Mem} (ho : o = 35 ∨ o = 42) (h0 : M.1 23 0 = nI mn) (hmn : mn ≤ 5) (hi : i < mn) (hk : k < 3) : ∃ M', X9_spendHours_L1 o (nI i) (nI k) n zFU (nI i - 1) M = some M' ∧ Fr (fun a j => a = o + 1 ∧ 15 ≤ j ∧ j < 15 + 3 * mn) M M' ∧
    ∀ p j, j < 3 → M'.1 (o + 1) (15 + (3 * p + j)) = M.1 (o + 1) (15 + (3 * p + j)) + (if j = k ∧ p < mn then dl (M.1 26) i p n else 0) := by
  obtain ⟨f, hf⟩ := zFU_s 4 (by omega)
  have fr : ∀ q (M : Mem), q < 9 → Fr (fun a j => a = o + 1 ∧ 15 ≤ j ∧ j < 15 + 3 * mn) M (upq o i k mn n q M) := fun q M hq => (upq_fr (M := M) hq).resolve_right (fun z => z hk)
  have h26 : ∀ (M M' : Mem), Fr (fun a j => a = o + 1 ∧ 15 ≤ j ∧ j < 15 + 3 * mn) M M' → M'.1 26 = M.1 26 := fun M M' g => funext fun j => g.2 26 j (by omega)
  have h23 : ∀ (M' : Mem), Fr (fun a j => a = o + 1 ∧ 15 ≤ j ∧ j < 15 + 3 * mn) M M' → M'.1 23 0 = nI mn := fun M' g => (g.2 23 0 (by omega)).trans h0
  by_cases hi0 : i = 0
  · subst hi0
    have f1 := fr 0 M (by omega)
    have f2 := f1.tr (fr 1 (upq o 0 k mn n 0 M) (by omega))
    refine ⟨_, ?_, f2, fun p j hj => ?_⟩
    · rw [hf, show f + 4 = f + 3 + 1 from rfl, show nI 0 - 1 = -1 by decide, sp_first, show f + 3 = f + 2 + 1 from rfl, sp_st ho h0 hmn (by omega) hk (by omega) (by omega), show f + 2 = f + 1 + 1 from rfl, sp_st ho (h23 _ f1) hmn (by omega) hk (by omega) (by omega), sp_stop (by omega) (by omega) (by omega)]
    · rw [upq_v hk hj, upq_v hk hj, h26 _ _ f1]
      by_cases q0 : j = k ∧ p < mn
      · rw [if_pos q0]
        by_cases p0 : p = 0
        · rw [if_pos ⟨q0.1, p0, by omega⟩, if_neg (by omega), Int32.add_zero, p0]
        · rw [if_neg (by omega), Int32.add_zero]
          by_cases p1 : p = 1
          · rw [if_pos ⟨q0.1, p1, by omega⟩, p1]
          · rw [if_neg (by omega)]
            unfold dl
            rw [if_neg p0, if_neg (by omega), if_neg (by omega)]
      · rw [if_neg q0, if_neg (by omega), if_neg (by omega), Int32.add_zero]
  · have f1 := fr (i - 1) M (by omega)
    have f2 := f1.tr (fr i (upq o i k mn n (i - 1) M) (by omega))
    have f3 := f2.tr (fr (i + 1) (upq o i k mn n i (upq o i k mn n (i - 1) M)) (by omega))
    refine ⟨_, ?_, f3, fun p j hj => ?_⟩
    · rw [hf, show f + 4 = f + 3 + 1 from rfl, show nI i - 1 = nI (i - 1) from nI_sub (b := 1) (by omega), sp_st ho h0 hmn (by omega) hk (by omega) (by omega), show f + 3 = f + 2 + 1 from rfl, show i - 1 + 1 = i by omega, sp_st ho (h23 _ f1) hmn (by omega) hk (by omega) (by omega), show f + 2 = f + 1 + 1 from rfl, sp_st ho (h23 _ f2) hmn (by omega) hk (by omega) (by omega), sp_stop (by omega) (by omega) (by omega)]
    · rw [upq_v hk hj, upq_v hk hj, upq_v hk hj, h26 _ _ f2, h26 _ _ f1]
      by_cases q0 : j = k ∧ p < mn
      · rw [if_pos q0]
        by_cases p0 : p = i - 1
        · rw [if_pos ⟨q0.1, p0, by omega⟩, if_neg (by omega), if_neg (by omega), Int32.add_zero, Int32.add_zero, p0]
        · rw [if_neg (by omega), Int32.add_zero]
          by_cases p1 : p = i
          · rw [if_pos ⟨q0.1, p1, by omega⟩, if_neg (by omega), Int32.add_zero, p1]
          · rw [if_neg (by omega), Int32.add_zero]
            by_cases p2 : p = i + 1
            · rw [if_pos ⟨q0.1, p2, by omega⟩, p2]
            · rw [if_neg (by omega)]
              unfold dl
              rw [if_neg p1, if_neg (by omega), if_neg p2]
      · rw [if_neg q0, if_neg (by omega), if_neg (by omega), if_neg (by omega), Int32.add_zero, Int32.add_zero]
end SPH
/-- hours spent by the class: state o -/
theorem spendH_c {M : Mem} {o i k mn p nn : Nat} (ho : o = 35 ∨ o = 42) (h0 : M.1 23 0 = nI mn) (hmn : mn ≤ 5) (hi : i < mn) (hk : k < 3) (hp : M.1 (o + 1) (3 * i + k) = nI p) (hp99 : p ≤ 99) (hn : nn ≤ p) :
    ∃ M', X9_spendHours o (nI i) (nI k) (nI nn) M = some M' ∧ Fr (fun a j => a = o + 1 ∧ (j = 3 * i + k ∨ j = 35 + i ∨ (15 ≤ j ∧ j < 15 + 3 * mn))) M M' ∧ M'.1 (o + 1) (3 * i + k) = nI (p - nn) ∧ M'.1 (o + 1) (35 + i) = M.1 (o + 1) (35 + i) + nI nn ∧
      ∀ q j, q < 5 → j < 3 → M'.1 (o + 1) (15 + (3 * q + j)) = M.1 (o + 1) (15 + (3 * q + j)) + (if j = k ∧ q < mn then dl (M.1 26) i q (nI nn) else 0) := by
  have hz : zlen zTX (o + 1) = 42 := by rcases ho with rfl | rfl <;> first | exact zlX_36 | exact zlX_43
  have f2 : Fr (fun a j => a = o + 1 ∧ (j = 3 * i + k ∨ j = 35 + i ∨ (15 ≤ j ∧ j < 15 + 3 * mn))) M (uI (uI M (o + 1) (3 * i + k) (nI (p - nn))) (o + 1) (35 + i) (M.1 (o + 1) (35 + i) + nI nn)) := (Fr.rf.up _ ⟨rfl, Or.inl rfl⟩).up _ ⟨rfl, Or.inr (Or.inl rfl)⟩
  obtain ⟨M', e, f, v⟩ := spend_L1 (M := uI (uI M (o + 1) (3 * i + k) (nI (p - nn))) (o + 1) (35 + i) (M.1 (o + 1) (35 + i) + nI nn)) (n := nI nn) (k := k) ho ((f2.2 23 0 (by omega)).trans h0) hmn hi hk
  refine ⟨M', ?_, f2.tr (f.wk (fun a j h => ⟨h.1, Or.inr (Or.inr h.2)⟩)), ?_, ?_, fun q j hq hj => ?_⟩
  · unfold X9_spendHours
    rw [addP_c ho (by omega) hk, hp, nI_addm hn, min99 (by omega), lt_e, spentBy_c ho (by omega), show (35 : Int32) + nI i = nI (35 + i) from nI_add 35 i, xp_in (by omega), uI_ne (by omega), lt_e, e, b1_s]
  · rw [f.2 _ _ (by omega), uI_ne (by omega), uI_eq]
  · rw [f.2 _ _ (by omega), uI_eq]
  · rw [v q j hj]
    have e26 : (uI (uI M (o + 1) (3 * i + k) (nI (p - nn))) (o + 1) (35 + i) (M.1 (o + 1) (35 + i) + nI nn)).1 26 = M.1 26 := funext fun j => f2.2 26 j (by omega)
    rw [e26, uI_ne (by omega), uI_ne (by omega)]
theorem RS.spend {c g c' g' : Nat → Int32} {mn kd hr W i k p sp nn : Nat} (h : RS c g mn kd hr W) (hmn : mn ≤ 5) (hkd : kd ≤ 3) (hi : i < mn) (hk : k < kd) (hp : p ≤ 99) (hs : sp + nn ≤ hr) (δ : Nat → Int32)
    (p1 : c' (3 * i + k) = nI (p - nn)) (p2 : g' (3 * i + k) = nI (p - nn)) (s1 : c' (35 + i) = nI (sp + nn)) (s2 : g' (35 + i) = nI (sp + nn))
    (o1 : ∀ q j, q < 5 → j < 3 → c' (15 + (3 * q + j)) = c (15 + (3 * q + j)) + (if j = k ∧ q < mn then δ q else 0)) (o2 : ∀ q j, q < 5 → j < 3 → g' (20 + (3 * q + j)) = g (20 + (3 * q + j)) + (if j = k ∧ q < mn then δ q else 0))
    (r1 : ∀ j, j < 42 → j ≠ 3 * i + k → j ≠ 35 + i → ¬ (15 ≤ j ∧ j < 30) → c' j = c j) (r2 : ∀ j, j < 42 → j ≠ 3 * i + k → j ≠ 35 + i → ¬ (20 ≤ j ∧ j < 35) → g' j = g j) : RS c' g' mn kd hr W := by
  obtain ⟨h1, h2, h3, h4, h5, h6⟩ := h
  refine ⟨fun q j hq hj => ?_, fun q j hq hj => ?_, fun q hq => ?_, fun q hq => ?_, ?_, ?_⟩
  · by_cases z : 3 * q + j = 3 * i + k
    · rw [z, p1, p2]
      exact ⟨p - nn, by omega, rfl, rfl, fun y => by omega⟩
    · rw [r1 _ (by omega) z (by omega) (by omega), r2 _ (by omega) z (by omega) (by omega)]
      exact h1 q j hq hj
  · rw [o1 q j hq hj, o2 q j hq hj, (h2 q j hq hj).1]
    refine ⟨rfl, fun y => ?_⟩
    rw [(h2 q j hq hj).2 y, if_neg (by omega)]
    rfl
  · rw [r1 _ (by omega) (by omega) (by omega) (by omega), r2 _ (by omega) (by omega) (by omega) (by omega)]
    exact h3 q hq
  · by_cases z : q = i
    · rw [z, s1, s2]
      exact ⟨_, hs, rfl, rfl⟩
    · rw [r1 _ (by omega) (by omega) (by omega) (by omega), r2 _ (by omega) (by omega) (by omega) (by omega)]
      exact h4 q hq
  · rw [r1 _ (by omega) (by omega) (by omega) (by omega), r2 _ (by omega) (by omega) (by omega) (by omega)]
    exact h5
  · rw [r1 _ (by omega) (by omega) (by omega) (by omega), r2 _ (by omega) (by omega) (by omega) (by omega)]
    exact h6
theorem dl_x {hd hd' : Nat → Int32} {mn i q : Nat} {n : Int32} (h : ∀ q, q < mn → hd q = hd' q) (hi : i < mn) (hq : q < mn) : dl hd i q n = dl hd' i q n := by
  unfold dl
  rw [h q hq, h i hi]
/-- hours laid by the reference -/
theorem layd_c {MM : Mem} {b mn i k : Nat} {n : Int32} (hb : MM.1 0 41 = nI b) (b1 : b ≤ 1) (h4 : MM.1 4 b = nI mn) (hmn : mn ≤ 5) (hi : i < mn) (hk : k < 3) : ∃ MM', X12_lay (nI i) (nI k) n 1 MM = some MM' ∧ Fr (SO mn) MM MM' ∧
    ∀ q j, q < 5 → j < 3 → MM'.1 33 (20 + (3 * q + j)) = MM.1 33 (20 + (3 * q + j)) + (if j = k ∧ q < mn then dl (fun q => MM.1 13 (5 * b + q)) i q n else 0) := by
  obtain ⟨MM', e, f, v⟩ := lay_v (n := n) (way := 1) hb b1 h4 hmn hi hk
  refine ⟨MM', e, f, fun q j hq hj => ?_⟩
  by_cases hqm : q < mn
  · rw [← Nat.add_assoc, v q j hqm hj]
    simp only [Int32.one_mul]
    by_cases hjk : j = k
    · rw [if_pos hjk, if_pos (show j = k ∧ q < mn from ⟨hjk, hqm⟩)]
      rfl
    · rw [if_neg hjk, if_neg (by omega)]
  · rw [if_neg (by omega), Int32.add_zero, f.2 33 _ (by unfold SO; omega)]
theorem isIn_1 {x : Int32} (h : ¬ x < 1) : ∃ n : Nat, 1 ≤ n ∧ n < 2 ^ 31 ∧ x = nI n := by
  have h0 : ¬ x < 0 := fun z => h (Int32.lt_trans z (by decide))
  obtain ⟨j, hj, rfl⟩ := nI_of h0
  refine ⟨j, ?_, hj, rfl⟩
  rw [show (1 : Int32) = nI 1 from rfl, nI_ltI hj (by omega)] at h
  omega
theorem isIn_1n {n m : Nat} (h1 : 1 ≤ n) (hn : n < 2 ^ 31) (hm : m < 2 ^ 31) : X12_isIn (nI n) 1 (nI m) = decide (n ≤ m) := by
  unfold X12_isIn
  rw [if_neg (show ¬ nI n < 1 from nI_nlt (b := 1) h1 (by omega))]
  by_cases q : n ≤ m
  · rw [if_neg (nI_nlt q (by omega))]; simp [q]
  · rw [if_pos (nI_lt (by omega) (by omega))]; simp [q]
theorem p2_spend (a1 a2 a3 : Int32) : zStep RR (fun M => (dO dIM) (X11_spend a1 a2 a3 M)) (fun M => (dO dIM) (X12_spend a1 a2 a3 M)) := zs_MM fun MX MM hR => by
  obtain ⟨b, mn, kd, bn, hr, h⟩ := hR
  have stay : ∃ v MX' MM', (some ((-1 : Int32), MX) : Option (Int32 × Mem)) = some (v, MX') ∧ (some ((-1 : Int32), MM) : Option (Int32 × Mem)) = some (v, MM') ∧ RR MX' MM' := ⟨_, _, _, rfl, rfl, b, mn, kd, bn, hr, h⟩
  obtain ⟨c1, ha1, ha2, a3', a4, a5, c2, b1, b2, b3, b4, b5, b6, b7, b8, b9⟩ := h.k
  unfold X11_spend X12_spend X3_hasPair
  rcases man_c h a1 with ⟨i, hi, rfl, e1, e2⟩ | ⟨e1, e2⟩
  · rw [e1, e2, if_pos rfl, bo_s, if_pos rfl]
    rcases kind_c h a2 with ⟨k, hk, rfl, e3, e4⟩ | ⟨e3, e4⟩
    · rw [e3, e4, if_pos rfl, if_pos rfl, bo_s, if_pos rfl]
      by_cases q1 : a3 < 1
      · rw [if_pos q1, isIn_neg q1, if_neg (by decide)]
        exact stay
      · obtain ⟨nn, n1, n2, rfl⟩ := isIn_1 q1
        rw [if_neg q1, show X12_isIn (nI nn) 1 8 = decide (nn ≤ 8) from isIn_1n (m := 8) n1 n2 (by omega)]
        by_cases q2 : nn ≤ 8
        · obtain ⟨p, p1, p2, p3, _⟩ := h.2.1.1 i k (by omega) (by omega)
          obtain ⟨sp, s1, s2, s3⟩ := h.2.1.2.2.2.1 i (by omega)
          rw [if_pos (show nI nn ≤ 8 from nI_le (b := 8) q2 (by omega)), decide_eq_true q2, if_pos rfl, purseOf_c (Or.inl rfl) (by omega) (by omega), p2, inPurse_c (by omega) (by omega), p3, bo_s]
          by_cases q3 : p < nn
          · rw [if_pos (nI_lt q3 (by omega)), if_pos (nI_lt q3 (by omega))]
            exact stay
          · unfold X9_leftOf
            rw [if_neg (nI_nlt (by omega) (by omega)), if_neg (nI_nlt (by omega) (by omega)), b8, spentBy_c (Or.inl rfl) (by omega), s2, leftOf_c c2 c1 b9 (by omega), s3, bo_s, nI_sub s1]
            by_cases q4 : nn ≤ hr - sp
            · rw [if_pos (nI_le q4 (by omega)), if_pos (nI_le q4 (by omega))]
              obtain ⟨MX1, x1, x2, x3, x4, x5⟩ := spendH_c (M := MX) (o := 35) (nn := nn) (Or.inl rfl) b1 ha1 hi (show k < 3 by omega) p2 p1 (by omega)
              obtain ⟨MX2, MM1, k1, k2, k3, k4, k5, k6⟩ := keep_c (MX1 := MX1) h (x2.wk (fun a j z => ⟨z.1, by omega⟩))
              have y3 : MM1.1 33 (3 * i + k) = nI p := (k4.2 33 _ (by omega)).trans p3
              have y4 : MM1.1 33 (35 + i) = nI sp := (k4.2 33 _ (by omega)).trans s3
              have fM3 : Fr (fun a i => a = 33 ∧ i < 42) MM1 (uI (uI MM1 33 (3 * i + k) (nI (p - nn))) 33 (35 + i) (nI (sp + nn))) := (Fr.rf.up _ ⟨rfl, by omega⟩).up _ ⟨rfl, by omega⟩
              obtain ⟨M15, l1, l2, l3⟩ := layd_c (MM := uI (uI MM1 33 (3 * i + k) (nI (p - nn))) 33 (35 + i) (nI (sp + nn))) (n := nI nn) ((k4.2 0 41 (by omega)).trans c2) c1 ((k4.2 4 b (by omega)).trans b2) ha1 hi (show k < 3 by omega)
              have fM15 : Fr (fun a i => a = 33 ∧ i < 42) MM1 M15 := fM3.tr (l2.wk (fun a j z => by unfold SO at z; omega))
              have hd : ∀ q, q < mn → MX.1 26 q = (uI (uI MM1 33 (3 * i + k) (nI (p - nn))) 33 (35 + i) (nI (sp + nn))).1 13 (5 * b + q) := fun q hq => (h.1.2.2.2.2.2.1 q hq).trans (k4.2 13 _ (by omega)).symm
              have hRS : RS (MX2.1 36) (M15.1 33) mn kd hr 999 := by
                refine h.2.1.spend (nn := nn) (sp := sp) (δ := fun q => dl (MX.1 26) i q (nI nn)) ha1 ha2 hi hk p1 (by omega) ?_ ?_ ?_ ?_ ?_ ?_ ?_ ?_
                · rw [k5]; exact x3
                · rw [l2.2 33 _ (by unfold SO; omega), uI_ne (by omega), uI_eq]
                · rw [k5, x4, s2, nI_add]
                · rw [l2.2 33 _ (by unfold SO; omega), uI_eq]
                · intro q j hq hj
                  rw [k5]
                  exact x5 q j hq hj
                · intro q j hq hj
                  rw [l3 q j hq hj, uI_ne (by omega), uI_ne (by omega), k4.2 33 _ (by omega)]
                  by_cases z : j = k ∧ q < mn
                  · rw [if_pos z, if_pos z, dl_x hd hi z.2]
                  · rw [if_neg z, if_neg z]
                · intro j hj z1 z2 z3
                  rw [k5, x2.2 36 j (by omega)]
                · intro j hj z1 z2 z3
                  rw [l2.2 33 j (by unfold SO; omega), uI_ne (by omega), uI_ne (by omega), k4.2 33 j (by omega)]
              refine ⟨M15.1 33 (20 + (3 * i + k)), MX2, M15, ?_, ?_, b, mn, kd, bn, hr, h.act (k3.wk (fun a i z => Or.inr z)) ((k4.wk (fun a i z => by unfold SAm; omega)).tr (fM15.wk (fun a i z => by unfold SAm; omega))) hRS (k6 _ fM15)⟩
              · rw [x1, bo_s, k1, bo_s, overAt_c (Or.inl rfl) (by omega) (by omega), (hRS.2.1 i k (by omega) (by omega)).1]
              · have e5 : (0 : Int32) + 3 * nI i + nI k = nI (3 * i + k) := by simp only [nlit, nI_mul, nI_add, Nat.zero_add]
                rw [k2, bo_s, e5, gd_in (by omega) (by omega), nI_clamp (by omega), y3, nI_sub (by omega), lt_e, show (35 : Int32) + nI i = nI (35 + i) from nI_add 35 i, gd_in (by omega) (by omega), nI_clamp (by omega), uI_ne (by omega), y4, nI_add, lt_e, l1, bo_s, overOf_c (b := b) (kd := kd) ((fM15.2 0 41 (by omega)).trans ((k4.2 0 41 (by omega)).trans c2)) c1 ((fM15.2 3 b (by omega)).trans ((k4.2 3 b (by omega)).trans b4)) ha2 (by omega) (by omega), bo_s, if_pos hk, Nat.add_assoc]
            · rw [if_neg (nI_ge (by omega) (by omega)), if_neg (nI_ge (by omega) (by omega))]
              exact stay
        · rw [if_neg (show ¬ nI nn ≤ 8 from nI_ge (b := nn) (a := 8) (by omega) n2), decide_eq_false q2, if_neg (by decide)]
          exact stay
    · rw [e3, e4, if_neg Bool.false_ne_true, if_neg Bool.false_ne_true, bo_s, if_neg Bool.false_ne_true]
      exact stay
  · rw [e1, e2, if_neg Bool.false_ne_true, if_neg Bool.false_ne_true, bo_s, if_neg Bool.false_ne_true]
    exact stay
