/-! ===== phase 2: weeks ===== -/
/-- as RS, but what the men of the mill have spent is free -/
def RSw (c g : Nat → Int32) (mn kd hr W : Nat) : Prop :=
  (∀ i k, i < 5 → k < 3 → ∃ n, n ≤ 99 ∧ c (3 * i + k) = nI n ∧ g (3 * i + k) = nI n ∧ (mn ≤ i ∨ kd ≤ k → n = 0)) ∧
  (∀ i k, i < 5 → k < 3 → c (15 + (3 * i + k)) = g (20 + (3 * i + k)) ∧ (mn ≤ i ∨ kd ≤ k → g (20 + (3 * i + k)) = 0)) ∧
  (∀ i, i < 5 → c (30 + i) = g (15 + i)) ∧
  (∀ i, mn ≤ i → i < 5 → ∃ n, n ≤ hr ∧ c (35 + i) = nI n ∧ g (35 + i) = nI n) ∧
  (∃ n, n ≤ W ∧ c 40 = nI n ∧ g 40 = nI n) ∧
  (∃ n, n ≤ 999 ∧ c 41 = nI n ∧ g 41 = nI n)
theorem RS.w {c g : Nat → Int32} {mn kd hr W : Nat} (h : RS c g mn kd hr W) : RSw c g mn kd hr W := ⟨h.1, h.2.1, h.2.2.1, fun i _ hi => h.2.2.2.1 i hi, h.2.2.2.2.1, h.2.2.2.2.2⟩
theorem has_fin : ∀ (m : Fin 32) (i : Fin 5), X12_has (nI m.1) (nI i.1) = decide (m.1 / 2 ^ i.1 % 2 = 1) := by decide +kernel
theorem has_c {m i : Nat} (hm : m < 32) (hi : i < 5) : X12_has (nI m) (nI i) = decide (m / 2 ^ i % 2 = 1) := has_fin ⟨m, hm⟩ ⟨i, hi⟩
/-- as RS.spend, for a loose man -/
theorem RSw.spend {c g c' g' : Nat → Int32} {mn kd hr W i k p s : Nat} (h : RSw c g mn kd hr W) (hmn : mn ≤ 5) (hkd : kd ≤ 3) (hi : i < mn) (hk : k < kd) (hp : p ≤ 99) (hs : s ≤ 999) (δ : Nat → Int32)
    (p1 : c' (3 * i + k) = nI p) (p2 : g' (3 * i + k) = nI p) (s1 : c' 41 = nI s) (s2 : g' 41 = nI s)
    (o1 : ∀ q j, q < 5 → j < 3 → c' (15 + (3 * q + j)) = c (15 + (3 * q + j)) + (if j = k ∧ q < mn then δ q else 0)) (o2 : ∀ q j, q < 5 → j < 3 → g' (20 + (3 * q + j)) = g (20 + (3 * q + j)) + (if j = k ∧ q < mn then δ q else 0))
    (r1 : ∀ j, j < 41 → j ≠ 3 * i + k → j ≠ 35 + i → ¬ (15 ≤ j ∧ j < 30) → c' j = c j) (r2 : ∀ j, j < 41 → j ≠ 3 * i + k → ¬ (20 ≤ j ∧ j < 35) → g' j = g j) : RSw c' g' mn kd hr W := by
  obtain ⟨h1, h2, h3, h4, h5, h6⟩ := h
  refine ⟨fun q j hq hj => ?_, fun q j hq hj => ?_, fun q hq => ?_, fun q hq0 hq => ?_, ?_, ⟨s, hs, s1, s2⟩⟩
  · by_cases z : 3 * q + j = 3 * i + k
    · rw [z, p1, p2]
      exact ⟨p, by omega, rfl, rfl, fun y => by omega⟩
    · rw [r1 _ (by omega) z (by omega) (by omega), r2 _ (by omega) z (by omega)]
      exact h1 q j hq hj
  · rw [o1 q j hq hj, o2 q j hq hj, (h2 q j hq hj).1]
    refine ⟨rfl, fun y => ?_⟩
    rw [(h2 q j hq hj).2 y, if_neg (by omega)]
    rfl
  · rw [r1 _ (by omega) (by omega) (by omega) (by omega), r2 _ (by omega) (by omega) (by omega)]
    exact h3 q hq
  · rw [r1 _ (by omega) (by omega) (by omega) (by omega), r2 _ (by omega) (by omega) (by omega)]
    exact h4 q hq0 hq
  · rw [r1 _ (by omega) (by omega) (by omega) (by omega), r2 _ (by omega) (by omega) (by omega)]
    exact h5
theorem RSw.seed {c g c' g' : Nat → Int32} {mn kd hr W s : Nat} (h : RSw c g mn kd hr W) (hmn : mn ≤ 5) (hs : s ≤ 999) (s1 : c' 41 = nI s) (s2 : g' 41 = nI s) (r1 : ∀ j, j < 41 → c' j = c j) (r2 : ∀ j, j < 41 → g' j = g j) : RSw c' g' mn kd hr W := by
  obtain ⟨h1, h2, h3, h4, h5, h6⟩ := h
  refine ⟨fun q j hq hj => ?_, fun q j hq hj => ?_, fun q hq => ?_, fun q hq0 hq => ?_, ?_, ⟨s, hs, s1, s2⟩⟩
  · rw [r1 _ (by omega), r2 _ (by omega)]; exact h1 q j hq hj
  · rw [r1 _ (by omega), r2 _ (by omega)]; exact h2 q j hq hj
  · rw [r1 _ (by omega), r2 _ (by omega)]; exact h3 q hq
  · rw [r1 _ (by omega), r2 _ (by omega)]; exact h4 q hq0 hq
  · rw [r1 _ (by omega), r2 _ (by omega)]; exact h5
/-- cells of the state -/
def SSx (o a i : Nat) : Prop := a = o + 1 ∧ i < 42
def SSm (a i : Nat) : Prop := a = 33 ∧ i < 42
noncomputable def xLoose (o : Nat) (c1 : Int32) (M : Mem) : Option Mem :=
      if (X3_isLoose 23 c1 M) = true then
        lt_ (α := Int32) ((((X9_seedNow o M) * 137) + 71) % 1000) fun y3 =>
        lt_ (X11_put (o + 1) 41 y3 M) fun M4 =>
        b1_ (α := Int32) (
          if (M4.1 23 1) ≤ 0 then
            some (-1)
          else
          gd_ (¬ (M4.1 23 1) = 0) (
          some (y3 % (M4.1 23 1)))) fun y7 =>
        if y7 = (-1) then
          some M4
        else
        if (X9_purseOf o c1 y7 M4) ≤ 0 then
          some M4
        else
        bo_ (X9_spendHours o c1 y7 1 M4) fun M10 =>
        some M10
      else
      some M
theorem xLoose_st {o n : Nat} {c1 : Int32} {M : Mem} : X9_spendLoose_L1 o (n + 1) c1 M = if (M.1 23 0) ≤ c1 then some M else b1_ (α := Mem) (xLoose o c1 M) fun M11 => X9_spendLoose_L1 o n (c1 + 1) M11 := by
  rw [X9_spendLoose_L1]
  rfl
theorem loose_1 {MX MM : Mem} {o b mn kd bn hr W i : Nat} (ho : o = 35 ∨ o = 42) (hM : RM MX.1 23 MM.1 b mn kd bn hr) (hb : MM.1 0 41 = nI b) (b1 : b ≤ 1) (hS : RSw (MX.1 (o + 1)) (MM.1 33) mn kd hr W) (hi : i < mn) :
    ∃ MX' MM', xLoose o (nI i) MX = some MX' ∧ (if (X12_has (MM.1 10 b) (nI i)) = true then bo_ (X12_loosen (nI i) MM) fun M5 => some M5 else some MM) = some MM' ∧ Fr (SSx o) MX MX' ∧ Fr SSm MM MM' ∧ RSw (MX'.1 (o + 1)) (MM'.1 33) mn kd hr W := by
  have hz : zlen zTX (o + 1) = 42 := by rcases ho with rfl | rfl <;> first | exact zlX_36 | exact zlX_43
  have hmn := hM.1.1
  have hkd := hM.1.2.1
  obtain ⟨mask, m1, m2, m3⟩ := hM.2.2.2.2.1
  obtain ⟨s, hs, s1, s2⟩ := hS.2.2.2.2.2
  unfold xLoose X3_isLoose
  rw [show X11_cell (23 + 2) (nI i) MX = nI (mask / 2 ^ i % 2) by rw [xc_in (by rw [show 23 + 2 = 25 from rfl, zlX_25]; omega)]; exact m3 i hi, m2, has_c m1 (by omega)]
  have h2 : mask / 2 ^ i % 2 < 2 := Nat.mod_lt _ (by omega)
  by_cases hl : mask / 2 ^ i % 2 = 1
  · rw [hl, if_neg (show ¬ nI 1 = 0 by decide), if_pos rfl, decide_eq_true rfl, if_pos rfl]
    have es : (X9_seedNow o MX * 137 + 71) % 1000 = nI ((s * 137 + 71) % 1000) := by
      rw [seedNow_c ho, s1, show nI s * 137 = nI (s * 137) from nI_mul s 137, show nI (s * 137) + 71 = nI (s * 137 + 71) from nI_add _ 71, show nI (s * 137 + 71) % 1000 = nI ((s * 137 + 71) % 1000) from nI_mod (b := 1000) (by omega) (by omega)]
    have em : (137 * MM.1 33 41 + 71) % 1000 = nI ((s * 137 + 71) % 1000) := by
      rw [s2, show 137 * nI s = nI (137 * s) from nI_mul 137 s, Nat.mul_comm 137 s, show nI (s * 137) + 71 = nI (s * 137 + 71) from nI_add _ 71, show nI (s * 137 + 71) % 1000 = nI ((s * 137 + 71) % 1000) from nI_mod (b := 1000) (by omega) (by omega)]
    have hs' : (s * 137 + 71) % 1000 ≤ 999 := by omega
    unfold X12_loosen
    rw [es, em]
    generalize (s * 137 + 71) % 1000 = s' at hs'
    have f1 : Fr (SSx o) MX (uI MX (o + 1) 41 (nI s')) := Fr.rf.up _ ⟨rfl, by omega⟩
    have f2 : Fr SSm MM (uI MM 33 41 (nI s')) := Fr.rf.up _ ⟨rfl, by omega⟩
    have k1 : (uI MX (o + 1) 41 (nI s')).1 23 1 = nI kd := (uI_ne (by omega)).trans hM.2.1.2.2.1
    have k2 : (uI MM 33 41 (nI s')).1 3 b = nI kd := (uI_ne (by omega)).trans hM.2.1.2.2.2.1
    have k3 : (uI MM 33 41 (nI s')).1 0 41 = nI b := hb
    have hS0 : RSw ((uI MX (o + 1) 41 (nI s')).1 (o + 1)) ((uI MM 33 41 (nI s')).1 33) mn kd hr W := hS.seed hmn hs' (uI_eq _ _ _ _) (uI_eq _ _ _ _) (fun j hj => uI_ne (by omega)) (fun j hj => uI_ne (by omega))
    rw [lt_e (nI s'), lt_e (uI MM 33 41 (nI s')), show X11_put (o + 1) 41 (nI s') MX = uI MX (o + 1) 41 (nI s') from xp_in (i := 41) (by omega), lt_e, k1, k3, gd_in (by omega) (by omega), nI_clamp (by omega), k2]
    by_cases hk0 : kd = 0
    · rw [hk0, if_pos (show nI 0 ≤ 0 by decide), b1_s, if_pos rfl, if_pos (show nI 0 = 0 from rfl), bo_s]
      exact ⟨_, _, rfl, rfl, f1, f2, hk0 ▸ hS0⟩
    · have hkk : s' % kd < kd := Nat.mod_lt _ (by omega)
      obtain ⟨p, p1, p2, p3, _⟩ := hS0.1 i (s' % kd) (by omega) (by omega)
      have e33 : (uI MM 33 41 (nI s')).1 33 41 = nI s' := uI_eq _ _ _ _
      rw [if_neg (nI_nle (by omega) (by omega)), gd_p (nI_ne0 (by omega) (by omega)), nI_mod (by omega) (by omega), b1_s, if_neg (nI_nm1 (by omega)), if_neg (nI_ne0 (by omega) (by omega)), e33, nI_mod (by omega) (by omega), lt_e (nI (s' % kd)), purseOf_c ho (by omega) (by omega), p2, inPurse_c (by omega) (by omega), p3, bo_s]
      by_cases hp : p = 0
      · rw [hp, if_pos (show nI 0 ≤ 0 by decide), if_pos (show nI 0 = 0 from rfl), bo_s]
        exact ⟨_, _, rfl, rfl, f1, f2, hS0⟩
      · obtain ⟨MX1, x1, x2, x3, x4, x5⟩ := spendH_c (M := uI MX (o + 1) 41 (nI s')) (o := o) (nn := 1) (i := i) (k := s' % kd) ho ((uI_ne (by omega)).trans hM.2.1.1) hmn hi (by omega) p2 p1 (by omega)
        have e5 : (0 : Int32) + 3 * nI i + nI (s' % kd) = nI (3 * i + s' % kd) := by simp only [nlit, nI_mul, nI_add, Nat.zero_add]
        obtain ⟨M9, l1, l2, l3⟩ := layd_c (MM := uI (uI MM 33 41 (nI s')) 33 (3 * i + s' % kd) (nI (p - 1))) (n := 1) (b := b) (mn := mn) (i := i) (k := s' % kd) hb b1 hM.2.1.2.1 hmn hi (by omega)
        refine ⟨MX1, M9, ?_, ?_, f1.tr (x2.wk (fun a j z => ⟨z.1, by omega⟩)), (f2.up _ ⟨rfl, by omega⟩).tr (l2.wk (fun a j z => by unfold SO at z; unfold SSm; omega)), ?_⟩
        · rw [if_neg (nI_nle (by omega) (by omega)), show X9_spendHours o (nI i) (nI (s' % kd)) 1 (uI MX (o + 1) 41 (nI s')) = _ from x1, bo_s]
        · rw [if_neg (nI_ne0 (by omega) (by omega)), e5, gd_in (by omega) (by omega), nI_clamp (by omega), p3, show nI p - 1 = nI (p - 1) from nI_sub (b := 1) (by omega), lt_e, l1, bo_s, bo_s]
        · have hd : ∀ q, q < mn → (uI MX (o + 1) 41 (nI s')).1 26 q = (uI (uI MM 33 41 (nI s')) 33 (3 * i + s' % kd) (nI (p - 1))).1 13 (5 * b + q) := fun q hq => by
            rw [uI_ne (by omega)]
            exact hM.2.2.2.2.2.1 q hq
          refine hS0.spend (k := s' % kd) (p := p - 1) (δ := fun q => dl ((uI MX (o + 1) 41 (nI s')).1 26) i q (nI 1)) hmn hkd hi hkk (by omega) hs' x3 ?_ ?_ ?_ (fun q j hq hj => x5 q j hq hj) ?_ ?_ ?_
          · rw [l2.2 33 _ (by unfold SO; omega), uI_eq]
          · rw [x2.2 _ _ (by omega), uI_eq]
          · rw [l2.2 33 _ (by unfold SO; omega), uI_ne (by omega), uI_eq]
          · intro q j hq hj
            rw [l3 q j hq hj, uI_ne (k := 33) (i := 3 * i + s' % kd) (by omega)]
            by_cases z : j = s' % kd ∧ q < mn
            · rw [if_pos z, if_pos z, dl_x hd hi z.2]
              rfl
            · rw [if_neg z, if_neg z]
          · intro j hj z1 z2 z3
            rw [x2.2 (o + 1) j (by omega)]
          · intro j hj z1 z2
            rw [l2.2 33 j (by unfold SO; omega), uI_ne (k := 33) (i := 3 * i + s' % kd) (by omega)]
  · rw [show mask / 2 ^ i % 2 = 0 by omega, if_pos (show nI 0 = 0 from rfl), if_neg Bool.false_ne_true, decide_eq_false (by decide), if_neg Bool.false_ne_true]
    exact ⟨_, _, rfl, rfl, Fr.rf, Fr.rf, hS⟩
theorem loose_c {MX MM : Mem} {o b mn kd bn hr W : Nat} (ho : o = 35 ∨ o = 42) (hM : RM MX.1 23 MM.1 b mn kd bn hr) (hb : MM.1 0 41 = nI b) (b1 : b ≤ 1) (hS : RSw (MX.1 (o + 1)) (MM.1 33) mn kd hr W) :
    ∃ MX' MM', X9_spendLoose o MX = some MX' ∧ X12_goWeek_L1 zFU 0 MM = some MM' ∧ Fr (SSx o) MX MX' ∧ Fr SSm MM MM' ∧ RSw (MX'.1 (o + 1)) (MM'.1 33) mn kd hr W := by
  have hmn := hM.1.1
  have key := two_zFU (σ := Int32 × Mem) (σ' := Int32 × Mem) (fun n s => X9_spendLoose_L1 o n s.1 s.2) (fun n s => X12_goWeek_L1 n s.1 s.2)
    (fun d s s' => ∃ i M1 M2, i + d = mn ∧ s = (nI i, M1) ∧ s' = (nI i, M2) ∧ Fr (SSx o) MX M1 ∧ Fr SSm MM M2 ∧ RSw (M1.1 (o + 1)) (M2.1 33) mn kd hr W)
    (fun t t' => Fr (SSx o) MX t ∧ Fr SSm MM t' ∧ RSw (t.1 (o + 1)) (t'.1 33) mn kd hr W) ?_ mn (0, MX) (0, MM) (by omega) ⟨0, MX, MM, by omega, rfl, rfl, Fr.rf, Fr.rf, hS⟩
  · obtain ⟨t, t', e1, e2, q⟩ := key
    exact ⟨t, t', by unfold X9_spendLoose; exact (congrArg (fun x => b1_ x fun M => some M) e1), e2, q⟩
  · rintro n n' d s s' ⟨i, M1, M2, hd, rfl, rfl, f1, f2, hS1⟩
    have hM1 := hM.fg f1 f2 (fun a i h1 h2 => by unfold SSx; omega) (fun a i h1 h2 => by unfold SSm; omega)
    have hb2 : M2.1 0 41 = nI b := (f2.2 0 41 (by unfold SSm; omega)).trans hb
    by_cases hi : i = mn
    · left
      refine ⟨M1, M2, ?_, ?_, f1, f2, hS1⟩
      · show X9_spendLoose_L1 o (n + 1) (nI i) M1 = _
        rw [X9_spendLoose_L1, hM1.2.1.1, if_pos (nI_le (by omega) (by omega))]
      · show X12_goWeek_L1 (n' + 1) (nI i) M2 = _
        rw [X12_goWeek_L1, many_c hb2 b1 hM1.2.1.2.1, bo_s, if_pos (nI_le (by omega) (by omega))]
    · right
      obtain ⟨N1, N2, e1, e2, g1, g2, g3⟩ := loose_1 (i := i) ho hM1 hb2 b1 hS1 (by omega)
      refine ⟨d - 1, (nI (i + 1), N1), (nI (i + 1), N2), by omega, ⟨i + 1, N1, N2, by omega, rfl, rfl, f1.tr g1, f2.tr g2, g3⟩, ?_, ?_⟩
      · show X9_spendLoose_L1 o (n + 1) (nI i) M1 = X9_spendLoose_L1 o n (nI (i + 1)) N1
        rw [xLoose_st, hM1.2.1.1, if_neg (nI_ge (by omega) (by omega)), e1, b1_s, show nI i + 1 = nI (i + 1) from nI_add i 1]
      · show X12_goWeek_L1 (n' + 1) (nI i) M2 = X12_goWeek_L1 n' (nI (i + 1)) N2
        rw [X12_goWeek_L1, many_c hb2 b1 hM1.2.1.2.1, bo_s, if_neg (nI_ge (by omega) (by omega)), hb2, gd_in (by omega) (by omega), nI_clamp (by omega), e2, b1_s, show nI i + 1 = nI (i + 1) from nI_add i 1]
