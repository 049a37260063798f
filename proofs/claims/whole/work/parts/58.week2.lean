/-! ===== phase 2: a week's growth, wages ===== -/
/-- a crop behind a growth v -/
noncomputable def crp (c v : Int32) : Int32 := if 0 ≤ c + v then X12_lesser 99 (c + v) else 0
theorem crp_x (c v : Int32) : (if 0 < (if (c + v) < 99 then (c + v) else 99) then (if (c + v) < 99 then (c + v) else 99) else 0) = crp c v := by
  unfold crp X12_lesser
  generalize c + v = x
  have h0 : (0 : Int32).toInt = 0 := by decide
  have h99 : (99 : Int32).toInt = 99 := by decide
  simp only [Int32.lt_iff_toInt_lt, Int32.le_iff_toInt_le, h0, h99]
  by_cases h1 : x.toInt < 99
  · rw [if_pos h1, if_pos (show x.toInt ≤ 99 by omega)]
    by_cases h2 : 0 < x.toInt
    · rw [if_pos h2, if_pos (show 0 ≤ x.toInt by omega)]
    · rw [if_neg h2]
      by_cases h3 : 0 ≤ x.toInt
      · rw [if_pos h3]
        apply Int32.toInt_inj.mp
        rw [h0]; omega
      · rw [if_neg h3]
  · rw [if_neg h1, h99, if_pos (show (0 : Int) < 99 by decide), if_pos (show 0 ≤ x.toInt by omega)]
    by_cases h2 : x.toInt ≤ 99
    · rw [if_pos h2]
      apply Int32.toInt_inj.mp
      rw [h99]; omega
    · rw [if_neg h2]
/-- what one plot's growth rests on -/
def GP (X M : Mem) (o a p kd : Nat) : Prop := NN X a ∧ (∀ k, k < 3 → LF X o a p k = if k < kd then M.1 33 (20 + 3 * p + k) else 0) ∧ X.1 (o + 1) (30 + p) = M.1 33 (15 + p) ∧ X.1 (o + 1) 40 = M.1 33 40
def SCx (o a i : Nat) : Prop := SXg a i ∨ (a = o + 1 ∧ 30 ≤ i ∧ i < 35)
def SCm (a i : Nat) : Prop := SMg a i ∨ (a = 33 ∧ 15 ≤ i ∧ i < 20)
theorem crops_c {MX MM : Mem} {o a b mn kd bn hr : Nat} (ho : o = 35 ∨ o = 42) (hz : zlen zTX a = 15) (ha : a = o + 3) (hM : RM MX.1 23 MM.1 b mn kd bn hr) (hb : MM.1 0 41 = nI b) (b1 : b ≤ 1) (hG : GQ MX MM o a mn kd) :
    ∃ sm MX' Ma Mb, X9_goWeek_L1 o zFU 0 0 MX = some (sm, MX') ∧ X12_growths MM = some (sm, Ma) ∧ X12_goWeek_L2 zFU 0 Ma = some Mb ∧ Fr (SCx o) MX MX' ∧ Fr SCm MM Mb ∧ (∀ p, p < mn → MX'.1 (o + 1) (30 + p) = Mb.1 33 (15 + p)) ∧ (∀ p, mn ≤ p → p < 5 → MX'.1 (o + 1) (30 + p) = MX.1 (o + 1) (30 + p) ∧ Mb.1 33 (15 + p) = MM.1 33 (15 + p)) := by
  have hmn := hM.1.1
  have hzo : zlen zTX (o + 1) = 42 := by rcases ho with rfl | rfl <;> first | exact zlX_36 | exact zlX_43
  have key := two_zFU (σ := Int32 × Int32 × Mem) (σ' := Int32 × Int32 × Mem) (fun n s => X9_goWeek_L1 o n s.1 s.2.1 s.2.2) (fun n s => X12_growths_L1 n s.1 s.2.1 s.2.2)
    (fun d s s' => ∃ i sm M1 M2, ∃ v : Nat → Int32, i + d = mn ∧ s = (sm, nI i, M1) ∧ s' = (sm, nI i, M2) ∧ Fr (SCx o) MX M1 ∧ Fr SMg MM M2 ∧ (∀ j, j < i → M1.1 (o + 1) (30 + j) = crp (MX.1 (o + 1) (30 + j)) (v j)) ∧ (∀ j, i ≤ j → M1.1 (o + 1) (30 + j) = MX.1 (o + 1) (30 + j)) ∧ ∀ j, j < i → ∃ Xj Xj', Fr (SCx o) MX Xj ∧ GP Xj MM o a j kd ∧ X9_growthWith o a (nI j) Xj = some (v j, Xj'))
    (fun t t' => t.1 = t'.1 ∧ Fr SMg MM t'.2 ∧ Fr (SCx o) MX t.2 ∧ ∃ v : Nat → Int32, (∀ j, j < mn → t.2.1 (o + 1) (30 + j) = crp (MX.1 (o + 1) (30 + j)) (v j)) ∧ (∀ j, mn ≤ j → t.2.1 (o + 1) (30 + j) = MX.1 (o + 1) (30 + j)) ∧ ∀ j, j < mn → ∃ Xj Xj', Fr (SCx o) MX Xj ∧ GP Xj MM o a j kd ∧ X9_growthWith o a (nI j) Xj = some (v j, Xj'))
    ?_ mn (0, 0, MX) (0, 0, MM) (by omega) ⟨0, 0, MX, MM, fun _ => 0, by omega, rfl, rfl, Fr.rf, Fr.rf, fun j hj => by omega, fun _ _ => rfl, fun j hj => by omega⟩
  · obtain ⟨⟨sm, X1⟩, ⟨sm', Ma⟩, e1, e2, q1, q2, q3, v, q4, q5, q6⟩ := key
    have q1 : sm = sm' := q1
    have q2 : Fr SMg MM Ma := q2
    have q3 : Fr (SCx o) MX X1 := q3
    subst q1
    -- the reference's second loop
    have key2 := up_zFU (σ := Int32 × Mem) (fun n s => X12_goWeek_L2 n s.1 s.2) (fun i s => ∃ M1, s = (nI i, M1) ∧ Fr SCm MM M1 ∧ (∀ j, j < i → M1.1 33 (15 + j) = crp (MX.1 (o + 1) (30 + j)) (v j)) ∧ ∀ j, i ≤ j → M1.1 33 (15 + j) = MM.1 33 (15 + j)) (fun M1 => Fr SCm MM M1 ∧ (∀ j, j < mn → M1.1 33 (15 + j) = crp (MX.1 (o + 1) (30 + j)) (v j)) ∧ ∀ j, mn ≤ j → M1.1 33 (15 + j) = MM.1 33 (15 + j)) mn (by omega) ?_ ?_ (0, Ma) 0 (by omega) ⟨Ma, rfl, q2.wk (fun a i h => Or.inl h), fun j hj => by omega, fun j _ => q2.2 33 _ (by unfold SMg; omega)⟩
    · obtain ⟨Mb, e3, r1, r2, r3⟩ := key2
      refine ⟨sm, X1, Ma, Mb, e1, by unfold X12_growths; exact (congrArg (fun x => b2_ x fun e5 M6 => some (e5, M6)) e2), e3, q3, r1, fun p hp => ?_, fun p hp hp5 => ⟨q5 p hp, r3 p hp⟩⟩
      rw [r2 p hp]
      exact q4 p hp
    · rintro n s ⟨M1, rfl, f, r1, r2⟩
      have hM1 := hM.fg (Fr.rf (S := fun _ _ => False)) f (fun _ _ _ _ h => h) (fun a i h1 h2 => by unfold SCm SMg; omega)
      have hb2 : M1.1 0 41 = nI b := (f.2 0 41 (by unfold SCm SMg; omega)).trans hb
      exact ⟨M1, by show X12_goWeek_L2 (n + 1) (nI mn) M1 = some M1; rw [X12_goWeek_L2, many_c hb2 b1 hM1.2.1.2.1, bo_s, if_pos (nI_le (by omega) (by omega))], f, r1, r2⟩
    · rintro n i s hi ⟨M1, rfl, f, r1, r2⟩
      left
      obtain ⟨Xj, Xj', g0, ⟨g1, g2, g3, g4⟩, g5⟩ := q6 i hi
      have hMj := hM.fg g0 f (fun a i h1 h2 => by unfold SCx SXg; omega) (fun a i h1 h2 => by unfold SCm SMg; omega)
      have hb2 : M1.1 0 41 = nI b := (f.2 0 41 (by unfold SCm SMg; omega)).trans hb
      obtain ⟨v', N1, N2, w1, w2, w3, w4⟩ := grow_c (MX := Xj) (MM := M1) (o := o) (a := a) (p := i) ho hz (by omega) (by omega) g1 hMj hb2 b1 (fun k hk => by rw [f.2 33 _ (by unfold SCm SMg; omega)]; exact g2 k hk) (by rw [r2 i (Nat.le_refl i)]; exact g3) (by rw [f.2 33 40 (by unfold SCm SMg; omega)]; exact g4)
      rw [g5] at w1
      have ev : v i = v' := (Prod.mk.inj (Option.some.inj w1)).1
      have w4' : Fr SMg M1 N2 := w4
      have ec : MM.1 33 (15 + i) = MX.1 (o + 1) (30 + i) := ((hG.2.1 i hi).2).symm
      refine ⟨(nI (i + 1), uI N2 33 (15 + i) (crp (MX.1 (o + 1) (30 + i)) (v i))), ⟨_, rfl, (f.tr (w4'.wk (fun a i h => Or.inl h))).up _ (Or.inr ⟨rfl, by omega, by omega⟩), fun j hj => ?_, fun j hj => ?_⟩, ?_⟩
      · by_cases h : j = i
        · rw [h, uI_eq]
        · rw [uI_ne (by omega), w4'.2 33 _ (by unfold SMg; omega), r1 j (by omega)]
      · rw [uI_ne (by omega), w4'.2 33 _ (by unfold SMg; omega), r2 j (by omega)]
      · show X12_goWeek_L2 (n + 1) (nI i) M1 = X12_goWeek_L2 n (nI (i + 1)) (uI N2 33 (15 + i) (crp (MX.1 (o + 1) (30 + i)) (v i)))
        rw [X12_goWeek_L2, many_c hb2 b1 hMj.2.1.2.1, bo_s, if_neg (nI_ge (by omega) (by omega)), show (15 : Int32) + nI i = nI (15 + i) from nI_add 15 i, gd_in (by omega) (by omega), nI_clamp (by omega), w2, bp_s, r2 i (Nat.le_refl i), ec, ← ev, lt_e (MX.1 (o + 1) (30 + i) + v i), l1_s, show nI i + 1 = nI (i + 1) from nI_add i 1]
        rfl
  · rintro n n' d s s' ⟨i, sm, M1, M2, v, hd, rfl, rfl, f1, f2, r1, r2, r3⟩
    have hM1 := hM.fg f1 f2 (fun a i h1 h2 => by unfold SCx SXg; omega) (fun a i h1 h2 => by unfold SMg; omega)
    have hb2 : M2.1 0 41 = nI b := (f2.2 0 41 (by unfold SMg; omega)).trans hb
    by_cases hi : i = mn
    · left
      subst hi
      refine ⟨(sm, M1), (sm, M2), ?_, ?_, rfl, f2, f1, v, r1, r2, r3⟩
      · show X9_goWeek_L1 o (n + 1) sm (nI i) M1 = _
        rw [X9_goWeek_L1, hM1.2.1.1, if_pos (nI_le (by omega) (by omega))]
      · show X12_growths_L1 (n' + 1) sm (nI i) M2 = _
        rw [X12_growths_L1, many_c hb2 b1 hM1.2.1.2.1, bo_s, if_pos (nI_le (by omega) (by omega))]
    · right
      have hP : GP M1 MM o a i kd := by
        obtain ⟨g1, g2, g3⟩ := hG
        refine ⟨g1.fr f1 (fun j => by unfold SCx SXg; omega), fun k hk => ?_, ?_, ?_⟩
        · have hl := (g2 i (by omega)).1 k hk
          unfold LF at hl ⊢
          rw [f1.2 (o + 1) _ (by unfold SCx SXg; omega), f1.2 a _ (by unfold SCx SXg; omega), f1.2 a _ (by unfold SCx SXg; omega), f1.2 a _ (by unfold SCx SXg; omega), f1.2 26 _ (by unfold SCx SXg; omega), f1.2 26 _ (by unfold SCx SXg; omega)]
          exact hl
        · rw [r2 i (Nat.le_refl i)]
          exact (g2 i (by omega)).2
        · rw [f1.2 (o + 1) 40 (by unfold SCx SXg; omega)]
          exact g3
      obtain ⟨g1, g2, g3, g4⟩ := id hP
      obtain ⟨v', N1, N2, w1, w2, w3, w4⟩ := grow_c (MX := M1) (MM := M2) (o := o) (a := a) (p := i) ho hz (by omega) (by omega) g1 hM1 hb2 b1 (fun k hk => by rw [f2.2 33 _ (by unfold SMg; omega)]; exact g2 k hk) (by rw [f2.2 33 _ (by unfold SMg; omega)]; exact g3) (by rw [f2.2 33 40 (by unfold SMg; omega)]; exact g4)
      have w3' : Fr SXg M1 N1 := w3
      have w4' : Fr SMg M2 N2 := w4
      obtain ⟨V, V1, V2⟩ : ∃ V : Nat → Int32, V i = v' ∧ ∀ j, j ≠ i → V j = v j := ⟨fun j => if j = i then v' else v j, if_pos rfl, fun j h => if_neg h⟩
      have hg : X9_growthOf o (nI i) M1 = some (v', N1) := by
        subst ha
        unfold X9_growthOf
        rw [w1, bp_s]
      refine ⟨d - 1, (sm + v', nI (i + 1), uI N1 (o + 1) (30 + i) (crp (MX.1 (o + 1) (30 + i)) v')), (sm + v', nI (i + 1), N2), by omega, ⟨i + 1, sm + v', _, N2, V, by omega, rfl, rfl, (f1.tr (w3'.wk (fun a i h => Or.inl h))).up _ (Or.inr ⟨rfl, by omega, by omega⟩), f2.tr w4', fun j hj => ?_, fun j hj => ?_, fun j hj => ?_⟩, ?_, ?_⟩
      · by_cases h : j = i
        · rw [h, uI_eq, V1]
        · rw [uI_ne (by omega), w3'.2 (o + 1) _ (by unfold SXg; omega), r1 j (by omega), V2 j h]
      · rw [uI_ne (by omega), w3'.2 (o + 1) _ (by unfold SXg; omega), r2 j (by omega)]
      · by_cases h : j = i
        · subst h
          exact ⟨M1, N1, f1, hP, by rw [V1]; exact w1⟩
        · rw [V2 j h]
          exact r3 j (by omega)
      · show X9_goWeek_L1 o (n + 1) sm (nI i) M1 = X9_goWeek_L1 o n (sm + v') (nI (i + 1)) (uI N1 (o + 1) (30 + i) (crp (MX.1 (o + 1) (30 + i)) v'))
        rw [X9_goWeek_L1, hM1.2.1.1, if_neg (nI_ge (by omega) (by omega)), hg, bp_s, cropOf_c ho (by omega), w3'.2 (o + 1) _ (by unfold SXg; omega), r2 i (Nat.le_refl i), crp_x, lt_e (crp (MX.1 (o + 1) (30 + i)) v'), show (30 : Int32) + nI i = nI (30 + i) from nI_add 30 i, xp_in (by omega), lt_e, show nI i + 1 = nI (i + 1) from nI_add i 1]
      · show X12_growths_L1 (n' + 1) sm (nI i) M2 = X12_growths_L1 n' (sm + v') (nI (i + 1)) N2
        rw [X12_growths_L1, many_c hb2 b1 hM1.2.1.2.1, bo_s, if_neg (nI_ge (by omega) (by omega)), w2, bp_s, show nI i + 1 = nI (i + 1) from nI_add i 1]
/-- one man's new week: the class -/
theorem wage_x {M : Mem} {o i kd mn : Nat} (ho : o = 35 ∨ o = 42) (h1 : M.1 23 1 = nI kd) (hkd : kd ≤ 3) (hi : i < 5) (hp : ∀ k, k < 3 → ∃ p w, p ≤ 99 ∧ w ≤ 9 ∧ M.1 (o + 1) (3 * i + k) = nI p ∧ M.1 28 (3 * i + k) = nI w) :
    ∃ M', X9_goWeek_L3 o (nI i) zFU 0 M = some M' ∧ Fr (fun a j => a = o + 1 ∧ ((3 * i ≤ j ∧ j < 3 * i + kd) ∨ (15 + 3 * i ≤ j ∧ j < 15 + 3 * i + kd))) M M' ∧ (∀ k, k < kd → M'.1 (o + 1) (15 + (3 * i + k)) = 0) ∧ ∀ k p w, k < kd → M.1 (o + 1) (3 * i + k) = nI p → M.1 28 (3 * i + k) = nI w → p ≤ 99 → w ≤ 9 → M'.1 (o + 1) (3 * i + k) = nI (min (p + w) 99) := by
  have hz : zlen zTX (o + 1) = 42 := by rcases ho with rfl | rfl <;> first | exact zlX_36 | exact zlX_43
  have key := up_zFU (σ := Int32 × Mem) (fun n s => X9_goWeek_L3 o (nI i) n s.1 s.2) (fun j s => ∃ M1, s = (nI j, M1) ∧ Fr (fun a j => a = o + 1 ∧ ((3 * i ≤ j ∧ j < 3 * i + kd) ∨ (15 + 3 * i ≤ j ∧ j < 15 + 3 * i + kd))) M M1 ∧ (∀ k, k < j → M1.1 (o + 1) (15 + (3 * i + k)) = 0) ∧ (∀ k p w, k < j → M.1 (o + 1) (3 * i + k) = nI p → M.1 28 (3 * i + k) = nI w → p ≤ 99 → w ≤ 9 → M1.1 (o + 1) (3 * i + k) = nI (min (p + w) 99)) ∧ ∀ k, j ≤ k → k < 3 → M1.1 (o + 1) (3 * i + k) = M.1 (o + 1) (3 * i + k))
    (fun M1 => Fr (fun a j => a = o + 1 ∧ ((3 * i ≤ j ∧ j < 3 * i + kd) ∨ (15 + 3 * i ≤ j ∧ j < 15 + 3 * i + kd))) M M1 ∧ (∀ k, k < kd → M1.1 (o + 1) (15 + (3 * i + k)) = 0) ∧ ∀ k p w, k < kd → M.1 (o + 1) (3 * i + k) = nI p → M.1 28 (3 * i + k) = nI w → p ≤ 99 → w ≤ 9 → M1.1 (o + 1) (3 * i + k) = nI (min (p + w) 99)) kd (by omega) ?_ ?_ (0, M) 0 (by omega) ⟨M, rfl, Fr.rf, fun k hk => by omega, fun k p w hk => by omega, fun _ _ _ => rfl⟩
  · obtain ⟨t, e, q⟩ := key
    exact ⟨t, e, q⟩
  · rintro n s ⟨M1, rfl, f, q1, q2, q3⟩
    exact ⟨M1, by show X9_goWeek_L3 o (nI i) (n + 1) (nI kd) M1 = some M1; rw [X9_goWeek_L3, f.2 23 1 (by omega), h1, if_pos (nI_le (by omega) (by omega))], f, q1, q2⟩
  · rintro n j s hj ⟨M1, rfl, f, q1, q2, q3⟩
    left
    obtain ⟨p, w, hp9, hw9, e1, e2⟩ := hp j (by omega)
    refine ⟨(nI (j + 1), uI (uI M1 (o + 1) (15 + (3 * i + j)) 0) (o + 1) (3 * i + j) (nI (min (p + w) 99))), ⟨_, rfl, (f.up _ ⟨rfl, Or.inr ⟨by omega, by omega⟩⟩).up _ ⟨rfl, Or.inl ⟨by omega, by omega⟩⟩, fun k hk => ?_, fun k p' w' hk ep ew h9 h9' => ?_, fun k hk hk3 => ?_⟩, ?_⟩
    · rw [uI_ne (by omega)]
      by_cases h : k = j
      · rw [h, uI_eq]
      · rw [uI_ne (by omega), q1 k (by omega)]
    · by_cases h : k = j
      · subst h
        have a1 : p' = p := (nI_eq (by omega) (by omega)).mp (ep.symm.trans e1)
        have a2 : w' = w := (nI_eq (by omega) (by omega)).mp (ew.symm.trans e2)
        rw [uI_eq, a1, a2]
      · rw [uI_ne (by omega), uI_ne (by omega), q2 k p' w' (by omega) ep ew h9 h9']
    · rw [uI_ne (by omega), uI_ne (by omega), q3 k (by omega) hk3]
    · show X9_goWeek_L3 o (nI i) (n + 1) (nI j) M1 = X9_goWeek_L3 o (nI i) n (nI (j + 1)) (uI (uI M1 (o + 1) (15 + (3 * i + j)) 0) (o + 1) (3 * i + j) (nI (min (p + w) 99)))
      rw [X9_goWeek_L3, f.2 23 1 (by omega), h1, if_neg (nI_ge hj (by omega)), show nI i * 3 = nI (3 * i) by rw [show nI i * 3 = nI (i * 3) from nI_mul i 3, Nat.mul_comm], show (15 : Int32) + nI (3 * i) = nI (15 + 3 * i) from nI_add _ _, nI_add, xp_in (by omega), show 15 + 3 * i + j = 15 + (3 * i + j) by omega, lt_e, wageOf_c hi (by omega), uI_ne (by omega), f.2 28 _ (by omega), e2, addP_c ho hi (by omega), uI_ne (by omega), q3 j (Nat.le_refl j) (by omega), e1, nI_add, min99' _ (by omega), lt_e, show nI j + 1 = nI (j + 1) from nI_add j 1]
theorem wage_m {M : Mem} {b i : Nat} (hb : M.1 0 41 = nI b) (b1 : b ≤ 1) (hi : i < 5) (hp : ∀ k, k < 3 → ∃ p w, p ≤ 99 ∧ w ≤ 9 ∧ M.1 33 (3 * i + k) = nI p ∧ M.1 15 (3 * (5 * b + i) + k) = nI w) :
    ∃ M', X12_goWeek_L4 (nI i) zFU 0 M = some M' ∧ Fr (fun a j => a = 33 ∧ ((3 * i ≤ j ∧ j < 3 * i + 3) ∨ (20 + 3 * i ≤ j ∧ j < 20 + 3 * i + 3))) M M' ∧ (∀ k, k < 3 → M'.1 33 (20 + (3 * i + k)) = 0) ∧ ∀ k p w, k < 3 → M.1 33 (3 * i + k) = nI p → M.1 15 (3 * (5 * b + i) + k) = nI w → p ≤ 99 → w ≤ 9 → M'.1 33 (3 * i + k) = nI (min (p + w) 99) := by
  have key := up_zFU (σ := Int32 × Mem) (fun n s => X12_goWeek_L4 (nI i) n s.1 s.2) (fun j s => ∃ M1, s = (nI j, M1) ∧ Fr (fun a j => a = 33 ∧ ((3 * i ≤ j ∧ j < 3 * i + 3) ∨ (20 + 3 * i ≤ j ∧ j < 20 + 3 * i + 3))) M M1 ∧ (∀ k, k < j → M1.1 33 (20 + (3 * i + k)) = 0) ∧ (∀ k p w, k < j → M.1 33 (3 * i + k) = nI p → M.1 15 (3 * (5 * b + i) + k) = nI w → p ≤ 99 → w ≤ 9 → M1.1 33 (3 * i + k) = nI (min (p + w) 99)) ∧ ∀ k, j ≤ k → k < 3 → M1.1 33 (3 * i + k) = M.1 33 (3 * i + k))
    (fun M1 => Fr (fun a j => a = 33 ∧ ((3 * i ≤ j ∧ j < 3 * i + 3) ∨ (20 + 3 * i ≤ j ∧ j < 20 + 3 * i + 3))) M M1 ∧ (∀ k, k < 3 → M1.1 33 (20 + (3 * i + k)) = 0) ∧ ∀ k p w, k < 3 → M.1 33 (3 * i + k) = nI p → M.1 15 (3 * (5 * b + i) + k) = nI w → p ≤ 99 → w ≤ 9 → M1.1 33 (3 * i + k) = nI (min (p + w) 99)) 3 (by omega) ?_ ?_ (0, M) 0 (by omega) ⟨M, rfl, Fr.rf, fun k hk => by omega, fun k p w hk => by omega, fun _ _ _ => rfl⟩
  · obtain ⟨t, e, q⟩ := key
    exact ⟨t, e, q⟩
  · rintro n s ⟨M1, rfl, f, q1, q2, q3⟩
    exact ⟨M1, by show X12_goWeek_L4 (nI i) (n + 1) (nI 3) M1 = some M1; rw [X12_goWeek_L4, if_pos (by decide)], f, q1, q2⟩
  · rintro n j s hj ⟨M1, rfl, f, q1, q2, q3⟩
    left
    obtain ⟨p, w, hp9, hw9, e1, e2⟩ := hp j (by omega)
    refine ⟨(nI (j + 1), uI (uI M1 33 (20 + (3 * i + j)) 0) 33 (3 * i + j) (nI (min (p + w) 99))), ⟨_, rfl, (f.up _ ⟨rfl, Or.inr ⟨by omega, by omega⟩⟩).up _ ⟨rfl, Or.inl ⟨by omega, by omega⟩⟩, fun k hk => ?_, fun k p' w' hk ep ew h9 h9' => ?_, fun k hk hk3 => ?_⟩, ?_⟩
    · rw [uI_ne (by omega)]
      by_cases h : k = j
      · rw [h, uI_eq]
      · rw [uI_ne (by omega), q1 k (by omega)]
    · by_cases h : k = j
      · subst h
        have a1 : p' = p := (nI_eq (by omega) (by omega)).mp (ep.symm.trans e1)
        have a2 : w' = w := (nI_eq (by omega) (by omega)).mp (ew.symm.trans e2)
        rw [uI_eq, a1, a2]
      · rw [uI_ne (by omega), uI_ne (by omega), q2 k p' w' (by omega) ep ew h9 h9']
    · rw [uI_ne (by omega), uI_ne (by omega), q3 k (by omega) hk3]
    · show X12_goWeek_L4 (nI i) (n + 1) (nI j) M1 = X12_goWeek_L4 (nI i) n (nI (j + 1)) (uI (uI M1 33 (20 + (3 * i + j)) 0) 33 (3 * i + j) (nI (min (p + w) 99)))
      have hb1 : (uI M1 33 (20 + (3 * i + j)) 0).1 0 41 = nI b := (uI_ne (by omega)).trans ((f.2 0 41 (by omega)).trans hb)
      rw [X12_goWeek_L4, if_neg (show ¬ (3 : Int32) ≤ nI j from nI_ge (b := 3) hj (by omega)), show (20 : Int32) + 3 * nI i + nI j = nI (20 + (3 * i + j)) by simp only [nlit, nI_mul, nI_add, Nat.add_assoc], gd_in (by omega) (by omega), nI_clamp (by omega), lt_e, payOf_c hb1 b1 hi (by omega), uI_ne (by omega), f.2 15 _ (by omega), e2, bo_s, gets_c (p := p) hi (by omega) ((uI_ne (by omega)).trans ((q3 j (Nat.le_refl j) (by omega)).trans e1)) (by omega), bo_s, show nI j + 1 = nI (j + 1) from nI_add j 1]
