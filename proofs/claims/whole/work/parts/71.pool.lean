/-! ===== phase 2: pool ===== -/
noncomputable def mCons3 (y y15 : Int32) (M14 : Mem) : Option Mem :=
      l1_ (α := Bool) (
        if (M14.1 0 62) < 0 then
          true
        else
        if (M14.1 0 63) < y then
          true
        else
        false) fun t18 =>
      if t18 = true then
        lt_ (uI M14 0 63 y) fun M20 =>
        lt_ (uI M20 0 62 y15) fun M21 =>
        bo_ (X12_showRow 39 0 M21) fun M22 =>
        gd_ (inb (M22.1 0 41) (2) = true) (
        bo_ (X12_showRow 35 (M22.1 3 ((M22.1 0 41).toNatClampNeg)) M22) fun M24 =>
        some M24)
      else
      if y = (M14.1 0 63) then
        if (M14.1 0 62) ≤ y15 then
          some M14
        else
        lt_ (uI M14 0 63 y) fun M27 =>
        lt_ (uI M27 0 62 y15) fun M28 =>
        bo_ (X12_showRow 39 0 M28) fun M29 =>
        gd_ (inb (M29.1 0 41) (2) = true) (
        bo_ (X12_showRow 35 (M29.1 3 ((M29.1 0 41).toNatClampNeg)) M29) fun M31 =>
        some M31)
      else
      some M14
theorem other_st {x1 x2 x3 : Int32} {n : Nat} {M : Mem} : X12_layOther_L2 x1 x2 x3 (n + 1) 1 M = (bo_ (X12_layRow x2 1 M) fun M9 =>
    bp_ (X12_growthOf x1 M9) fun v10 M11 =>
    bp_ (X12_growthOf x2 M11) fun v12 M13 =>
    bo_ (X12_layRow x2 (-1) M13) fun M14 =>
    b1_ (α := Mem) (mCons3 (v10 + v12) (((x3 + (M14.1 35 0)) + (M14.1 35 1)) + (M14.1 35 2)) M14) fun M32 =>
    bo_ (X12_leftOf x2 M32) fun v33 =>
    bp_ (X12_nextRow 41 (X12_lesser 3 v33) M32) fun b34 M35 =>
    X12_layOther_L2 x1 x2 x3 n (b2i (b34)) M35) := by
  rw [X12_layOther_L2, if_neg (by decide)]
  rfl
def SPm (a i : Nat) : Prop := a = 37 ∨ (a = 0 ∧ (i = 62 ∨ i = 63))
/-- the best two rows so far -/
def PQ (M1 M2 : Mem) (m o kd : Nat) : Prop := M1.1 41 8 = 1 ∧ M1.1 41 9 = M2.1 0 63 ∧ ∃ u w : Nat → Nat, M1.1 41 10 = nI (u 0 + u 1 + u 2 + (w 0 + w 1 + w 2)) ∧ M2.1 0 62 = nI (u 0 + u 1 + u 2 + (w 0 + w 1 + w 2)) ∧ u 0 + u 1 + u 2 ≤ 8 ∧ w 0 + w 1 + w 2 ≤ 8 ∧ (∀ p k, p < 5 → k < 3 → M1.1 47 (3 * p + k) = if p = m then nI (u k) else if p = o then nI (w k) else 0) ∧ (∀ k, k < kd → M2.1 37 k = nI (u k)) ∧ ∀ k, k < kd → M2.1 37 (kd + k) = nI (w k)
theorem PQ.fr {A B A' B' : Mem} {m o kd : Nat} (h : PQ A A' m o kd) (kx : ∀ a i, SBx a i → B.1 a i = A.1 a i) (km : ∀ a i, SPm a i → B'.1 a i = A'.1 a i) : PQ B B' m o kd := by
  have z8 := kx 41 8 (Or.inl ⟨rfl, Or.inl rfl⟩)
  have z9 := kx 41 9 (Or.inl ⟨rfl, Or.inr (Or.inl rfl)⟩)
  have z10 := kx 41 10 (Or.inl ⟨rfl, Or.inr (Or.inr rfl)⟩)
  have z47 := fun j => kx 47 j (Or.inr rfl)
  have z62 := km 0 62 (Or.inr ⟨rfl, Or.inl rfl⟩)
  have z63 := km 0 63 (Or.inr ⟨rfl, Or.inr rfl⟩)
  have z37 := fun j => km 37 j (Or.inl rfl)
  unfold PQ at h ⊢
  simp only [z8, z9, z10, z47, z62, z63, z37]
  exact h
theorem consider_p {M1 M2 : Mem} {b m o kd : Nat} {u w : Nat → Nat} {v : Int32} (hmo : m ≠ o) (hb : M2.1 0 41 = nI b) (b1 : b ≤ 1) (h3 : M2.1 3 b = nI kd) (hkd : kd ≤ 3) (hB : (M1.1 41 8 = 0 ∧ M2.1 0 62 = -1) ∨ PQ M1 M2 m o kd) (hrow : ∀ p k, p < 5 → k < 3 → M1.1 46 (3 * p + k) = if p = m then nI (u k) else if p = o then nI (w k) else 0) (h39 : ∀ k, k < 3 → M2.1 39 k = nI (u k)) (h35 : ∀ k, k < 3 → M2.1 35 k = nI (w k)) (hu : u 0 + u 1 + u 2 ≤ 8) (hw : w 0 + w 1 + w 2 ≤ 8) :
    ∃ M1' M2', X5_consider v (nI (u 0 + u 1 + u 2 + (w 0 + w 1 + w 2))) M1 = some M1' ∧ mCons3 v (nI (u 0 + u 1 + u 2 + (w 0 + w 1 + w 2))) M2 = some M2' ∧ Fr SBx M1 M1' ∧ Fr SPm M2 M2' ∧ PQ M1' M2' m o kd := by
  obtain ⟨S, hS⟩ : ∃ S, S = u 0 + u 1 + u 2 + (w 0 + w 1 + w 2) := ⟨_, rfl⟩
  rw [← hS]
  -- both take the rows
  obtain ⟨T1, t1, t2, t3, _⟩ := mshow_c (M := uI (uI M2 0 63 v) 0 62 (nI S)) (a := 39) (c0 := 0) hb b1 h3 hkd zlM_39 (by omega) (by omega)
  obtain ⟨T2, s1, s2, s3, s4⟩ := mshow_c (M := T1) (a := 35) (c0 := kd) ((t2.2 0 41 (by omega)).trans hb) b1 ((t2.2 3 b (by omega)).trans h3) hkd zlM_35 (by omega) (by omega)
  have set : ((M1.1 41 8 = 0 ∨ M1.1 41 9 < v) ∨ (v = M1.1 41 9 ∧ ¬ M1.1 41 10 ≤ nI S)) → ((M2.1 0 62 < 0 ∨ M2.1 0 63 < v) ∨ (v = M2.1 0 63 ∧ ¬ M2.1 0 62 ≤ nI S)) → ∃ M1' M2', X5_consider v (nI S) M1 = some M1' ∧ mCons3 v (nI S) M2 = some M2' ∧ Fr SBx M1 M1' ∧ Fr SPm M2 M2' ∧ PQ M1' M2' m o kd := fun q1 q2 => by
    have em : mCons3 v (nI S) M2 = some T2 := by
      unfold mCons3
      by_cases h1 : M2.1 0 62 < 0
      · rw [if_pos h1, l1_s, if_pos rfl, lt_e, lt_e, show X12_showRow 39 0 _ = _ from t1, bo_s, t2.2 0 41 (by omega), show (uI (uI M2 0 63 v) 0 62 (nI S)).1 0 41 = nI b from hb, gd_in (by omega) (by omega), nI_clamp (by omega), t2.2 3 b (by omega), show (uI (uI M2 0 63 v) 0 62 (nI S)).1 3 b = nI kd from h3, s1, bo_s]
      · rw [if_neg h1]
        by_cases h2 : M2.1 0 63 < v
        · rw [if_pos h2, l1_s, if_pos rfl, lt_e, lt_e, show X12_showRow 39 0 _ = _ from t1, bo_s, t2.2 0 41 (by omega), show (uI (uI M2 0 63 v) 0 62 (nI S)).1 0 41 = nI b from hb, gd_in (by omega) (by omega), nI_clamp (by omega), t2.2 3 b (by omega), show (uI (uI M2 0 63 v) 0 62 (nI S)).1 3 b = nI kd from h3, s1, bo_s]
        · rcases q2 with q | ⟨q3, q4⟩
          · exact absurd q (fun z => z.elim h1 h2)
          · rw [if_neg h2, l1_s, if_neg Bool.false_ne_true, if_pos q3, if_neg q4, lt_e, lt_e, show X12_showRow 39 0 _ = _ from t1, bo_s, t2.2 0 41 (by omega), show (uI (uI M2 0 63 v) 0 62 (nI S)).1 0 41 = nI b from hb, gd_in (by omega) (by omega), nI_clamp (by omega), t2.2 3 b (by omega), show (uI (uI M2 0 63 v) 0 62 (nI S)).1 3 b = nI kd from h3, s1, bo_s]
    have ex : X5_consider v (nI S) M1 = some (uC (uI (uI (uI M1 41 8 1) 41 9 v) 41 10 (nI S)) 46 47 0 0 15) := set_x (a := S) (bb := 0) (c := 0) q1
    refine ⟨_, T2, ex, em, ?_, ((((Fr.rf.up _ (Or.inr ⟨rfl, Or.inr rfl⟩)).up _ (Or.inr ⟨rfl, Or.inl rfl⟩)).tr (t2.wk (fun a i z => Or.inl z))).tr (s2.wk (fun a i z => Or.inl z))), ?_, ?_, u, w, ?_, ?_, hu, hw, fun p k hp hk => ?_, fun k hk => ?_, fun k hk => ?_⟩
    · exact (((Fr.rf.up _ (Or.inl ⟨rfl, Or.inl rfl⟩)).up _ (Or.inl ⟨rfl, Or.inr (Or.inl rfl)⟩)).up _ (Or.inl ⟨rfl, Or.inr (Or.inr rfl)⟩)).cp (fun b _ _ => Or.inr rfl)
    · rw [uC_g, if_neg (by omega)]; rfl
    · rw [uC_g, if_neg (by omega), s2.2 0 63 (by omega), t2.2 0 63 (by omega)]; rfl
    · rw [uC_g, if_neg (by omega), ← hS]; rfl
    · rw [s2.2 0 62 (by omega), t2.2 0 62 (by omega), ← hS]; rfl
    · rw [uC_g, if_pos ⟨rfl, by omega⟩, uI_ne (by omega), uI_ne (by omega), uI_ne (by omega), hrow p k hp hk]
    · rw [s4 k (by omega)]
      have := t3 k hk
      rw [Nat.zero_add] at this
      rw [this, uI_ne (by omega), uI_ne (by omega), h39 k (by omega)]
    · rw [s3 k hk, t2.2 35 k (by omega), uI_ne (by omega), uI_ne (by omega), h35 k (by omega)]
  rcases hB with ⟨q1, q2⟩ | hB
  · exact set (Or.inl (Or.inl q1)) (Or.inl (Or.inl (by rw [q2]; decide)))
  · obtain ⟨q1, q2, u', w', q3, q4, q5, q6, _⟩ := id hB
    by_cases c1 : M1.1 41 9 < v
    · exact set (Or.inl (Or.inr c1)) (Or.inl (Or.inr (q2 ▸ c1)))
    · by_cases c2 : v = M1.1 41 9 ∧ ¬ M1.1 41 10 ≤ nI S
      · exact set (Or.inr c2) (Or.inr ⟨c2.1.trans q2, by rw [q4, ← q3]; exact c2.2⟩)
      · have c3 : v = M1.1 41 9 → M1.1 41 10 ≤ nI S := fun h => Decidable.byContradiction fun z => c2 ⟨h, z⟩
        refine ⟨M1, M2, keep_x (a := S) (bb := 0) (c := 0) (by rw [q1]; decide) c1 c3, ?_, Fr.rf, Fr.rf, hB⟩
        unfold mCons3
        rw [if_neg (by rw [q4]; exact nI_pos (by omega)), if_neg (by rw [← q2]; exact c1), l1_s, if_neg Bool.false_ne_true]
        by_cases h4 : v = M2.1 0 63
        · rw [if_pos h4, if_pos (by rw [q4, ← q3]; exact c3 (h4.trans q2.symm))]
        · rw [if_neg h4]
def SMp (mn a i : Nat) : Prop := SMg a i ∨ SPm a i ∨ S35 a i ∨ SO mn a i
theorem SK.frp {MX MM MX' MM' : Mem} {o m b mn kd bn hr hh sp : Nat} {l : Nat → Nat} {base rx : Nat → Nat → Int32} (h : SK MX MM o m b mn kd bn hr hh sp l base rx) (fX : Fr (SXl m) MX MX') (fM : Fr (SMp mn) MM MM') : SK MX' MM' o m b mn kd bn hr hh sp l base rx := by
  have hmn := h.2.1.1.1
  exact h.fr2 fX fM (fun a i q => by unfold SXl SXg SBx S46; omega) (fun a i q => by unfold SMp SMg SPm S35 SO; omega) (by unfold SMp SMg SPm S35 SO; omega) (fun i q => by unfold SMp SMg SPm S35 SO; omega)
theorem pool_in {MX MM : Mem} {m o b mn kd bn hr hh sp h3 : Nat} {l u : Nat → Nat} {base rx : Nat → Nat → Int32} (hmo : m ≠ o) (hmm : m < mn) (hK : SK MX MM 35 o b mn kd bn hr hh sp l base rx) (hrxu : ∀ p k, k < 3 → rx p k = if p = m then nI (u k) else 0) (hu : u 0 + u 1 + u 2 ≤ 8) (h3h : h3 = min 3 hh)
    (hlx : ∀ j, j < 3 → MX.1 50 j = nI (l j)) (hlm : ∀ j, j < 3 → MM.1 41 j = nI (l j)) (h39 : ∀ j, j < 3 → MM.1 39 j = nI (u j)) (hR : RW MX o 0 0 0 rx) (h35 : ∀ k, k < 3 → MM.1 35 k = nI 0) (hO : OV MM b mn base rx) (hB : (MX.1 41 8 = 0 ∧ MM.1 0 62 = -1) ∨ PQ MX MM m o kd) :
    ∃ MX' MM', X5_findBeside_L2 (nI m) (nI o) (nI h3) zFU 1 0 MX = some MX' ∧ X12_layOther_L2 (nI m) (nI o) (nI (u 0 + u 1 + u 2)) zFU 1 MM = some MM' ∧ Fr (SXl o) MX MX' ∧ Fr (SMp mn) MM MM' ∧ OV MM' b mn base rx ∧ RW MX' o 0 0 0 rx ∧ PQ MX' MM' m o kd := by
  have hmn := hK.2.1.1.1
  have hkd := hK.2.1.1.2.1
  have hm := hK.2.2.2.2.1
  have hr8 := hK.2.1.1.2.2.2.2
  have key := two_zFU (σ := Int32 × Int32 × Mem) (σ' := Int32 × Mem) (fun n s => X5_findBeside_L2 (nI m) (nI o) (nI h3) n s.1 s.2.1 s.2.2) (fun n s => X12_layOther_L2 (nI m) (nI o) (nI (u 0 + u 1 + u 2)) n s.1 s.2)
    (fun d s s' => ∃ i M1 M2 more, s = (b2i more, nI i, M1) ∧ s' = (b2i more, M2) ∧ Fr (SXl o) MX M1 ∧ Fr (SMp mn) MM M2 ∧ OV M2 b mn base rx ∧
      ((more = false ∧ d = 0 ∧ i < 166 ∧ RW M1 o 0 0 0 rx ∧ PQ M1 M2 m o kd) ∨ (more = true ∧ ∃ a bb c, i ≤ rk a bb c ∧ d = 165 - rk a bb c ∧ a + bb + c ≤ h3 ∧ a ≤ l 0 ∧ bb ≤ l 1 ∧ c ≤ l 2 ∧ RW M1 o a bb c rx ∧ (∀ k, k < 3 → M2.1 35 k = nI (t3 a bb c k)) ∧ ((M1.1 41 8 = 0 ∧ M2.1 0 62 = -1) ∨ PQ M1 M2 m o kd))))
    (fun t t' => Fr (SXl o) MX t ∧ Fr (SMp mn) MM t' ∧ OV t' b mn base rx ∧ RW t o 0 0 0 rx ∧ PQ t t' m o kd) ?_ 165 (1, 0, MX) (1, MM) (by omega)
    ⟨0, MX, MM, true, rfl, rfl, Fr.rf, Fr.rf, hO, Or.inr ⟨rfl, 0, 0, 0, by omega, by decide, by omega, by omega, by omega, by omega, hR, fun k hk => by rw [h35 k hk]; exact (three (P := fun k => nI 0 = nI (t3 0 0 0 k)) rfl rfl rfl k hk), hB⟩⟩
  · obtain ⟨t, t', e1, e2, q⟩ := key
    exact ⟨t, t', e1, e2, q⟩
  · rintro n n' d s s' ⟨i, M1, M2, more, rfl, rfl, f1, f2, hO2, ⟨rfl, rfl, hi, hRz, hB⟩ | ⟨rfl, a, bb, c, hi, hd, hs, ha, hb', hc, hR1, h351, hB⟩⟩
    · left
      refine ⟨M1, M2, ?_, ?_, f1, f2, hO2, hRz, hB⟩
      · show X5_findBeside_L2 (nI m) (nI o) (nI h3) (n + 1) (b2i false) (nI i) M1 = some M1
        rw [X5_findBeside_L2]
        by_cases h : i < 165
        · rw [if_neg (show ¬ (165 : Int32) ≤ nI i from nI_ge (b := 165) h (by omega)), if_pos (show b2i false = 0 by decide)]
        · rw [if_pos (show (165 : Int32) ≤ nI i from nI_le (a := 165) (by omega) (by omega))]
      · show X12_layOther_L2 (nI m) (nI o) (nI (u 0 + u 1 + u 2)) (n' + 1) (b2i false) M2 = some M2
        rw [X12_layOther_L2, if_pos (show b2i false = 0 by decide)]
    · right
      have hK1 := hK.frp f1 f2
      obtain ⟨ho, hM1, hb2, b1, _, hl, ⟨hsp, hsp2, hhs⟩, hbase, hrx, hrn, hcrop, hweek⟩ := id hK1
      have hle : ∀ k, k < 3 → t3 a bb c k ≤ l k := fun k hk => t3_le ha hb' hc hk
      have hlm' : ∀ k, k < 3 → l k < 1000 := fun k hk => by have := (hl k hk).1; omega
      obtain ⟨hrk, _⟩ := rk_step a (by omega) bb (by omega) c (by omega) (by omega)
      obtain ⟨M5, e5, f5, o5⟩ := layRow_c (way := 1) (u := fun _ => 0) (u' := fun k => nI (t3 a bb c k)) hb2 b1 hM1.2.1.2.1 hmn hm hO2 (fun k hk => hrx o k hk (Or.inr (Or.inr rfl))) (fun k hk => by rw [h351 k hk]; exact up_1 _) (fun k hk h => by rw [h351 k hk]; exact lkp _ _)
      have hK5 := hK1.frp (Fr.rf) (f5.wk (fun a i h => Or.inr (Or.inr (Or.inr h))))
      have hG := hK5.gq hR1 (by omega) hle o5
      obtain ⟨v1, Ma', Mb', w1, w2, g1, g2⟩ := grow_q ho zlX_46 (by omega) hmm hK5.2.1 hK5.2.2.1 b1 hG
      have hKb := hK5.frp (g1.wk (fun a i h => Or.inl h)) (g2.wk (fun a i h => Or.inl h))
      obtain ⟨v2, M1', M12, w3, w4, g3, g4⟩ := grow_q ho zlX_46 (by omega) hm hKb.2.1 hKb.2.2.1 b1 (hG.fr ho (by omega) g1 g2)
      have gx := g1.tr g3
      have gm := g2.tr g4
      have o12 := o5.fr gm (fun i => by unfold SMg; omega) (fun i => by unfold SMg; omega)
      have hK12 := hK5.frp (gx.wk (fun a i h => Or.inl h)) (gm.wk (fun a i h => Or.inl h))
      have h35' : ∀ k, k < 3 → M12.1 35 k = nI (t3 a bb c k) := fun k hk => by rw [gm.2 35 k (by unfold SMg; omega), f5.2 35 k (by unfold SO; omega)]; exact h351 k hk
      obtain ⟨M13, e13, f13, o13⟩ := layRow_c (way := -1) (u := fun k => nI (t3 a bb c k)) (u' := fun _ => 0) hK12.2.2.1 b1 hK12.2.1.2.1.2.1 hmn hm o12 (fun k hk => by unfold upd3; rw [if_pos ⟨rfl, hk⟩]) (fun k hk => by rw [h35' k hk]; exact up_m _) (fun k hk h => by rw [h35' k hk]; exact lkm _ _)
      have o13' : OV M13 b mn base rx := o13.cg (fun _ _ _ _ => rfl) (fun p j hj => by
        unfold upd3
        by_cases z : p = o
        · rw [if_pos ⟨z, hj⟩, hrx p j hj (Or.inr (Or.inr z))]
        · rw [if_neg (by omega), if_neg (by omega)])
      have h3513 : ∀ k, k < 3 → M13.1 35 k = nI (t3 a bb c k) := fun k hk => by rw [f13.2 35 k (by unfold SO; omega)]; exact h35' k hk
      have hK13 := hK12.frp Fr.rf (f13.wk (fun a i h => Or.inr (Or.inr (Or.inr h))))
      have hR1' : RW M1' o a bb c rx := hR1.fr gx (fun i => by unfold SXg; omega)
      have rz : ∀ M k, RW M o a bb c rx → k < 3 → M.1 46 (3 * o + k) = nI (t3 a bb c k) := fun M k h hk => by rw [h o k (by omega) hk, if_pos rfl]
      have rm : ∀ M k, RW M o a bb c rx → k < 3 → M.1 46 (3 * m + k) = nI (u k) := fun M k h hk => by rw [h m k (by omega) hk, if_neg hmo, hrxu m k hk, if_pos rfl]
      have kx1 : ∀ a i, SBx a i → M1'.1 a i = M1.1 a i := fun a i h => gx.2 a i (by unfold SBx at h; unfold SXg; omega)
      have km1 : ∀ a i, SPm a i → M13.1 a i = M2.1 a i := fun a i h => by
        rw [f13.2 a i (by unfold SPm at h; unfold SO; omega), gm.2 a i (by unfold SPm at h; unfold SMg; omega), f5.2 a i (by unfold SPm at h; unfold SO; omega)]
      have hB' : (M1'.1 41 8 = 0 ∧ M13.1 0 62 = -1) ∨ PQ M1' M13 m o kd := by
        rcases hB with ⟨z1, z2⟩ | h
        · exact Or.inl ⟨(kx1 _ _ (Or.inl ⟨rfl, Or.inl rfl⟩)).trans z1, (km1 _ _ (Or.inr ⟨rfl, Or.inl rfl⟩)).trans z2⟩
        · exact Or.inr (h.fr kx1 km1)
      have fM13 : Fr (SMp mn) MM M13 := ((f2.tr (f5.wk (fun a i h => Or.inr (Or.inr (Or.inr h))))).tr (gm.wk (fun a i h => Or.inl h))).tr (f13.wk (fun a i h => Or.inr (Or.inr (Or.inr h))))
      have hsum3 : a + bb + c = t3 a bb c 0 + t3 a bb c 1 + t3 a bb c 2 := rfl
      obtain ⟨Mc, Mm, d1, d2, d3, d4, d5⟩ := consider_p (v := v1 + v2) (w := t3 a bb c) hmo hK13.2.2.1 b1 hK13.2.1.2.1.2.2.2.1 hkd hB' (fun p k hp hk => by
        rw [hR1' p k hp hk]
        by_cases z : p = o
        · rw [if_pos z, if_neg (by omega), if_pos z]
        · rw [if_neg z, hrxu p k hk, if_neg z]) (fun k hk => (fM13.2 39 k (by unfold SMp SMg SPm S35 SO; omega)).trans (h39 k hk)) h3513 hu (by omega)
      have hKc := hK13.frp (d3.wk (fun a i h => Or.inr (Or.inl h))) (d4.wk (fun a i h => Or.inr (Or.inl h)))
      have hRc : RW Mc o a bb c rx := hR1'.fr d3 (fun i => by unfold SBx; omega)
      have h35c : ∀ k, k < 3 → Mm.1 35 k = nI (t3 a bb c k) := fun k hk => by rw [d4.2 35 k (by unfold SPm; omega)]; exact h3513 k hk
      have fXc : Fr (SXl o) MX Mc := (f1.tr (gx.wk (fun a i h => Or.inl h))).tr (d3.wk (fun a i h => Or.inr (Or.inl h)))
      have fMc : Fr (SMp mn) MM Mm := fM13.tr (d4.wk (fun a i h => Or.inr (Or.inl h)))
      have hlx' : ∀ j, j < 3 → Mc.1 50 j = nI (l j) := fun j hj => (fXc.2 50 j (by unfold SXl SXg SBx S46; omega)).trans (hlx j hj)
      have hlm2 : ∀ j, j < 3 → Mm.1 41 j = nI (l j) := fun j hj => (fMc.2 41 j (by unfold SMp SMg SPm S35 SO; omega)).trans (hlm j hj)
      obtain ⟨ok, Mx, x1, x2', x3⟩ := nx_x (q := 50) (h := h3) (l := l) (M := Mc) (show o < 5 by omega) (by omega) zlX_50 hlx' hlm' (by omega) hs (rz Mc 0 hRc (by omega)) (rz Mc 1 hRc (by omega)) (rz Mc 2 hRc (by omega))
      obtain ⟨ok', My, y1, y2, y3⟩ := nx_m (q := 41) (h := h3) (l := l) (M := Mm) zlM_41 (by omega) hlm2 hlm' (by omega) hs (h35c 0 (by omega)) (h35c 1 (by omega)) (h35c 2 (by omega))
      have hBx : PQ Mx My m o kd := d5.fr (fun a i h => x2'.2 a i (by unfold SBx at h; unfold S46; omega)) (fun a i h => y2.2 a i (by unfold SPm at h; unfold S35; omega))
      have fXx : Fr (SXl o) MX Mx := fXc.tr (x2'.wk (fun a i h => Or.inr (Or.inr h)))
      have fMy : Fr (SMp mn) MM My := fMc.tr (y2.wk (fun a i h => Or.inr (Or.inr (Or.inl h))))
      have oy : OV My b mn base rx := (o13'.fr d4 (fun i => by unfold SPm; omega) (fun i => by unfold SPm; omega)).fr y2 (fun i => by unfold S35; omega) (fun i => by unfold S35; omega)
      have hrow' : ∀ a' b' c', Mx.1 46 (3 * o) = nI a' → Mx.1 46 (3 * o + 1) = nI b' → Mx.1 46 (3 * o + 2) = nI c' → RW Mx o a' b' c' rx := fun a' b' c' r0 r1 r2 p k hp hk => by
        by_cases z : p = o
        · subst z
          rw [if_pos rfl]
          exact three (P := fun k => Mx.1 46 (3 * p + k) = nI (t3 a' b' c' k)) r0 r1 r2 k hk
        · rw [if_neg z, x2'.2 46 _ (by unfold S46; omega), hRc p k hp hk, if_neg z]
      have hx : X5_findBeside_L2 (nI m) (nI o) (nI h3) (n + 1) 1 (nI i) M1 = X5_findBeside_L2 (nI m) (nI o) (nI h3) n (b2i ok) (nI (i + 1)) Mx := by
        have e2 : X5_growthOfTwo (nI m) (nI o) M1 = some (v1 + v2, M1') := by
          unfold X5_growthOfTwo
          rw [w1, bp_s, w3, bp_s]
        rw [X5_findBeside_L2, if_neg (show ¬ (165 : Int32) ≤ nI i from nI_ge (b := 165) (by omega) (by omega)), if_neg (by decide), e2, bp_s, hoursOf_c (by omega) (rm M1' 0 hR1' (by omega)) (rm M1' 1 hR1' (by omega)) (rm M1' 2 hR1' (by omega)), bo_s, hoursOf_c (by omega) (rz M1' 0 hR1' (by omega)) (rz M1' 1 hR1' (by omega)) (rz M1' 2 hR1' (by omega)), bo_s, nI_add, d1, bo_s, x1, bp_s, show nI i + 1 = nI (i + 1) from nI_add i 1]
      have hsum : ((nI (u 0 + u 1 + u 2) + (M13.1 35 0)) + (M13.1 35 1)) + (M13.1 35 2) = nI (u 0 + u 1 + u 2 + (t3 a bb c 0 + t3 a bb c 1 + t3 a bb c 2)) := by
        rw [h3513 0 (by omega), h3513 1 (by omega), h3513 2 (by omega), nI_add, nI_add, nI_add, Nat.add_assoc (u 0 + u 1 + u 2), Nat.add_assoc (u 0 + u 1 + u 2)]
      have hleft : X12_leftOf (nI o) Mm = some (nI hh) := by
        rw [leftOf_c hKc.2.2.1 b1 hKc.2.1.2.1.2.2.2.2.2.2.2.2 (by omega), hKc.2.2.2.2.2.2.1.1, nI_sub (by omega)]
        congr 2
        omega
      have hy : X12_layOther_L2 (nI m) (nI o) (nI (u 0 + u 1 + u 2)) (n' + 1) 1 M2 = X12_layOther_L2 (nI m) (nI o) (nI (u 0 + u 1 + u 2)) n' (b2i ok') My := by
        rw [other_st, e5, bo_s, w2, bp_s, w4, bp_s, e13, bo_s, hsum, d2, b1_s, hleft, bo_s, show X12_lesser 3 (nI hh) = nI h3 by rw [h3h]; exact lesser_c 3 hh (by omega) (by omega), y1, bp_s]
      rcases x3 with ⟨rfl, a', b', c', n1, r0, r1, r2⟩ | ⟨rfl, n1, r0, r1, r2⟩
      · rcases y3 with ⟨rfl, a2, b2, c2', n2, s0, s1, s2⟩ | ⟨rfl, n2, _⟩
        · rw [n1] at n2
          cases n2
          obtain ⟨k1, k2, k3, k4, k5⟩ := nxt_some (by omega) hs ha hb' hc n1
          obtain ⟨hrk2, _⟩ := rk_step a' (by omega) b' (by omega) c' (by omega) (by omega)
          exact ⟨165 - rk a' b' c', (1, nI (i + 1), Mx), (1, My), by omega, ⟨i + 1, Mx, My, true, rfl, rfl, fXx, fMy, oy, Or.inr ⟨rfl, a', b', c', by omega, rfl, k1, k3, k4, k5, hrow' a' b' c' r0 r1 r2, three s0 s1 s2, Or.inr hBx⟩⟩, hx, hy⟩
        · rw [n1] at n2
          cases n2
      · rcases y3 with ⟨rfl, a2, b2, c2', n2, s0, s1, s2⟩ | ⟨rfl, n2, _⟩
        · rw [n1] at n2
          cases n2
        · exact ⟨0, (0, nI (i + 1), Mx), (0, My), by omega, ⟨i + 1, Mx, My, false, rfl, rfl, fXx, fMy, oy, Or.inl ⟨rfl, rfl, by omega, hrow' 0 0 0 r0 r1 r2, hBx⟩⟩, hx, hy⟩
