/-! ===== phase 2: needs ===== -/
noncomputable def mCons2 (y12 c4 y14 : Int32) (M13 : Mem) : Option (Int32 × Mem) :=
      l1_ (α := Bool) (
        if y12 = 0 then
          false
        else
        if c4 < 0 then
          true
        else
        if c4 ≤ y14 then
          false
        else
        true) fun t18 =>
      if t18 = true then
        bo_ (X12_showRow 35 0 M13) fun M20 =>
        gd_ (inb (M20.1 0 41) (2) = true) (
        lt_ (uI M20 0 55 (M20.1 3 ((M20.1 0 41).toNatClampNeg))) fun M22 =>
        some (y14, M22))
      else
      some (c4, M13)
theorem needs_st {x1 x2 c4 : Int32} {n : Nat} {M : Mem} : X12_needs_L1 x1 x2 (n + 1) 1 c4 M = (bo_ (X12_layRow x1 1 M) fun M8 =>
    bp_ (X12_growthOf x1 M8) fun v9 M10 =>
    l1_ (α := Int32) (
      if v9 < x2 then
        0
      else
      1) fun y12 =>
    bo_ (X12_layRow x1 (-1) M10) fun M13 =>
    b2_ (α := Int32) (β := Mem) (mCons2 y12 c4 (((M13.1 35 0) + (M13.1 35 1)) + (M13.1 35 2)) M13) fun y23 M24 =>
    bo_ (X12_leftOf x1 M24) fun v25 =>
    bp_ (X12_nextRow 38 v25 M24) fun b26 M27 =>
    X12_needs_L1 x1 x2 n (b2i (b26)) y23 M27) := by
  rw [X12_needs_L1, if_neg (by decide)]
  rfl
/-- what was found so far, on both sides -/
def NQ (M1 : Mem) (c4 : Int32) (M2 : Mem) (m kd : Nat) (l : Nat → Nat) : Prop := M1.1 41 8 = 1 ∧ ((M1.1 41 9 = 0 ∧ c4 = -1 ∧ M2.1 0 55 = nI 0) ∨ (M1.1 41 9 = 1 ∧ ∃ w : Nat → Nat, M1.1 41 10 = nI (w 0 + w 1 + w 2) ∧ c4 = nI (w 0 + w 1 + w 2) ∧ w 0 + w 1 + w 2 ≤ 8 ∧ (∀ k, k < 3 → w k ≤ l k) ∧ (∀ k, k < 3 → M1.1 47 (3 * m + k) = nI (w k)) ∧ M2.1 0 55 = nI kd ∧ ∀ k, k < kd → M2.1 37 k = nI (w k)))
def SNm (a i : Nat) : Prop := a = 37 ∨ (a = 0 ∧ i = 55)
theorem consider_n {M1 M2 : Mem} {b m kd a bb c : Nat} {l : Nat → Nat} {v c4 : Int32} (hm : m < 5) (hb : M2.1 0 41 = nI b) (b1 : b ≤ 1) (h3 : M2.1 3 b = nI kd) (hkd : kd ≤ 3) (hv : v = 0 ∨ v = 1) (hB : (M1.1 41 8 = 0 ∧ c4 = -1 ∧ M2.1 0 55 = nI 0) ∨ NQ M1 c4 M2 m kd l) (hrow : ∀ k, k < 3 → M1.1 46 (3 * m + k) = nI (t3 a bb c k)) (h35 : ∀ k, k < 3 → M2.1 35 k = nI (t3 a bb c k)) (hs : a + bb + c ≤ 8) (hle : ∀ k, k < 3 → t3 a bb c k ≤ l k) :
    ∃ M1' c4' M2', X5_consider v (nI (a + bb + c)) M1 = some M1' ∧ mCons2 v c4 (nI (a + bb + c)) M2 = some (c4', M2') ∧ Fr SBx M1 M1' ∧ Fr SNm M2 M2' ∧ NQ M1' c4' M2' m kd l := by
  have fset : ∀ v, Fr SBx M1 (uC (uI (uI (uI M1 41 8 1) 41 9 v) 41 10 (nI (a + bb + c))) 46 47 0 0 15) := fun v => (((Fr.rf.up _ (Or.inl ⟨rfl, Or.inl rfl⟩)).up _ (Or.inl ⟨rfl, Or.inr (Or.inl rfl)⟩)).up _ (Or.inl ⟨rfl, Or.inr (Or.inr rfl)⟩)).cp (fun b _ _ => Or.inr rfl)
  -- a row that is enough, and better than what was found
  have set : ((M1.1 41 8 = 0 ∨ M1.1 41 9 < 1) ∨ ((1 : Int32) = M1.1 41 9 ∧ ¬ M1.1 41 10 ≤ nI (a + bb + c))) → (c4 < 0 ∨ ¬ c4 ≤ nI (a + bb + c)) → v = 1 → ∃ M1' c4' M2', X5_consider v (nI (a + bb + c)) M1 = some M1' ∧ mCons2 v c4 (nI (a + bb + c)) M2 = some (c4', M2') ∧ Fr SBx M1 M1' ∧ Fr SNm M2 M2' ∧ NQ M1' c4' M2' m kd l := fun q1 q2 e => by
    subst e
    obtain ⟨M20, e1, f1, g1, _⟩ := mshow_c (M := M2) (a := 35) (c0 := 0) hb b1 h3 hkd zlM_35 (by omega) (by omega)
    have e2 : mCons2 1 c4 (nI (a + bb + c)) M2 = some (nI (a + bb + c), uI M20 0 55 (nI kd)) := by
      unfold mCons2
      have et : (if (1 : Int32) = 0 then false else if c4 < 0 then true else if c4 ≤ nI (a + bb + c) then false else true) = true := by
        rw [if_neg (by decide)]
        rcases q2 with q | q
        · rw [if_pos q]
        · by_cases q' : c4 < 0
          · rw [if_pos q']
          · rw [if_neg q', if_neg q]
      rw [et, l1_s, if_pos rfl, show X12_showRow 35 0 M2 = _ from e1, bo_s, f1.2 0 41 (by omega), hb, gd_in (by omega) (by omega), nI_clamp (by omega), f1.2 3 b (by omega), h3, lt_e]
    refine ⟨_, _, _, set_x q1, e2, fset 1, (f1.wk (fun a i z => Or.inl z)).up _ (Or.inr ⟨rfl, rfl⟩), ?_, Or.inr ⟨?_, t3 a bb c, ?_, rfl, hs, hle, fun k hk => ?_, rfl, fun k hk => ?_⟩⟩
    · rw [uC_g, if_neg (by omega)]; rfl
    · rw [uC_g, if_neg (by omega)]; rfl
    · rw [uC_g, if_neg (by omega)]; rfl
    · rw [uC_g, if_pos ⟨rfl, by omega⟩, uI_ne (by omega), uI_ne (by omega), uI_ne (by omega), hrow k hk]
    · rw [uI_ne (by omega)]
      have := g1 k hk
      rw [Nat.zero_add] at this
      rw [this, h35 k (by omega)]
  have mk0 : ∀ c4, mCons2 0 c4 (nI (a + bb + c)) M2 = some (c4, M2) := fun c4 => by
    unfold mCons2
    rw [if_pos rfl, l1_s, if_neg Bool.false_ne_true]
  -- one that isn't enough, while nothing was enough
  have low : (M1.1 41 8 = 0 ∨ M1.1 41 9 = 0) → c4 = -1 → M2.1 0 55 = nI 0 → (M1.1 41 8 = 0 ∨ M1.1 41 8 = 1) → v = 0 → ∃ M1' c4' M2', X5_consider v (nI (a + bb + c)) M1 = some M1' ∧ mCons2 v c4 (nI (a + bb + c)) M2 = some (c4', M2') ∧ Fr SBx M1 M1' ∧ Fr SNm M2 M2' ∧ NQ M1' c4' M2' m kd l := fun q1 q2 q3 q4 e => by
    subst e
    by_cases c1 : M1.1 41 8 = 0
    · refine ⟨_, _, _, set_x (Or.inl (Or.inl c1)), mk0 c4, fset 0, Fr.rf, ?_, Or.inl ⟨?_, q2, q3⟩⟩
      · rw [uC_g, if_neg (by omega)]; rfl
      · rw [uC_g, if_neg (by omega)]; rfl
    · have h9 : M1.1 41 9 = 0 := q1.resolve_left c1
      have h8 : M1.1 41 8 = 1 := q4.resolve_left c1
      by_cases c2 : M1.1 41 10 ≤ nI (a + bb + c)
      · exact ⟨M1, c4, M2, keep_x c1 (by rw [h9]; decide) (fun _ => c2), mk0 c4, Fr.rf, Fr.rf, h8, Or.inl ⟨h9, q2, q3⟩⟩
      · refine ⟨_, _, _, set_x (Or.inr ⟨h9.symm, c2⟩), mk0 c4, fset 0, Fr.rf, ?_, Or.inl ⟨?_, q2, q3⟩⟩
        · rw [uC_g, if_neg (by omega)]; rfl
        · rw [uC_g, if_neg (by omega)]; rfl
  rcases hB with ⟨q1, q2, q3⟩ | hB
  · rcases hv with rfl | rfl
    · exact low (Or.inl q1) q2 q3 (Or.inl q1) rfl
    · exact set (Or.inl (Or.inl q1)) (Or.inl (by rw [q2]; decide)) rfl
  · obtain ⟨h8, ⟨h9, q2, q3⟩ | ⟨h9, w, q3, q4, q5, q6, q7, q8, q9⟩⟩ := id hB
    · rcases hv with rfl | rfl
      · exact low (Or.inr h9) q2 q3 (Or.inr h8) rfl
      · exact set (Or.inl (Or.inr (by rw [h9]; decide))) (Or.inl (by rw [q2]; decide)) rfl
    · rcases hv with rfl | rfl
      · exact ⟨M1, c4, M2, keep_x (by rw [h8]; decide) (by rw [h9]; decide) (fun z => absurd z (by rw [h9]; decide)), mk0 c4, Fr.rf, Fr.rf, hB⟩
      · by_cases c2 : M1.1 41 10 ≤ nI (a + bb + c)
        · refine ⟨M1, c4, M2, keep_x (by rw [h8]; decide) (by rw [h9]; decide) (fun _ => c2), ?_, Fr.rf, Fr.rf, hB⟩
          unfold mCons2
          rw [if_neg (by decide), q4, if_neg (nI_pos (by omega)), if_pos (by rw [← q3]; exact c2), l1_s, if_neg Bool.false_ne_true]
        · exact set (Or.inr ⟨h9.symm, c2⟩) (Or.inr (by rw [q4, ← q3]; exact c2)) rfl
def SMn (mn a i : Nat) : Prop := SMg a i ∨ SNm a i ∨ S35 a i ∨ SO mn a i
theorem SK.frn {MX MM MX' MM' : Mem} {o m b mn kd bn hr hh sp : Nat} {l : Nat → Nat} {base rx : Nat → Nat → Int32} (h : SK MX MM o m b mn kd bn hr hh sp l base rx) (fX : Fr (SXl m) MX MX') (fM : Fr (SMn mn) MM MM') : SK MX' MM' o m b mn kd bn hr hh sp l base rx := by
  have hmn := h.2.1.1.1
  exact h.fr2 fX fM (fun a i q => by unfold SXl SXg SBx S46; omega) (fun a i q => by unfold SMn SMg SNm S35 SO; omega) (by unfold SMn SMg SNm S35 SO; omega) (fun i q => by unfold SMn SMg SNm S35 SO; omega)
theorem needs_loop {MX MM : Mem} {m b mn kd bn hr hh sp : Nat} {l : Nat → Nat} {base rx : Nat → Nat → Int32} {x2 : Int32} (hK : SK MX MM 35 m b mn kd bn hr hh sp l base rx)
    (hlx : ∀ j, j < 3 → MX.1 49 j = nI (l j)) (hlm : ∀ j, j < 3 → MM.1 38 j = nI (l j)) (hR : RW MX m 0 0 0 rx) (h35 : ∀ k, k < 3 → MM.1 35 k = nI 0) (hO : OV MM b mn base rx) (hf : MX.1 41 8 = 0) (h55 : MM.1 0 55 = nI 0) :
    ∃ MX' c4 MM', X5_seek_L2 35 (nI m) 2 x2 (nI hh) zFU 1 0 MX = some MX' ∧ X12_needs_L1 (nI m) x2 zFU 1 (-1) MM = some (c4, MM') ∧ Fr (SXl m) MX MX' ∧ Fr (SMn mn) MM MM' ∧ OV MM' b mn base rx ∧ NQ MX' c4 MM' m kd l := by
  have hmn := hK.2.1.1.1
  have hkd := hK.2.1.1.2.1
  have hm := hK.2.2.2.2.1
  have hr8 := hK.2.1.1.2.2.2.2
  have key := two_zFU (σ := Int32 × Int32 × Mem) (σ' := Int32 × Int32 × Mem) (fun n s => X5_seek_L2 35 (nI m) 2 x2 (nI hh) n s.1 s.2.1 s.2.2) (fun n s => X12_needs_L1 (nI m) x2 n s.1 s.2.1 s.2.2)
    (fun d s s' => ∃ i M1 c4 M2 more, s = (b2i more, nI i, M1) ∧ s' = (b2i more, c4, M2) ∧ Fr (SXl m) MX M1 ∧ Fr (SMn mn) MM M2 ∧ OV M2 b mn base rx ∧
      ((more = false ∧ d = 0 ∧ i < 166 ∧ NQ M1 c4 M2 m kd l) ∨ (more = true ∧ ∃ a bb c, i ≤ rk a bb c ∧ d = 165 - rk a bb c ∧ a + bb + c ≤ hh ∧ a ≤ l 0 ∧ bb ≤ l 1 ∧ c ≤ l 2 ∧ RW M1 m a bb c rx ∧ (∀ k, k < 3 → M2.1 35 k = nI (t3 a bb c k)) ∧ ((M1.1 41 8 = 0 ∧ c4 = -1 ∧ M2.1 0 55 = nI 0) ∨ NQ M1 c4 M2 m kd l))))
    (fun t t' => Fr (SXl m) MX t ∧ Fr (SMn mn) MM t'.2 ∧ OV t'.2 b mn base rx ∧ NQ t t'.1 t'.2 m kd l) ?_ 165 (1, 0, MX) (1, -1, MM) (by omega)
    ⟨0, MX, -1, MM, true, rfl, rfl, Fr.rf, Fr.rf, hO, Or.inr ⟨rfl, 0, 0, 0, by omega, by decide, by omega, by omega, by omega, by omega, hR, fun k hk => by rw [h35 k hk]; exact (three (P := fun k => nI 0 = nI (t3 0 0 0 k)) rfl rfl rfl k hk), Or.inl ⟨hf, rfl, h55⟩⟩⟩
  · obtain ⟨t, t', e1, e2, q⟩ := key
    exact ⟨t, t'.1, t'.2, e1, e2, q⟩
  · rintro n n' d s s' ⟨i, M1, c4, M2, more, rfl, rfl, f1, f2, hO2, ⟨rfl, rfl, hi, hB⟩ | ⟨rfl, a, bb, c, hi, hd, hs, ha, hb', hc, hR1, h351, hB⟩⟩
    · left
      refine ⟨M1, (c4, M2), ?_, ?_, f1, f2, hO2, hB⟩
      · show X5_seek_L2 35 (nI m) 2 x2 (nI hh) (n + 1) (b2i false) (nI i) M1 = some M1
        rw [X5_seek_L2]
        by_cases h : i < 165
        · rw [if_neg (show ¬ (165 : Int32) ≤ nI i from nI_ge (b := 165) h (by omega)), if_pos (show b2i false = 0 by decide)]
        · rw [if_pos (show (165 : Int32) ≤ nI i from nI_le (a := 165) (by omega) (by omega))]
      · show X12_needs_L1 (nI m) x2 (n' + 1) (b2i false) c4 M2 = some (c4, M2)
        rw [X12_needs_L1, if_pos (show b2i false = 0 by decide)]
    · right
      have hK1 := hK.frn f1 f2
      obtain ⟨ho, hM1, hb2, b1, _, hl, ⟨hsp, hsp2, hhs⟩, hbase, hrx, hrn, hcrop, hweek⟩ := id hK1
      have hle : ∀ k, k < 3 → t3 a bb c k ≤ l k := fun k hk => t3_le ha hb' hc hk
      have hlm' : ∀ k, k < 3 → l k < 1000 := fun k hk => by have := (hl k hk).1; omega
      obtain ⟨hrk, _⟩ := rk_step a (by omega) bb (by omega) c (by omega) (by omega)
      obtain ⟨M5, e5, f5, o5⟩ := layRow_c (way := 1) (u := fun _ => 0) (u' := fun k => nI (t3 a bb c k)) hb2 b1 hM1.2.1.2.1 hmn hm hO2 (fun k hk => hrx m k hk (Or.inr (Or.inr rfl))) (fun k hk => by rw [h351 k hk]; exact up_1 _) (fun k hk h => by rw [h351 k hk]; exact lkp _ _)
      have hK5 := hK1.frn (Fr.rf) (f5.wk (fun a i h => Or.inr (Or.inr (Or.inr h))))
      have hG := hK5.gq hR1 (by omega) hle o5
      obtain ⟨v, M1', M12, w1, w2, g1, g2⟩ := grow_q ho zlX_46 (by omega) hm hK5.2.1 hK5.2.2.1 b1 hG
      have o12 := o5.fr g2 (fun i => by unfold SMg; omega) (fun i => by unfold SMg; omega)
      have hK12 := hK5.frn (g1.wk (fun a i h => Or.inl h)) (g2.wk (fun a i h => Or.inl h))
      have h35' : ∀ k, k < 3 → M12.1 35 k = nI (t3 a bb c k) := fun k hk => by rw [g2.2 35 k (by unfold SMg; omega), f5.2 35 k (by unfold SO; omega)]; exact h351 k hk
      obtain ⟨M13, e13, f13, o13⟩ := layRow_c (way := -1) (u := fun k => nI (t3 a bb c k)) (u' := fun _ => 0) hK12.2.2.1 b1 hK12.2.1.2.1.2.1 hmn hm o12 (fun k hk => by unfold upd3; rw [if_pos ⟨rfl, hk⟩]) (fun k hk => by rw [h35' k hk]; exact up_m _) (fun k hk h => by rw [h35' k hk]; exact lkm _ _)
      have o13' : OV M13 b mn base rx := o13.cg (fun _ _ _ _ => rfl) (fun p j hj => by
        unfold upd3
        by_cases z : p = m
        · rw [if_pos ⟨z, hj⟩, hrx p j hj (Or.inr (Or.inr z))]
        · rw [if_neg (by omega), if_neg (by omega)])
      have h3513 : ∀ k, k < 3 → M13.1 35 k = nI (t3 a bb c k) := fun k hk => by rw [f13.2 35 k (by unfold SO; omega)]; exact h35' k hk
      have hK13 := hK12.frn Fr.rf (f13.wk (fun a i h => Or.inr (Or.inr (Or.inr h))))
      have hR1' : RW M1' m a bb c rx := hR1.fr g1 (fun i => by unfold SXg; omega)
      have rz : ∀ M k, RW M m a bb c rx → k < 3 → M.1 46 (3 * m + k) = nI (t3 a bb c k) := fun M k h hk => by rw [h m k (by omega) hk, if_pos rfl]
      have kx1 : ∀ a i, SBx a i → M1'.1 a i = M1.1 a i := fun a i h => g1.2 a i (by unfold SBx at h; unfold SXg; omega)
      have km1 : ∀ a i, SNm a i → M13.1 a i = M2.1 a i := fun a i h => by
        rw [f13.2 a i (by unfold SNm at h; unfold SO; omega), g2.2 a i (by unfold SNm at h; unfold SMg; omega), f5.2 a i (by unfold SNm at h; unfold SO; omega)]
      have nq : ∀ (A B A' B' : Mem) (c4 : Int32), (∀ a i, SBx a i → B.1 a i = A.1 a i) → (∀ a i, SNm a i → B'.1 a i = A'.1 a i) → NQ A c4 A' m kd l → NQ B c4 B' m kd l := fun A B A' B' c4 kx km h => by
        have z8 := kx 41 8 (Or.inl ⟨rfl, Or.inl rfl⟩)
        have z9 := kx 41 9 (Or.inl ⟨rfl, Or.inr (Or.inl rfl)⟩)
        have z10 := kx 41 10 (Or.inl ⟨rfl, Or.inr (Or.inr rfl)⟩)
        have z47 := fun j => kx 47 j (Or.inr rfl)
        have z55 := km 0 55 (Or.inr ⟨rfl, rfl⟩)
        have z37 := fun j => km 37 j (Or.inl rfl)
        unfold NQ at h ⊢
        simp only [z8, z9, z10, z47, z55, z37]
        exact h
      have hB' : (M1'.1 41 8 = 0 ∧ c4 = -1 ∧ M13.1 0 55 = nI 0) ∨ NQ M1' c4 M13 m kd l := by
        rcases hB with ⟨z1, z2, z3⟩ | h
        · exact Or.inl ⟨(kx1 _ _ (Or.inl ⟨rfl, Or.inl rfl⟩)).trans z1, z2, (km1 _ _ (Or.inr ⟨rfl, rfl⟩)).trans z3⟩
        · exact Or.inr (nq _ _ _ _ _ kx1 km1 h)
      obtain ⟨y12, hy12, hy01⟩ : ∃ y : Int32, (if v < x2 then (0 : Int32) else 1) = y ∧ (y = 0 ∨ y = 1) := by
        by_cases z : v < x2
        · exact ⟨0, if_pos z, Or.inl rfl⟩
        · exact ⟨1, if_neg z, Or.inr rfl⟩
      obtain ⟨Mc, c4', Mm, d1, d2, d3, d4, d5⟩ := consider_n (v := y12) (show m < 5 by omega) hK13.2.2.1 b1 hK13.2.1.2.1.2.2.2.1 hkd hy01 hB' (fun k hk => rz M1' k hR1' hk) h3513 (by omega) hle
      have hKc := hK13.frn (d3.wk (fun a i h => Or.inr (Or.inl h))) (d4.wk (fun a i h => Or.inr (Or.inl h)))
      have hRc : RW Mc m a bb c rx := hR1'.fr d3 (fun i => by unfold SBx; omega)
      have h35c : ∀ k, k < 3 → Mm.1 35 k = nI (t3 a bb c k) := fun k hk => by rw [d4.2 35 k (by unfold SNm; omega)]; exact h3513 k hk
      have fXc : Fr (SXl m) MX Mc := (f1.tr (g1.wk (fun a i h => Or.inl h))).tr (d3.wk (fun a i h => Or.inr (Or.inl h)))
      have fMc : Fr (SMn mn) MM Mm := (((f2.tr (f5.wk (fun a i h => Or.inr (Or.inr (Or.inr h))))).tr (g2.wk (fun a i h => Or.inl h))).tr (f13.wk (fun a i h => Or.inr (Or.inr (Or.inr h))))).tr (d4.wk (fun a i h => Or.inr (Or.inl h)))
      have hlx' : ∀ j, j < 3 → Mc.1 49 j = nI (l j) := fun j hj => (fXc.2 49 j (by unfold SXl SXg SBx S46; omega)).trans (hlx j hj)
      have hlm2 : ∀ j, j < 3 → Mm.1 38 j = nI (l j) := fun j hj => (fMc.2 38 j (by unfold SMn SMg SNm S35 SO; omega)).trans (hlm j hj)
      obtain ⟨ok, Mx, x1, x2', x3⟩ := nx_x (q := 49) (h := hh) (l := l) (M := Mc) (show m < 5 by omega) (by omega) zlX_49 hlx' hlm' (by omega) hs (rz Mc 0 hRc (by omega)) (rz Mc 1 hRc (by omega)) (rz Mc 2 hRc (by omega))
      obtain ⟨ok', My, y1, y2, y3⟩ := nx_m (q := 38) (h := hh) (l := l) (M := Mm) zlM_38 (by omega) hlm2 hlm' (by omega) hs (h35c 0 (by omega)) (h35c 1 (by omega)) (h35c 2 (by omega))
      have hBx : NQ Mx c4' My m kd l := nq _ _ _ _ _ (fun a i h => x2'.2 a i (by unfold SBx at h; unfold S46; omega)) (fun a i h => y2.2 a i (by unfold SNm at h; unfold S35; omega)) d5
      have fXx : Fr (SXl m) MX Mx := fXc.tr (x2'.wk (fun a i h => Or.inr (Or.inr h)))
      have fMy : Fr (SMn mn) MM My := fMc.tr (y2.wk (fun a i h => Or.inr (Or.inr (Or.inl h))))
      have oy : OV My b mn base rx := (o13'.fr d4 (fun i => by unfold SNm; omega) (fun i => by unfold SNm; omega)).fr y2 (fun i => by unfold S35; omega) (fun i => by unfold S35; omega)
      have hw : X5_worthOf 35 (nI m) 2 x2 M1 = some (y12, M1') := by
        unfold X5_worthOf
        rw [if_neg (by decide), w1, bp_s, if_pos rfl, ← hy12]
        by_cases z : v < x2
        · rw [if_pos z, if_pos z]
        · rw [if_neg z, if_neg z]
      have hx : X5_seek_L2 35 (nI m) 2 x2 (nI hh) (n + 1) 1 (nI i) M1 = X5_seek_L2 35 (nI m) 2 x2 (nI hh) n (b2i ok) (nI (i + 1)) Mx := by
        rw [X5_seek_L2, if_neg (show ¬ (165 : Int32) ≤ nI i from nI_ge (b := 165) (by omega) (by omega)), if_neg (by decide), hw, bp_s, hoursOf_c (by omega) (rz M1' 0 hR1' (by omega)) (rz M1' 1 hR1' (by omega)) (rz M1' 2 hR1' (by omega)), bo_s]
        rw [t3_0, t3_1, t3_2, d1, bo_s, x1, bp_s, show nI i + 1 = nI (i + 1) from nI_add i 1]
      have hsum : ((M13.1 35 0) + (M13.1 35 1)) + (M13.1 35 2) = nI (a + bb + c) := by
        rw [h3513 0 (by omega), h3513 1 (by omega), h3513 2 (by omega), t3_0, t3_1, t3_2, nI_add, nI_add]
      have hleft : X12_leftOf (nI m) Mm = some (nI hh) := by
        rw [leftOf_c hKc.2.2.1 b1 hKc.2.1.2.1.2.2.2.2.2.2.2.2 (by omega), hKc.2.2.2.2.2.2.1.1, nI_sub (by omega)]
        congr 2
        omega
      have hy : X12_needs_L1 (nI m) x2 (n' + 1) 1 c4 M2 = X12_needs_L1 (nI m) x2 n' (b2i ok') c4' My := by
        rw [needs_st, e5, bo_s, w2, bp_s, hy12, l1_s, e13, bo_s, hsum, d2, b2_s, hleft, bo_s, y1, bp_s]
      rcases x3 with ⟨rfl, a', b', c', n1, r0, r1, r2⟩ | ⟨rfl, n1, r0, r1, r2⟩
      · rcases y3 with ⟨rfl, a2, b2, c2', n2, s0, s1, s2⟩ | ⟨rfl, n2, _⟩
        · rw [n1] at n2
          cases n2
          obtain ⟨k1, k2, k3, k4, k5⟩ := nxt_some (by omega) hs ha hb' hc n1
          obtain ⟨hrk2, _⟩ := rk_step a' (by omega) b' (by omega) c' (by omega) (by omega)
          refine ⟨165 - rk a' b' c', (1, nI (i + 1), Mx), (1, c4', My), by omega, ⟨i + 1, Mx, c4', My, true, rfl, rfl, fXx, fMy, oy, Or.inr ⟨rfl, a', b', c', by omega, rfl, k1, k3, k4, k5, ?_, ?_, Or.inr hBx⟩⟩, hx, hy⟩
          · intro p k hp hk
            by_cases z : p = m
            · subst z
              rw [if_pos rfl]
              exact three (P := fun k => Mx.1 46 (3 * p + k) = nI (t3 a' b' c' k)) r0 r1 r2 k hk
            · rw [if_neg z, x2'.2 46 _ (by unfold S46; omega), hRc p k hp hk, if_neg z]
          · exact three s0 s1 s2
        · rw [n1] at n2
          cases n2
      · rcases y3 with ⟨rfl, a2, b2, c2', n2, s0, s1, s2⟩ | ⟨rfl, n2, _⟩
        · rw [n1] at n2
          cases n2
        · refine ⟨0, (0, nI (i + 1), Mx), (0, c4', My), by omega, ⟨i + 1, Mx, c4', My, false, rfl, rfl, fXx, fMy, oy, Or.inl ⟨rfl, rfl, by omega, hBx⟩⟩, hx, hy⟩
