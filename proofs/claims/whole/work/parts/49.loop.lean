/-! ===== phase 2: the search for the best row, in step ===== -/
/-- what both sides see while rows of man m are tried: state o of the class; base over the plots, rx the others' rows -/
def SK (MX MM : Mem) (o m b mn kd bn hr hh sp : Nat) (l : Nat → Nat) (base rx : Nat → Nat → Int32) : Prop :=
  (o = 35 ∨ o = 42) ∧ RM MX.1 23 MM.1 b mn kd bn hr ∧ MM.1 0 41 = nI b ∧ b ≤ 1 ∧ m < mn ∧
  (∀ j, j < 3 → l j ≤ 200 ∧ (kd ≤ j → l j = 0)) ∧
  (MM.1 33 (35 + m) = nI sp ∧ sp ≤ hr ∧ hh + sp = hr) ∧
  (∀ p k, p < mn → k < 3 → MX.1 (o + 1) (15 + (3 * p + k)) = base p k ∧ (kd ≤ k → base p k = 0)) ∧
  (∀ p k, k < 3 → mn ≤ p ∨ kd ≤ k ∨ p = m → rx p k = 0) ∧ (∀ p k, p < 5 → k < 3 → ∃ n, n < 1000 ∧ rx p k = nI n) ∧
  (∀ p, p < mn → MX.1 (o + 1) (30 + p) = MM.1 33 (15 + p)) ∧ MX.1 (o + 1) 40 = MM.1 33 40
/-- scratch of the search -/
def SXl (m a i : Nat) : Prop := SXg a i ∨ SBx a i ∨ S46 m a i
def SMl (mn a i : Nat) : Prop := SMg a i ∨ SBm a i ∨ S35 a i ∨ SO mn a i
theorem SK.fr {MX MM MX' MM' : Mem} {o m b mn kd bn hr hh sp : Nat} {l : Nat → Nat} {base rx : Nat → Nat → Int32} (h : SK MX MM o m b mn kd bn hr hh sp l base rx) (fX : Fr (SXl m) MX MX') (fM : Fr (SMl mn) MM MM') : SK MX' MM' o m b mn kd bn hr hh sp l base rx := by
  obtain ⟨h1, h2, h3, h4, h5, h6, ⟨h7, h7'⟩, h8, h9, h10, h11, h12⟩ := h
  have hmn := h2.1.1
  have kX : ∀ a i, a = 36 ∨ a = 43 ∨ (23 ≤ a ∧ a ≤ 33) → ¬ SXl m a i := fun a i q => by unfold SXl SXg SBx S46; omega
  have kM : ∀ a i, (3 ≤ a ∧ a ≤ 29) → ¬ SMl mn a i := fun a i q => by unfold SMl SMg SBm S35 SO; omega
  have kM2 : ∀ i, (i < 20 ∨ 35 ≤ i) → ¬ SMl mn 33 i := fun i q => by unfold SMl SMg SBm S35 SO; omega
  refine ⟨h1, h2.fg fX fM (fun a i q1 q2 => kX a i (by omega)) (fun a i q1 q2 => kM a i (by omega)), (fM.2 0 41 (by unfold SMl SMg SBm S35 SO; omega)).trans h3, h4, h5, h6, ⟨(fM.2 33 _ (kM2 _ (by omega))).trans h7, h7'⟩, fun p k hp hk => ?_, h9, h10, fun p hp => ?_, ?_⟩
  · rw [fX.2 _ _ (kX _ _ (by omega))]; exact h8 p k hp hk
  · rw [fX.2 _ _ (kX _ _ (by omega)), fM.2 _ _ (kM2 _ (by omega))]; exact h11 p hp
  · rw [fX.2 _ _ (kX _ _ (by omega)), fM.2 _ _ (kM2 _ (by omega))]; exact h12
/-- the rows of the class -/
def RW (M : Mem) (m a bb c : Nat) (rx : Nat → Nat → Int32) : Prop := ∀ p k, p < 5 → k < 3 → M.1 46 (3 * p + k) = if p = m then nI (t3 a bb c k) else rx p k
theorem RW.nn {M : Mem} {m a bb c : Nat} {rx : Nat → Nat → Int32} (h : RW M m a bb c rx) (hs : a + bb + c ≤ 8) (hn : ∀ p k, p < 5 → k < 3 → ∃ n, n < 1000 ∧ rx p k = nI n) : NN M 46 := fun i hi => by
  have e : i = 3 * (i / 3) + i % 3 := by omega
  rw [e, h (i / 3) (i % 3) (by omega) (by omega)]
  by_cases q : i / 3 = m
  · rw [if_pos q]
    refine ⟨_, ?_, rfl⟩
    unfold t3
    split
    · omega
    · split <;> omega
  · rw [if_neg q]
    obtain ⟨n, h1, h2⟩ := hn (i / 3) (i % 3) (by omega) (by omega)
    exact ⟨n, by omega, h2⟩
theorem RW.fr {M M' : Mem} {m a bb c : Nat} {rx : Nat → Nat → Int32} {S : Nat → Nat → Prop} (h : RW M m a bb c rx) (f : Fr S M M') (hS : ∀ i, ¬ S 46 i) : RW M' m a bb c rx := fun p k hp hk => by
  rw [f.2 46 _ (hS _)]; exact h p k hp hk
theorem t3_le {a bb c k : Nat} {l : Nat → Nat} (h0 : a ≤ l 0) (h1 : bb ≤ l 1) (h2 : c ≤ l 2) (hk : k < 3) : t3 a bb c k ≤ l k := by
  rcases (by omega : k = 0 ∨ k = 1 ∨ k = 2) with rfl | rfl | rfl
  · exact h0
  · exact h1
  · exact h2
/-- with the row laid, both see the same -/
theorem SK.gq {MX MM : Mem} {o m b mn kd bn hr hh sp a bb c : Nat} {l : Nat → Nat} {base rx : Nat → Nat → Int32} (h : SK MX MM o m b mn kd bn hr hh sp l base rx) (hR : RW MX m a bb c rx) (hs : a + bb + c ≤ 8) (hle : ∀ k, k < 3 → t3 a bb c k ≤ l k) (hO : OV MM b mn base (upd3 rx m (fun k => nI (t3 a bb c k)))) : GQ MX MM o 46 mn kd := by
  obtain ⟨h1, h2, h3, h4, h5, h6, ⟨h7, h7'⟩, h8, h9, h10, h11, h12⟩ := h
  have hmn := h2.1.1
  refine ⟨hR.nn hs h10, fun p hp => ⟨fun k hk => ?_, h11 p hp⟩, h12⟩
  refine LF_ov hO hp hmn hk (h8 p k hp hk).1 (fun q hq => ?_) (fun q hq => ?_) (fun q hq => h2.2.2.2.2.2.1 q hq) (fun hkd => ⟨(h8 p k hp hk).2 hkd, fun q => ?_⟩)
  · rw [hR q k hq hk]
    unfold upd3
    by_cases z : q = m
    · rw [if_pos z, if_pos ⟨z, hk⟩]
    · rw [if_neg z, if_neg (by omega)]
  · unfold upd3
    rw [if_neg (by omega)]
    exact h9 q k hk (Or.inl hq)
  · unfold upd3
    by_cases z : q = m
    · rw [if_pos ⟨z, hk⟩]
      have := hle k hk
      have := (h6 k hk).2 hkd
      show nI (t3 a bb c k) = 0
      rw [show t3 a bb c k = 0 by omega]
      rfl
    · rw [if_neg (by omega)]
      exact h9 q k hk (Or.inr (Or.inl hkd))
theorem worth_q {MX MM : Mem} {o m b mn kd bn hr aim : Nat} (ho : o = 35 ∨ o = 42) (haim : aim = 0 ∨ aim = 1) (hm : m < mn) (hM : RM MX.1 23 MM.1 b mn kd bn hr) (hb : MM.1 0 41 = nI b) (b1 : b ≤ 1) (hG : GQ MX MM o 46 mn kd) :
    ∃ v MX' MM', X5_worthOf o (nI m) (nI aim) 0 MX = some (v, MX') ∧ (
      if nI aim = 0 then
        bp_ (X12_growthOf (nI m) MM) fun v9 M10 =>
        some (v9, M10)
      else
      bp_ (X12_growths MM) fun v7 M8 =>
      some (v7, M8)) = some (v, MM') ∧ Fr SXg MX MX' ∧ Fr SMg MM MM' := by
  unfold X5_worthOf
  rcases haim with rfl | rfl
  · obtain ⟨v, M3, M4, g1, g2, g3, g4⟩ := grow_q ho zlX_46 (by omega) hm hM hb b1 hG
    refine ⟨v, M3, M4, ?_, ?_, g3, g4⟩
    · rw [if_neg (by decide), g1, bp_s, if_neg (by decide)]
    · rw [if_pos (by decide), g2, bp_s]
  · obtain ⟨v, M3, M4, g1, g2, g3, g4⟩ := all_q ho hM hb b1 hG
    refine ⟨v, M3, M4, ?_, ?_, g3, g4⟩
    · rw [if_pos (by decide), g1, bp_s]
    · rw [if_neg (by decide), g2, bp_s]
theorem seek_loop {MX MM : Mem} {o m b mn kd bn hr hh sp aim : Nat} {l : Nat → Nat} {base rx : Nat → Nat → Int32} (hK : SK MX MM o m b mn kd bn hr hh sp l base rx) (haim : aim = 0 ∨ aim = 1)
    (hlx : ∀ j, j < 3 → MX.1 49 j = nI (l j)) (hlm : ∀ j, j < 3 → MM.1 38 j = nI (l j)) (hR : RW MX m 0 0 0 rx) (h35 : ∀ k, k < 3 → MM.1 35 k = nI 0) (hO : OV MM b mn base rx) (hf : MX.1 41 8 = 0) (hbh : MM.1 0 56 = -1) :
    ∃ MX' MM', X5_seek_L2 o (nI m) (nI aim) 0 (nI hh) zFU 1 0 MX = some MX' ∧ X12_layBest_L1 (nI m) (nI aim) zFU 1 MM = some MM' ∧ Fr (SXl m) MX MX' ∧ Fr (SMl mn) MM MM' ∧ OV MM' b mn base rx ∧ BQ MX' MM' m l rx := by
  have hmn := hK.2.1.1.1
  have hm := hK.2.2.2.2.1
  have hr8 := hK.2.1.1.2.2.2.2
  have key := two_zFU (σ := Int32 × Int32 × Mem) (σ' := Int32 × Mem) (fun n s => X5_seek_L2 o (nI m) (nI aim) 0 (nI hh) n s.1 s.2.1 s.2.2) (fun n s => X12_layBest_L1 (nI m) (nI aim) n s.1 s.2)
    (fun d s s' => ∃ i M1 M2 more, s = (b2i more, nI i, M1) ∧ s' = (b2i more, M2) ∧ Fr (SXl m) MX M1 ∧ Fr (SMl mn) MM M2 ∧ OV M2 b mn base rx ∧
      ((more = false ∧ d = 0 ∧ i < 166 ∧ BQ M1 M2 m l rx) ∨ (more = true ∧ ∃ a bb c, i ≤ rk a bb c ∧ d = 165 - rk a bb c ∧ a + bb + c ≤ hh ∧ a ≤ l 0 ∧ bb ≤ l 1 ∧ c ≤ l 2 ∧ RW M1 m a bb c rx ∧ (∀ k, k < 3 → M2.1 35 k = nI (t3 a bb c k)) ∧ ((M1.1 41 8 = 0 ∧ M2.1 0 56 = -1) ∨ BQ M1 M2 m l rx))))
    (fun t t' => Fr (SXl m) MX t ∧ Fr (SMl mn) MM t' ∧ OV t' b mn base rx ∧ BQ t t' m l rx) ?_ 165 (1, 0, MX) (1, MM) (by omega)
    ⟨0, MX, MM, true, rfl, rfl, Fr.rf, Fr.rf, hO, Or.inr ⟨rfl, 0, 0, 0, by omega, by decide, by omega, by omega, by omega, by omega, hR, fun k hk => by rw [h35 k hk]; exact (three (P := fun k => nI 0 = nI (t3 0 0 0 k)) rfl rfl rfl k hk), Or.inl ⟨hf, hbh⟩⟩⟩
  · obtain ⟨t, t', e1, e2, q⟩ := key
    exact ⟨t, t', e1, e2, q⟩
  · rintro n n' d s s' ⟨i, M1, M2, more, rfl, rfl, f1, f2, hO2, ⟨rfl, rfl, hi, hB⟩ | ⟨rfl, a, bb, c, hi, hd, hs, ha, hb', hc, hR1, h351, hB⟩⟩
    · left
      refine ⟨M1, M2, ?_, ?_, f1, f2, hO2, hB⟩
      · show X5_seek_L2 o (nI m) (nI aim) 0 (nI hh) (n + 1) (b2i false) (nI i) M1 = some M1
        rw [X5_seek_L2]
        by_cases h : i < 165
        · rw [if_neg (show ¬ (165 : Int32) ≤ nI i from nI_ge (b := 165) h (by omega)), if_pos (show b2i false = 0 by decide)]
        · rw [if_pos (show (165 : Int32) ≤ nI i from nI_le (a := 165) (by omega) (by omega))]
      · show X12_layBest_L1 (nI m) (nI aim) (n' + 1) (b2i false) M2 = some M2
        rw [X12_layBest_L1, if_pos (show b2i false = 0 by decide)]
    · right
      have hK1 := hK.fr f1 f2
      obtain ⟨ho, hM1, hb2, b1, _, hl, ⟨hsp, hsp2, hhs⟩, hbase, hrx, hrn, hcrop, hweek⟩ := id hK1
      have hle : ∀ k, k < 3 → t3 a bb c k ≤ l k := fun k hk => t3_le ha hb' hc hk
      have hlm' : ∀ k, k < 3 → l k < 1000 := fun k hk => by have := (hl k hk).1; omega
      obtain ⟨hrk, _⟩ := rk_step a (by omega) bb (by omega) c (by omega) (by omega)
      -- lay the row
      obtain ⟨M5, e5, f5, o5⟩ := layRow_c (way := 1) (u := fun _ => 0) (u' := fun k => nI (t3 a bb c k)) hb2 b1 hM1.2.1.2.1 hmn hm hO2 (fun k hk => hrx m k hk (Or.inr (Or.inr rfl))) (fun k hk => by rw [h351 k hk]; exact up_1 _) (fun k hk h => by rw [h351 k hk]; exact lkp _ _)
      have hK5 := hK1.fr (Fr.rf) (f5.wk (fun a i h => Or.inr (Or.inr (Or.inr h))))
      have hG := hK5.gq hR1 (by omega) hle o5
      obtain ⟨v, M1', M12, w1, w2, g1, g2⟩ := worth_q ho haim hm hK5.2.1 hK5.2.2.1 b1 hG
      -- take it away
      have o12 := o5.fr g2 (fun i => by unfold SMg; omega) (fun i => by unfold SMg; omega)
      have hK12 := hK5.fr (g1.wk (fun a i h => Or.inl h)) (g2.wk (fun a i h => Or.inl h))
      have h35' : ∀ k, k < 3 → M12.1 35 k = nI (t3 a bb c k) := fun k hk => by rw [g2.2 35 k (by unfold SMg; omega), f5.2 35 k (by unfold SO; omega)]; exact h351 k hk
      obtain ⟨M13, e13, f13, o13⟩ := layRow_c (way := -1) (u := fun k => nI (t3 a bb c k)) (u' := fun _ => 0) hK12.2.2.1 b1 hK12.2.1.2.1.2.1 hmn hm o12 (fun k hk => by unfold upd3; rw [if_pos ⟨rfl, hk⟩]) (fun k hk => by rw [h35' k hk]; exact up_m _) (fun k hk h => by rw [h35' k hk]; exact lkm _ _)
      have o13' : OV M13 b mn base rx := o13.cg (fun _ _ _ _ => rfl) (fun p j hj => by
        unfold upd3
        by_cases z : p = m
        · rw [if_pos ⟨z, hj⟩, hrx p j hj (Or.inr (Or.inr z))]
        · rw [if_neg (by omega), if_neg (by omega)])
      have h3513 : ∀ k, k < 3 → M13.1 35 k = nI (t3 a bb c k) := fun k hk => by rw [f13.2 35 k (by unfold SO; omega)]; exact h35' k hk
      have hK13 := hK12.fr Fr.rf (f13.wk (fun a i h => Or.inr (Or.inr (Or.inr h))))
      have hR1' : RW M1' m a bb c rx := hR1.fr g1 (fun i => by unfold SXg; omega)
      -- as good as the best so far
      have hB' : (M1'.1 41 8 = 0 ∧ M13.1 0 56 = -1) ∨ BQ M1' M13 m l rx := by
        have kx : ∀ a i, SBx a i → M1'.1 a i = M1.1 a i := fun a i h => g1.2 a i (by unfold SBx at h; unfold SXg; omega)
        have km : ∀ a i, SBm a i → M13.1 a i = M2.1 a i := fun a i h => by
          rw [f13.2 a i (by unfold SBm at h; unfold SO; omega), g2.2 a i (by unfold SBm at h; unfold SMg; omega), f5.2 a i (by unfold SBm at h; unfold SO; omega)]
        rcases hB with ⟨z1, z2⟩ | ⟨z1, z2, w, z3, z4, z5, z6, z7, z8⟩
        · left
          exact ⟨(kx _ _ (Or.inl ⟨rfl, Or.inl rfl⟩)).trans z1, (km _ _ (Or.inl ⟨rfl, Or.inl rfl⟩)).trans z2⟩
        · right
          refine ⟨(kx _ _ (Or.inl ⟨rfl, Or.inl rfl⟩)).trans z1, ?_, w, (kx _ _ (Or.inl ⟨rfl, Or.inr (Or.inr rfl)⟩)).trans z3, (km _ _ (Or.inl ⟨rfl, Or.inl rfl⟩)).trans z4, z5, z6, fun p k hp hk => (kx _ _ (Or.inr rfl)).trans (z7 p k hp hk), fun k hk => (km _ _ (Or.inr rfl)).trans (z8 k hk)⟩
          rw [kx _ _ (Or.inl ⟨rfl, Or.inr (Or.inl rfl)⟩), km _ _ (Or.inl ⟨rfl, Or.inr rfl⟩)]
          exact z2
      obtain ⟨Mc, Mm, c1, c2, c3, c4, c5⟩ := consider_c (v := v) hB' hR1' h3513 (by omega) hle
      -- the next row
      have hKc := hK13.fr (c3.wk (fun a i h => Or.inr (Or.inl h))) (c4.wk (fun a i h => Or.inr (Or.inl h)))
      have hRc : RW Mc m a bb c rx := hR1'.fr c3 (fun i => by unfold SBx; omega)
      have h35c : ∀ k, k < 3 → Mm.1 35 k = nI (t3 a bb c k) := fun k hk => by rw [c4.2 35 k (by unfold SBm; omega)]; exact h3513 k hk
      have fXc : Fr (SXl m) MX Mc := (f1.tr (g1.wk (fun a i h => Or.inl h))).tr (c3.wk (fun a i h => Or.inr (Or.inl h)))
      have fMc : Fr (SMl mn) MM Mm := (((f2.tr (f5.wk (fun a i h => Or.inr (Or.inr (Or.inr h))))).tr (g2.wk (fun a i h => Or.inl h))).tr (f13.wk (fun a i h => Or.inr (Or.inr (Or.inr h))))).tr (c4.wk (fun a i h => Or.inr (Or.inl h)))
      have hlx' : ∀ j, j < 3 → Mc.1 49 j = nI (l j) := fun j hj => (fXc.2 49 j (by unfold SXl SXg SBx S46; omega)).trans (hlx j hj)
      have hlm2 : ∀ j, j < 3 → Mm.1 38 j = nI (l j) := fun j hj => (fMc.2 38 j (by unfold SMl SMg SBm S35 SO; omega)).trans (hlm j hj)
      have rz : ∀ M k, RW M m a bb c rx → k < 3 → M.1 46 (3 * m + k) = nI (t3 a bb c k) := fun M k h hk => by rw [h m k (by omega) hk, if_pos rfl]
      obtain ⟨ok, Mx, x1, x2, x3⟩ := nx_x (q := 49) (h := hh) (l := l) (M := Mc) (show m < 5 by omega) (by omega) zlX_49 hlx' hlm' (by omega) hs (rz Mc 0 hRc (by omega)) (rz Mc 1 hRc (by omega)) (rz Mc 2 hRc (by omega))
      obtain ⟨ok', My, y1, y2, y3⟩ := nx_m (q := 38) (h := hh) (l := l) (M := Mm) zlM_38 (by omega) hlm2 hlm' (by omega) hs (h35c 0 (by omega)) (h35c 1 (by omega)) (h35c 2 (by omega))
      have hBx : BQ Mx My m l rx := by
        obtain ⟨z1, z2, w, z3, z4, z5, z6, z7, z8⟩ := c5
        have kx : ∀ a i, SBx a i → Mx.1 a i = Mc.1 a i := fun a i h => x2.2 a i (by unfold SBx at h; unfold S46; omega)
        have km : ∀ a i, SBm a i → My.1 a i = Mm.1 a i := fun a i h => y2.2 a i (by unfold SBm at h; unfold S35; omega)
        refine ⟨(kx _ _ (Or.inl ⟨rfl, Or.inl rfl⟩)).trans z1, ?_, w, (kx _ _ (Or.inl ⟨rfl, Or.inr (Or.inr rfl)⟩)).trans z3, (km _ _ (Or.inl ⟨rfl, Or.inl rfl⟩)).trans z4, z5, z6, fun p k hp hk => (kx _ _ (Or.inr rfl)).trans (z7 p k hp hk), fun k hk => (km _ _ (Or.inr rfl)).trans (z8 k hk)⟩
        rw [kx _ _ (Or.inl ⟨rfl, Or.inr (Or.inl rfl)⟩), km _ _ (Or.inl ⟨rfl, Or.inr rfl⟩)]
        exact z2
      have fXx : Fr (SXl m) MX Mx := fXc.tr (x2.wk (fun a i h => Or.inr (Or.inr h)))
      have fMy : Fr (SMl mn) MM My := fMc.tr (y2.wk (fun a i h => Or.inr (Or.inr (Or.inl h))))
      have oy : OV My b mn base rx := (o13'.fr c4 (fun i => by unfold SBm; omega) (fun i => by unfold SBm; omega)).fr y2 (fun i => by unfold S35; omega) (fun i => by unfold S35; omega)
      have hx : X5_seek_L2 o (nI m) (nI aim) 0 (nI hh) (n + 1) 1 (nI i) M1 = X5_seek_L2 o (nI m) (nI aim) 0 (nI hh) n (b2i ok) (nI (i + 1)) Mx := by
        rw [X5_seek_L2, if_neg (show ¬ (165 : Int32) ≤ nI i from nI_ge (b := 165) (by omega) (by omega)), if_neg (by decide), w1, bp_s, hoursOf_c (by omega) (rz M1' 0 hR1' (by omega)) (rz M1' 1 hR1' (by omega)) (rz M1' 2 hR1' (by omega)), bo_s]
        rw [t3_0, t3_1, t3_2, c1, bo_s, x1, bp_s, show nI i + 1 = nI (i + 1) from nI_add i 1]
      have hsum : ((M13.1 35 0) + (M13.1 35 1)) + (M13.1 35 2) = nI (a + bb + c) := by
        rw [h3513 0 (by omega), h3513 1 (by omega), h3513 2 (by omega), t3_0, t3_1, t3_2, nI_add, nI_add]
      have hleft : X12_leftOf (nI m) Mm = some (nI hh) := by
        rw [leftOf_c hKc.2.2.1 b1 hKc.2.1.2.1.2.2.2.2.2.2.2.2 (by omega), hKc.2.2.2.2.2.2.1.1, nI_sub (by omega)]
        congr 2
        omega
      have hy : X12_layBest_L1 (nI m) (nI aim) (n' + 1) 1 M2 = X12_layBest_L1 (nI m) (nI aim) n' (b2i ok') My := by
        rw [layBest_st, e5, bo_s, w2, b2_s, e13, bo_s, hsum, c2, b1_s, hleft, bo_s, y1, bp_s]
      rcases x3 with ⟨rfl, a', b', c', n1, r0, r1, r2⟩ | ⟨rfl, n1, r0, r1, r2⟩
      · rcases y3 with ⟨rfl, a2, b2, c2', n2, s0, s1, s2⟩ | ⟨rfl, n2, _⟩
        · rw [n1] at n2
          cases n2
          obtain ⟨k1, k2, k3, k4, k5⟩ := nxt_some (by omega) hs ha hb' hc n1
          obtain ⟨hrk2, _⟩ := rk_step a' (by omega) b' (by omega) c' (by omega) (by omega)
          refine ⟨165 - rk a' b' c', (1, nI (i + 1), Mx), (1, My), by omega, ⟨i + 1, Mx, My, true, rfl, rfl, fXx, fMy, oy, Or.inr ⟨rfl, a', b', c', by omega, rfl, k1, k3, k4, k5, ?_, ?_, Or.inr hBx⟩⟩, hx, hy⟩
          · intro p k hp hk
            by_cases z : p = m
            · subst z
              rw [if_pos rfl]
              exact three (P := fun k => Mx.1 46 (3 * p + k) = nI (t3 a' b' c' k)) r0 r1 r2 k hk
            · rw [if_neg z, x2.2 46 _ (by unfold S46; omega), hRc p k hp hk, if_neg z]
          · exact three s0 s1 s2
        · rw [n1] at n2
          cases n2
      · rcases y3 with ⟨rfl, a2, b2, c2', n2, s0, s1, s2⟩ | ⟨rfl, n2, _⟩
        · rw [n1] at n2
          cases n2
        · refine ⟨0, (0, nI (i + 1), Mx), (0, My), by omega, ⟨i + 1, Mx, My, false, rfl, rfl, fXx, fMy, oy, Or.inl ⟨rfl, rfl, by omega, hBx⟩⟩, hx, hy⟩
