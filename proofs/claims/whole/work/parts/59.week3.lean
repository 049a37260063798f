/-! ===== phase 2: a whole week; week, will ===== -/
theorem reset_c {MX MM : Mem} {o b mn kd bn hr W : Nat} (ho : o = 35 ∨ o = 42) (hM : RM MX.1 23 MM.1 b mn kd bn hr) (hb : MM.1 0 41 = nI b) (b1 : b ≤ 1) (hS : RSw (MX.1 (o + 1)) (MM.1 33) mn kd hr W) :
    ∃ MX' MM', X9_goWeek_L2 o zFU 0 MX = some MX' ∧ X12_goWeek_L3 zFU 0 MM = some MM' ∧ Fr (SSx o) MX MX' ∧ Fr SSm MM MM' ∧ RS (MX'.1 (o + 1)) (MM'.1 33) mn kd hr W := by
  have hz : zlen zTX (o + 1) = 42 := by rcases ho with rfl | rfl <;> first | exact zlX_36 | exact zlX_43
  have hmn := hM.1.1
  have hkd := hM.1.2.1
  have key := two_zFU (σ := Int32 × Mem) (σ' := Int32 × Mem) (fun n s => X9_goWeek_L2 o n s.1 s.2) (fun n s => X12_goWeek_L3 n s.1 s.2)
    (fun d s s' => ∃ i M1 M2, i + d = mn ∧ s = (nI i, M1) ∧ s' = (nI i, M2) ∧ Fr (SSx o) MX M1 ∧ Fr SSm MM M2 ∧ RSw (M1.1 (o + 1)) (M2.1 33) mn kd hr W ∧ ∀ j, j < i → M1.1 (o + 1) (35 + j) = nI 0 ∧ M2.1 33 (35 + j) = nI 0)
    (fun t t' => Fr (SSx o) MX t ∧ Fr SSm MM t' ∧ RSw (t.1 (o + 1)) (t'.1 33) mn kd hr W ∧ ∀ j, j < mn → t.1 (o + 1) (35 + j) = nI 0 ∧ t'.1 33 (35 + j) = nI 0) ?_ mn (0, MX) (0, MM) (by omega) ⟨0, MX, MM, by omega, rfl, rfl, Fr.rf, Fr.rf, hS, fun j hj => by omega⟩
  · obtain ⟨t, t', e1, e2, q1, q2, ⟨h1, h2, h3, h4, h5, h6⟩, q4⟩ := key
    refine ⟨t, t', e1, e2, q1, q2, h1, h2, h3, fun i hi => ?_, h5, h6⟩
    by_cases h : i < mn
    · exact ⟨0, by omega, (q4 i h).1, (q4 i h).2⟩
    · exact h4 i (by omega) hi
  · rintro n n' d s s' ⟨i, M1, M2, hd, rfl, rfl, f1, f2, hS1, hz1⟩
    have hM1 := hM.fg f1 f2 (fun a i h1 h2 => by unfold SSx; omega) (fun a i h1 h2 => by unfold SSm; omega)
    have hb2 : M2.1 0 41 = nI b := (f2.2 0 41 (by unfold SSm; omega)).trans hb
    by_cases hi : i = mn
    · left
      subst hi
      refine ⟨M1, M2, ?_, ?_, f1, f2, hS1, hz1⟩
      · show X9_goWeek_L2 o (n + 1) (nI i) M1 = _
        rw [X9_goWeek_L2, hM1.2.1.1, if_pos (nI_le (by omega) (by omega))]
      · show X12_goWeek_L3 (n' + 1) (nI i) M2 = _
        rw [X12_goWeek_L3, many_c hb2 b1 hM1.2.1.2.1, bo_s, if_pos (nI_le (by omega) (by omega))]
    · right
      obtain ⟨h1, h2, h3, h4, h5, h6⟩ := id hS1
      have hw := fun k hk => hM1.2.2.2.2.2.2.2.2.1 i k (show i < mn by omega) hk
      have hpx : ∀ k, k < 3 → ∃ p w, p ≤ 99 ∧ w ≤ 9 ∧ (uI M1 (o + 1) (35 + i) 0).1 (o + 1) (3 * i + k) = nI p ∧ (uI M1 (o + 1) (35 + i) 0).1 28 (3 * i + k) = nI w := fun k hk => by
        obtain ⟨p, a1, a2, a3, _⟩ := h1 i k (by omega) hk
        obtain ⟨w, b1', b2, b3, _⟩ := hw k hk
        exact ⟨p, w, a1, b1', (uI_ne (by omega)).trans a2, (uI_ne (by omega)).trans b2⟩
      have hpm : ∀ k, k < 3 → ∃ p w, p ≤ 99 ∧ w ≤ 9 ∧ (uI M2 33 (35 + i) 0).1 33 (3 * i + k) = nI p ∧ (uI M2 33 (35 + i) 0).1 15 (3 * (5 * b + i) + k) = nI w := fun k hk => by
        obtain ⟨p, a1, a2, a3, _⟩ := h1 i k (by omega) hk
        obtain ⟨w, b1', b2, b3, _⟩ := hw k hk
        exact ⟨p, w, a1, b1', (uI_ne (by omega)).trans a3, (uI_ne (by omega)).trans b3⟩
      obtain ⟨N1, e1, g1, g2, g3⟩ := wage_x (M := uI M1 (o + 1) (35 + i) 0) (o := o) (i := i) (kd := kd) (mn := mn) ho ((uI_ne (by omega)).trans hM1.2.1.2.2.1) hkd (by omega) hpx
      obtain ⟨N2, e2, g4, g5, g6⟩ := wage_m (M := uI M2 33 (35 + i) 0) (b := b) (i := i) hb2 b1 (by omega) hpm
      have fx : Fr (SSx o) M1 N1 := (Fr.rf.up _ ⟨rfl, by omega⟩).tr (g1.wk (fun a j z => ⟨z.1, by omega⟩))
      have fm : Fr SSm M2 N2 := (Fr.rf.up _ ⟨rfl, by omega⟩).tr (g4.wk (fun a j z => ⟨z.1, by omega⟩))
      have hN : RSw (N1.1 (o + 1)) (N2.1 33) mn kd hr W := by
        refine ⟨fun q k hq hk => ?_, fun q k hq hk => ?_, fun q hq => ?_, fun q hq0 hq => ?_, ?_, ?_⟩
        · by_cases z : q = i
          · subst z
            obtain ⟨p, a1, a2, a3, a4⟩ := h1 q k hq hk
            obtain ⟨w, b1', b2, b3, b4⟩ := hw k hk
            rw [g6 k p w hk ((uI_ne (by omega)).trans a3) ((uI_ne (by omega)).trans b3) a1 b1']
            by_cases hkk : k < kd
            · rw [g3 k p w hkk ((uI_ne (by omega)).trans a2) ((uI_ne (by omega)).trans b2) a1 b1']
              exact ⟨_, by omega, rfl, rfl, fun y => by omega⟩
            · rw [g1.2 (o + 1) _ (by omega), uI_ne (by omega), a2]
              have c1 := a4 (Or.inr (by omega))
              have c2 := b4 (by omega)
              refine ⟨0, by omega, by rw [c1], by rw [c1, c2]; rfl, fun _ => rfl⟩
          · rw [g1.2 (o + 1) _ (by omega), g4.2 33 _ (by omega), uI_ne (k := o + 1) (by omega), uI_ne (k := 33) (by omega)]
            exact h1 q k hq hk
        · by_cases z : q = i
          · subst z
            rw [g5 k hk]
            by_cases hkk : k < kd
            · rw [g2 k hkk]
              exact ⟨rfl, fun _ => rfl⟩
            · rw [g1.2 (o + 1) _ (by omega), uI_ne (by omega), (h2 q k hq hk).1, (h2 q k hq hk).2 (Or.inr (by omega))]
              exact ⟨rfl, fun _ => rfl⟩
          · rw [g1.2 (o + 1) _ (by omega), g4.2 33 _ (by omega), uI_ne (k := o + 1) (by omega), uI_ne (k := 33) (by omega)]
            exact h2 q k hq hk
        · rw [g1.2 (o + 1) _ (by omega), g4.2 33 _ (by omega), uI_ne (k := o + 1) (by omega), uI_ne (k := 33) (by omega)]
          exact h3 q hq
        · rw [g1.2 (o + 1) _ (by omega), g4.2 33 _ (by omega), uI_ne (k := o + 1) (by omega), uI_ne (k := 33) (by omega)]
          exact h4 q hq0 hq
        · rw [g1.2 (o + 1) _ (by omega), g4.2 33 _ (by omega), uI_ne (k := o + 1) (by omega), uI_ne (k := 33) (by omega)]
          exact h5
        · rw [g1.2 (o + 1) _ (by omega), g4.2 33 _ (by omega), uI_ne (k := o + 1) (by omega), uI_ne (k := 33) (by omega)]
          exact h6
      refine ⟨d - 1, (nI (i + 1), N1), (nI (i + 1), N2), by omega, ⟨i + 1, N1, N2, by omega, rfl, rfl, f1.tr fx, f2.tr fm, hN, fun j hj => ?_⟩, ?_, ?_⟩
      · rw [g1.2 (o + 1) _ (by omega), g4.2 33 _ (by omega)]
        by_cases h : j = i
        · rw [h, uI_eq, uI_eq]; exact ⟨rfl, rfl⟩
        · rw [uI_ne (k := o + 1) (by omega), uI_ne (k := 33) (by omega)]
          exact hz1 j (by omega)
      · show X9_goWeek_L2 o (n + 1) (nI i) M1 = X9_goWeek_L2 o n (nI (i + 1)) N1
        rw [X9_goWeek_L2, hM1.2.1.1, if_neg (nI_ge (by omega) (by omega)), show (35 : Int32) + nI i = nI (35 + i) from nI_add 35 i, xp_in (by omega), lt_e, e1, b1_s, show nI i + 1 = nI (i + 1) from nI_add i 1]
      · show X12_goWeek_L3 (n' + 1) (nI i) M2 = X12_goWeek_L3 n' (nI (i + 1)) N2
        rw [X12_goWeek_L3, many_c hb2 b1 hM1.2.1.2.1, bo_s, if_neg (nI_ge (by omega) (by omega)), show (35 : Int32) + nI i = nI (35 + i) from nI_add 35 i, gd_in (by omega) (by omega), nI_clamp (by omega), lt_e, e2, b1_s, show nI i + 1 = nI (i + 1) from nI_add i 1]
theorem RSw.gq {MX MM : Mem} {o a b mn kd bn hr W : Nat} (hS : RSw (MX.1 (o + 1)) (MM.1 33) mn kd hr W) (hM : RM MX.1 23 MM.1 b mn kd bn hr) (hz : ∀ i, i < 15 → MX.1 a i = 0) : GQ MX MM o a mn kd := by
  have hmn := hM.1.1
  obtain ⟨h1, h2, h3, h4, ⟨wk, _, h5, h5'⟩, h6⟩ := hS
  have hO : OV MM b mn (fun p k => MX.1 (o + 1) (15 + (3 * p + k))) (fun _ _ => 0) := fun p k hp hk => by
    rw [ov_0, (h2 p k (by omega) hk).1, Nat.add_assoc]
  refine ⟨fun i hi => ⟨0, by omega, hz i hi⟩, fun p hp => ⟨fun k hk => ?_, h3 p (by omega)⟩, h5.trans h5'.symm⟩
  refine LF_ov hO hp hmn hk rfl (fun q hq => hz _ (by omega)) (fun _ _ => rfl) (fun q hq => hM.2.2.2.2.2.1 q hq) (fun hkd => ⟨?_, fun _ => rfl⟩)
  rw [(h2 p k (by omega) hk).1, (h2 p k (by omega) hk).2 (Or.inr hkd)]
def SWx (o a i : Nat) : Prop := SXg a i ∨ SSx o a i
def SWm (a i : Nat) : Prop := SMg a i ∨ SSm a i
theorem goWeek_c {MX MM : Mem} {o b mn kd bn hr W : Nat} (ho : o = 35 ∨ o = 42) (hM : RM MX.1 23 MM.1 b mn kd bn hr) (hb : MM.1 0 41 = nI b) (b1 : b ≤ 1) (hS : RSw (MX.1 (o + 1)) (MM.1 33) mn kd hr W) (h0 : ∀ i, i < 15 → MX.1 (o + 3) i = 0) :
    ∃ v MX' MM', X9_goWeek o MX = some (v, MX') ∧ X12_goWeek MM = some (v, MM') ∧ Fr (SWx o) MX MX' ∧ Fr SWm MM MM' ∧ RS (MX'.1 (o + 1)) (MM'.1 33) mn kd hr (W + 1) := by
  have hz : zlen zTX (o + 1) = 42 := by rcases ho with rfl | rfl <;> first | exact zlX_36 | exact zlX_43
  have hz3 : zlen zTX (o + 3) = 15 := by rcases ho with rfl | rfl <;> first | exact zlX_38 | exact zlX_45
  obtain ⟨M1, N1, e1, e2, f1, f2, hS1⟩ := loose_c ho hM hb b1 hS
  have hM1 := hM.fg f1 f2 (fun a i h1 h2 => by unfold SSx; omega) (fun a i h1 h2 => by unfold SSm; omega)
  have hb2 : N1.1 0 41 = nI b := (f2.2 0 41 (by unfold SSm; omega)).trans hb
  have hG := hS1.gq (a := o + 3) hM1 (fun i hi => (f1.2 _ i (by unfold SSx; omega)).trans (h0 i hi))
  obtain ⟨sm, M2, Na, Nb, e3, e4, e5, f3, f4, q1, q2⟩ := crops_c ho hz3 rfl hM1 hb2 b1 hG
  have hM2 := hM1.fg f3 f4 (fun a i h1 h2 => by unfold SCx SXg; omega) (fun a i h1 h2 => by unfold SCm SMg; omega)
  have hb3 : Nb.1 0 41 = nI b := (f4.2 0 41 (by unfold SCm SMg; omega)).trans hb2
  have hS2 : RSw (M2.1 (o + 1)) (Nb.1 33) mn kd hr W := by
    obtain ⟨h1, h2, h3, h4, h5, h6⟩ := hS1
    have k1 : ∀ j, ¬ (30 ≤ j ∧ j < 35) → M2.1 (o + 1) j = M1.1 (o + 1) j := fun j hj => f3.2 _ _ (by unfold SCx SXg; omega)
    have k2 : ∀ j, ¬ (15 ≤ j ∧ j < 20) → Nb.1 33 j = N1.1 33 j := fun j hj => f4.2 _ _ (by unfold SCm SMg; omega)
    refine ⟨fun q k hq hk => ?_, fun q k hq hk => ?_, fun q hq => ?_, fun q hq0 hq => ?_, ?_, ?_⟩
    · rw [k1 _ (by omega), k2 _ (by omega)]; exact h1 q k hq hk
    · rw [k1 _ (by omega), k2 _ (by omega)]; exact h2 q k hq hk
    · by_cases h : q < mn
      · exact q1 q h
      · rw [(q2 q (by omega) hq).1, (q2 q (by omega) hq).2]; exact h3 q hq
    · rw [k1 _ (by omega), k2 _ (by omega)]; exact h4 q hq0 hq
    · rw [k1 _ (by omega), k2 _ (by omega)]; exact h5
    · rw [k1 _ (by omega), k2 _ (by omega)]; exact h6
  obtain ⟨M3, N3, e6, e7, f5, f6, hS3⟩ := reset_c ho hM2 hb3 b1 hS2
  obtain ⟨h1, h2, h3, h4, ⟨w, h5, h5', h5''⟩, h6⟩ := hS3
  refine ⟨sm, uI M3 (o + 1) 40 (nI (w + 1)), uI N3 33 40 (nI (w + 1)), ?_, ?_, ?_, ?_, ?_⟩
  · unfold X9_goWeek
    rw [e1, bo_s, e3, b2_s, e6, b1_s, weekNow_c ho, h5', show nI w + 1 = nI (w + 1) from nI_add w 1, show (40 : Int32) = nI 40 from rfl, xp_in (by omega), lt_e]
  · unfold X12_goWeek
    rw [e2, b1_s, e4, bp_s, e5, b1_s, e7, b1_s, h5'', show nI w + 1 = nI (w + 1) from nI_add w 1, lt_e]
  · exact (((f1.wk (fun a i z => Or.inr z)).tr (f3.wk (fun a i z => z.elim Or.inl (fun y => Or.inr ⟨y.1, by omega⟩)))).tr (f5.wk (fun a i z => Or.inr z))).up _ (Or.inr ⟨rfl, by omega⟩)
  · exact (((f2.wk (fun a i z => Or.inr z)).tr (f4.wk (fun a i z => z.elim Or.inl (fun y => Or.inr ⟨y.1, by omega⟩)))).tr (f6.wk (fun a i z => Or.inr z))).up _ (Or.inr ⟨rfl, by omega⟩)
  · refine ⟨fun q k hq hk => ?_, fun q k hq hk => ?_, fun q hq => ?_, fun q hq => ?_, ?_, ?_⟩
    · rw [uI_ne (k := o + 1) (by omega), uI_ne (k := 33) (by omega)]; exact h1 q k hq hk
    · rw [uI_ne (k := o + 1) (by omega), uI_ne (k := 33) (by omega)]; exact h2 q k hq hk
    · rw [uI_ne (k := o + 1) (by omega), uI_ne (k := 33) (by omega)]; exact h3 q hq
    · rw [uI_ne (k := o + 1) (by omega), uI_ne (k := 33) (by omega)]; exact h4 q hq
    · rw [uI_eq, uI_eq]; exact ⟨w + 1, by omega, rfl, rfl⟩
    · rw [uI_ne (k := o + 1) (by omega), uI_ne (k := 33) (by omega)]; exact h6
theorem RS.up {c g : Nat → Int32} {mn kd hr W w : Nat} (h : RS c g mn kd hr W) (hw : c 40 = nI w) (h2 : w ≤ 999) (hW : W < 2 ^ 30) : RS c g mn kd hr 999 := by
  obtain ⟨h1, h2', h3, h4, ⟨w', h5, h5', h5''⟩, h6⟩ := h
  have : w' = w := (nI_eq (by omega) (by omega)).mp (h5'.symm.trans hw)
  exact ⟨h1, h2', h3, h4, ⟨w', by omega, h5', h5''⟩, h6⟩
theorem p2_week : zStep RR (fun M => (dO dIM) (X11_week M)) (fun M => (dO dIM) (X12_week M)) := zs_MM fun MX MM hR => by
  obtain ⟨b, mn, kd, bn, hr, h⟩ := hR
  obtain ⟨c1, ha1, ha2, a3', a4', a5, c2, b1, b2, b3, b4, b5, b6, b7, b8, b9⟩ := h.k
  obtain ⟨w, w0, w1, w2⟩ := h.2.1.2.2.2.2.1
  unfold X11_week X12_week
  rw [weekNow_c (Or.inl rfl), show MX.1 (35 + 1) 40 = nI w from w1, w2]
  by_cases hw : w < 999
  · rw [if_pos (show nI w < 999 from nI_lt (b := 999) hw (by omega)), if_neg (show ¬ nI w = 999 by rw [show (999 : Int32) = nI 999 from rfl, nI_eq (by omega) (by omega)]; omega)]
    -- the class's week, with the reference as it is
    have hS' : RSw (MX.1 36) (MM.1 33) mn kd hr w := by
      obtain ⟨h1, h2, h3, h4, h5, h6⟩ := h.2.1.w
      exact ⟨h1, h2, h3, h4, ⟨w, by omega, w1, w2⟩, h6⟩
    have h38 : ∀ i, i < 15 → MX.1 (35 + 3) i = 0 := fun i hi => (h.2.2.2.2.2.2.2.2.2.2.2 i hi).1
    obtain ⟨v0, MX1, MM0, x1, _, x3, _, x5⟩ := goWeek_c (Or.inl rfl) h.1 c2 c1 hS' h38
    -- .. kept
    have fs : Fr SX MX (fun a i => if a = 36 then MX.1 36 i else MX1.1 a i, MX1.2) := ⟨x3.1, fun a i n => by
      show (if a = 36 then MX.1 36 i else MX1.1 a i) = MX.1 a i
      by_cases q : a = 36
      · rw [if_pos q, q]
      · rw [if_neg q]; exact x3.2 a i (by unfold SWx SSx SXg; unfold SX at n; omega)⟩
    have fk : Fr (fun a i => a = 36 ∧ i < 42) (fun a i => if a = 36 then MX.1 36 i else MX1.1 a i, MX1.2) MX1 := ⟨rfl, fun a i n => by
      show MX1.1 a i = (if a = 36 then MX.1 36 i else MX1.1 a i)
      by_cases q : a = 36
      · rw [if_pos q, q]; exact x3.2 36 i (by unfold SWx SSx SXg; omega)
      · rw [if_neg q]⟩
    have hs := h.fr fs (Fr.rf (M := MM))
    obtain ⟨MX2, MM1, k1, k2, k3, k4, k5, k6⟩ := keep_c hs fk
    -- the reference's week, behind its keeping
    have hM1 := h.1.fg (Fr.rf (S := fun _ _ => False)) k4 (fun _ _ _ _ z => z) (fun a i h1 h2 => by omega)
    have hS1 : RSw (MX.1 36) (MM1.1 33) mn kd hr w := by
      have : MM1.1 33 = MM.1 33 := funext fun j => k4.2 33 j (by omega)
      rw [this]; exact hS'
    obtain ⟨v, MX1', MM2, y1, y2, y3, y4, y5⟩ := goWeek_c (Or.inl rfl) hM1 ((k4.2 0 41 (by omega)).trans c2) c1 hS1 h38
    rw [x1] at y1
    have ev : v0 = v := (Prod.mk.inj (Option.some.inj y1)).1
    have em : MX1 = MX1' := (Prod.mk.inj (Option.some.inj y1)).2
    subst ev em
    have hRS : RS (MX2.1 36) (MM2.1 33) mn kd hr 999 := (y5.wk (by omega)).cg (fun j _ => k5 j) (fun _ _ => rfl)
    have hRA : RA MX2.1 MM2.1 mn kd hr := (k6 MM1 Fr.rf).cg (fun _ _ _ => rfl) (y4.2 0 50 (by unfold SWm SSm SMg; omega)) (y4.2 0 51 (by unfold SWm SSm SMg; omega)) (fun i => y4.2 34 i (by unfold SWm SSm SMg; omega))
    refine ⟨v0, MX2, MM2, ?_, ?_, b, mn, kd, bn, hr, h.act ((fs.wk (fun a i z => Or.inl z)).tr (k3.wk (fun a i z => Or.inr z))) ((k4.wk (fun a i z => by unfold SAm; omega)).tr (y4.wk (fun a i z => by unfold SWm SSm SMg at z; unfold SM SAm; omega))) hRS hRA⟩
    · rw [x1, bp_s, k1, bo_s]
    · rw [k2, bo_s, y2, bp_s]
  · rw [if_neg (show ¬ nI w < 999 from nI_nlt (b := 999) (by omega) (by omega)), show w = 999 by omega, if_pos (show nI 999 = 999 from rfl)]
    exact ⟨_, _, _, rfl, rfl, b, mn, kd, bn, hr, h⟩
