/-! ===== phase 2: leaks ===== -/
def SMo (mn a i : Nat) : Prop := SM a i ∨ SO mn a i
theorem toSM {MM MM' : Mem} {mn : Nat} (f : Fr (SMo mn) MM MM') (h : ∀ i, MM'.1 33 i = MM.1 33 i) : Fr SM MM MM' := f.less fun a i n q => by
  rcases q with q | q
  · exact absurd q n
  · rw [q.1]; exact h i
theorem RS.gq {MX MM : Mem} {o a b mn kd bn hr W : Nat} (hS : RS (MX.1 (o + 1)) (MM.1 33) mn kd hr W) (hM : RM MX.1 23 MM.1 b mn kd bn hr) (hz : ∀ i, i < 15 → MX.1 a i = 0) : GQ MX MM o a mn kd := by
  have hmn := hM.1.1
  have hO := RS.ov (o := o) (b := b) hS hmn
  obtain ⟨h1, h2, h3, h4, ⟨wk, _, h5, h5'⟩, h6⟩ := hS
  refine ⟨fun i hi => ⟨0, by omega, hz i hi⟩, fun p hp => ⟨fun k hk => ?_, h3 p (by omega)⟩, h5.trans h5'.symm⟩
  refine LF_ov hO hp hmn hk rfl (fun q hq => hz _ (by omega)) (fun _ _ => rfl) (fun q hq => hM.2.2.2.2.2.1 q hq) (fun hkd => ⟨?_, fun _ => rfl⟩)
  rw [(h2 p k (by omega) hk).1, (h2 p k (by omega) hk).2 (Or.inr hkd)]
theorem others_q {MX MM : Mem} {m b mn kd bn hr : Nat} (hm : m < mn) (hM : RM MX.1 23 MM.1 b mn kd bn hr) (hb : MM.1 0 41 = nI b) (b1 : b ≤ 1) (hG : GQ MX MM 35 46 mn kd) :
    ∃ v4 v6 MX' M5 MM', X5_growthOfOthers (nI m) MX = some (v4 - v6, MX') ∧ X12_growths MM = some (v4, M5) ∧ X12_growthOf (nI m) M5 = some (v6, MM') ∧ Fr SXg MX MX' ∧ Fr SMg MM MM' := by
  obtain ⟨v4, M2, M5, e1, e2, f1, f2⟩ := all_q (Or.inl rfl) hM hb b1 hG
  have hM2 := hM.fg f1 f2 (fun a i h1 h2 => by unfold SXg; omega) (fun a i h1 h2 => by unfold SMg; omega)
  obtain ⟨v6, M3, M6, e3, e4, f3, f4⟩ := grow_q (Or.inl rfl) zlX_46 (by omega) hm hM2 ((f2.2 0 41 (by unfold SMg; omega)).trans hb) b1 (hG.fr (Or.inl rfl) (by omega) f1 f2)
  exact ⟨v4, v6, M3, M5, M6, by unfold X5_growthOfOthers; rw [e1, bp_s, e3, bp_s], e2, e4, f1.tr f3, f2.tr f4⟩
theorem t3_w (w : Nat → Nat) {k : Nat} (hk : k < 3) : t3 (w 0) (w 1) (w 2) k = w k := by
  rcases (by omega : k = 0 ∨ k = 1 ∨ k = 2) with rfl | rfl | rfl <;> rfl
theorem SXg_s {m a i : Nat} (h : SXg a i) : SXs m a i := Or.inl (Or.inl h)
theorem SMg_o {mn a i : Nat} (h : SMg a i) : SMo mn a i := Or.inl (by unfold SMg at h; unfold SM; omega)
theorem SMs_o {mn a i : Nat} (h : SMs mn a i) : SMo mn a i := by unfold SMs SMl SMg SBm S35 SO at h; unfold SMo SM SO; omega
theorem SK.frs {MX MM MX' MM' : Mem} {o m b mn kd bn hr hh sp : Nat} {l : Nat → Nat} {base rx : Nat → Nat → Int32} (h : SK MX MM o m b mn kd bn hr hh sp l base rx) (fX : Fr (SXs m) MX MX') (fM : Fr (SMo mn) MM MM') : SK MX' MM' o m b mn kd bn hr hh sp l base rx := by
  have hmn := h.2.1.1.1
  exact h.fr2 fX fM (fun a i q => by unfold SXs SXl SXg SBx S46; omega) (fun a i q => by unfold SMo SM SO; omega) (by unfold SMo SM SO; omega) (fun i q => by unfold SMo SM SO; omega)
theorem p2_leaks (a1 : Int32) : zStep RR (fun M => (dO dIM) (X11_leaks a1 M)) (fun M => (dO dIM) (X12_leaks a1 M)) := zs_MM fun MX MM hR => by
  obtain ⟨b, mn, kd, bn, hr, h⟩ := hR
  unfold X11_leaks X12_leaks
  rcases man_c h a1 with ⟨m, hm, rfl, e1, e2⟩ | ⟨e1, e2⟩
  · rw [e1, e2, if_pos rfl, bo_s, if_pos rfl]
    obtain ⟨c1, ha1, ha2, a3, a4, a5, c2, b1, b2, b3, b4, b5, b6, b7, b8, b9⟩ := h.k
    obtain ⟨M1, d1, f1, z1⟩ := clearRows_c (M := MX)
    have fX1 : Fr SX MX M1 := f1.wk (fun a i q => by unfold SX; omega)
    have h1 := h.fr fX1 (Fr.rf (M := MM))
    have hG1 := RS.gq (o := 35) h1.2.1 h1.1 z1
    obtain ⟨u1, u2, M3, N1, N2, x1, x2, x3, x4, x5⟩ := others_q hm h1.1 c2 c1 hG1
    have h3 := h1.fr (x4.wk (fun a i q => by unfold SXg at q; unfold SX; omega)) (Fr.rf (M := MM))
    obtain ⟨l, hh, sp, hK, hlp, hspx⟩ := RS.sk (o := 35) h3.2.1 (Or.inl rfl) h3.1 c2 c1 hm
    have hO3 := RS.ov (o := 35) (b := b) h3.2.1 ha1
    obtain ⟨v, M4, MM', w, q1, q2, q3, q4, q5, q6, q7, q8, q9, q10, q11, q12⟩ := seek_c (aim := 0) hK (Or.inl rfl) hlp hspx (fun p k hp hk _ => by rw [x4.2 46 _ (by unfold SXg; omega)]; exact z1 _ (by omega)) hO3
    -- the reference before the row is laid
    have h1' : RP M1.1 MM'.1 b mn kd bn hr := h1.fr Fr.rf (SMs_M q4 q6)
    have hG1' := RS.gq (o := 35) h1'.2.1 h1'.1 z1
    have hb' : MM'.1 0 41 = nI b := (q4.2 0 41 (by unfold SMs SMl SMg SBm S35 SO; omega)).trans c2
    obtain ⟨v4, v6, M3', M5, M7, y1, y2, y3, y4, y5⟩ := others_q hm h1'.1 hb' c1 hG1'
    rw [y1] at x1
    have e3 : M3' = M3 := (Prod.mk.inj (Option.some.inj x1)).2
    subst e3
    -- the row is laid
    have fM7 : Fr (SMo mn) MM M7 := (q4.wk (fun a i q => SMs_o q)).tr (y5.wk (fun a i q => SMg_o q))
    have hb7 : M7.1 0 41 = nI b := (fM7.2 0 41 (by unfold SMo SM SO; omega)).trans c2
    have h47 : M7.1 4 b = nI mn := (fM7.2 4 b (by unfold SMo SM SO; omega)).trans b2
    have o7 := q5.fr y5 (fun i => by unfold SMg; omega) (fun i => by unfold SMg; omega)
    have w7 : ∀ k, k < 3 → M7.1 36 k = nI (w k) := fun k hk => by rw [y5.2 36 k (by unfold SMg; omega)]; exact q8 k hk
    obtain ⟨M8, r1, r2, r3⟩ := layBestRow_c (way := 1) (u := fun _ => 0) (u' := fun k => nI (w k)) hb7 c1 h47 ha1 hm o7 (fun _ _ => rfl) (fun k hk => by rw [w7 k hk]; exact up_1 _) (fun k hk h => by rw [w7 k hk]; exact lkp _ _)
    have fM8 : Fr (SMo mn) MM M8 := fM7.tr (r2.wk (fun a i q => Or.inr q))
    have hK8 := hK.frs q3 fM8
    have hle : ∀ k, k < 3 → t3 (w 0) (w 1) (w 2) k ≤ l k := fun k hk => by rw [t3_w w hk]; exact q12 k hk
    have hG8 := hK8.gq (a := w 0) (bb := w 1) (c := w 2) (fun p k hp hk => by rw [q7 p k hp hk, t3_w w hk]) (by omega) hle (r3.cg (fun _ _ _ _ => rfl) (fun p j hj => by unfold upd3; by_cases z : p = m ∧ j < 3; rw [if_pos z, if_pos z]; exact congrArg nI (t3_w w hj).symm; rw [if_neg z, if_neg z]))
    obtain ⟨v9, v11, M4', M10, M12, s1, s2, s3, s4, s5⟩ := others_q hm hK8.2.1 hK8.2.2.1 c1 hG8
    have fM12 : Fr (SMo mn) MM M12 := fM8.tr (s5.wk (fun a i q => SMg_o q))
    have o12 := r3.fr s5 (fun i => by unfold SMg; omega) (fun i => by unfold SMg; omega)
    have w12 : ∀ k, k < 3 → M12.1 36 k = nI (w k) := fun k hk => by rw [s5.2 36 k (by unfold SMg; omega), r2.2 36 k (by unfold SO; omega)]; exact w7 k hk
    obtain ⟨M13, t1, t2, t3'⟩ := layBestRow_c (way := -1) (u := fun k => nI (w k)) (u' := fun _ => 0) ((fM12.2 0 41 (by unfold SMo SM SO; omega)).trans c2) c1 ((fM12.2 4 b (by unfold SMo SM SO; omega)).trans b2) ha1 hm o12 (fun k hk => by unfold upd3; rw [if_pos ⟨rfl, hk⟩]) (fun k hk => by rw [w12 k hk]; exact up_m _) (fun k hk h => by rw [w12 k hk]; exact lkm _ _)
    have fM13 : Fr (SMo mn) MM M13 := fM12.tr (t2.wk (fun a i q => Or.inr q))
    have o13 : OV M13 b mn (fun p k => M3'.1 (35 + 1) (15 + (3 * p + k))) (fun _ _ => 0) := t3'.cg (fun _ _ _ _ => rfl) (fun p j hj => by unfold upd3; by_cases z : p = m ∧ j < 3; rw [if_pos z]; rw [if_neg z, if_neg z])
    have hsame := all_same fM13 hO3 o13 (fun i q => by unfold SMo SM SO at q; omega) (fun i => by unfold SMo SM SO; omega)
    have fX : Fr SX MX M4' := ((fX1.tr (x4.wk (fun a i q => by unfold SXg at q; unfold SX; omega))).tr (q3.wk (fun a i => SXs_X))).tr (s4.wk (fun a i q => by unfold SXg at q; unfold SX; omega))
    refine ⟨(v9 - v11) - (v4 - v6), M4', M13, ?_, ?_, b, mn, kd, bn, hr, h.fr fX (toSM fM13 hsame)⟩
    · unfold X5_leakOfBest
      rw [d1, bo_s, y1, bp_s, show X5_seek 35 (nI m) 0 0 M3' = _ from q1, bp_s, s1, bp_s, bp_s]
    · rw [show X12_layBest (nI m) 0 MM = _ from q2, bo_s, y2, bp_s, y3, bp_s, r1, bo_s, s2, bp_s, s3, bp_s, t1, bo_s]
  · rw [e1, e2, if_neg (by decide), bo_s, if_neg (by decide)]
    exact ⟨_, _, _, rfl, rfl, b, mn, kd, bn, hr, h⟩
