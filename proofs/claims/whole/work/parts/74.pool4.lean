/-! ===== phase 2: pool, both sides; the step ===== -/
theorem RS.pb {MX MM : Mem} {m mn kd hr W : Nat} (hS : RS (MX.1 36) (MM.1 33) mn kd hr W) (hm : m < 5) : ∃ p, PB MX MM m kd p := by
  obtain ⟨n0, a0, b0, c0, d0⟩ := hS.1 m 0 hm (by omega)
  obtain ⟨n1, a1, b1, c1, d1⟩ := hS.1 m 1 hm (by omega)
  obtain ⟨n2, a2, b2, c2, d2⟩ := hS.1 m 2 hm (by omega)
  exact ⟨t3 n0 n1 n2, three ⟨b0, c0, a0, fun h => d0 (Or.inr h)⟩ ⟨b1, c1, a1, fun h => d1 (Or.inr h)⟩ ⟨b2, c2, a2, fun h => d2 (Or.inr h)⟩⟩
theorem PB.fr {MX MM MX' MM' : Mem} {m kd : Nat} {p : Nat → Nat} {S T : Nat → Nat → Prop} (h : PB MX MM m kd p) (fX : Fr S MX MX') (fM : Fr T MM MM') (hm : m < 5) (h1 : ∀ i, ¬ S 36 i) (h2 : ∀ i, i < 15 → ¬ T 33 i) : PB MX' MM' m kd p := fun k hk => by
  rw [fX.2 36 _ (h1 _), fM.2 33 _ (h2 _ (by omega))]
  exact h k hk
def SMq (a i : Nat) : Prop := (SM a i ∧ a ≠ 43) ∨ a = 37 ∨ (a = 0 ∧ i = 55)
theorem SPX_X {a i : Nat} (h : SPX a i) : SX a i := by unfold SPX SXg SBx at h; unfold SX; omega
theorem pool_c {MX MM : Mem} {b mn kd bn hr m o : Nat} (h : RP MX.1 MM.1 b mn kd bn hr) (hmo : m ≠ o) (hm : m < mn) (ho : o < mn) :
    ∃ v MX' MM', ∃ u w : Nat → Nat, X5_findPool (nI m) (nI o) MX = some (v, MX') ∧ X12_layPool (nI m) (nI o) MM = some MM' ∧ Fr SX MX MX' ∧ Fr SMq MM MM' ∧ MM'.1 0 63 = v ∧ MM'.1 0 55 = nI (2 * kd) ∧
      (∀ k, k < 3 → MX'.1 46 (3 * m + k) = nI (u k)) ∧ (∀ k, k < 3 → MX'.1 46 (3 * o + k) = nI (w k)) ∧ (∀ k, k < kd → MM'.1 37 k = nI (u k)) ∧ ∀ k, k < kd → MM'.1 37 (kd + k) = nI (w k) := by
  obtain ⟨c1, ha1, ha2, a3', a4, a5, c2, b1, b2, b3, b4, b5, b6, b7, b8, b9⟩ := h.k
  have hm5 : m < 5 := by omega
  have ho5 : o < 5 := by omega
  obtain ⟨M1, e1, f1, z1⟩ := clearRows_c (M := MX)
  have fX1 : Fr SX MX (uI M1 41 8 0) := (f1.wk (fun a i q => by unfold SX; omega)).up _ (by unfold SX; omega)
  have h1 := h.fr fX1 (Fr.rf (M := MM))
  obtain ⟨p, hp⟩ := RS.pb h1.2.1 hm5
  obtain ⟨q, hq⟩ := RS.pb h1.2.1 ho5
  obtain ⟨lm, hhm, sm, hKm, hlm, hsm⟩ := RS.sk (o := 35) h1.2.1 (Or.inl rfl) h1.1 c2 c1 hm
  obtain ⟨lo, hho, so, hKo, hlo, hso⟩ := RS.sk (o := 35) h1.2.1 (Or.inl rfl) h1.1 c2 c1 ho
  obtain ⟨M7, e7, f7, z7⟩ := limX_c (M := uI M1 41 8 0) hm5 ho5 (fun k hk => (hp k hk).1) (fun k hk => (hq k hk).1)
  obtain ⟨N1, d1, g1, y1⟩ := bothM_c (M := MM) c2 c1 b4 ha2 hm5 ho5 (p := p) (q := q) (fun k hk => ⟨(hp k hk).2.1, (hp k hk).2.2.2⟩) (fun k hk => ⟨(hq k hk).2.1, (hq k hk).2.2.2⟩)
  obtain ⟨N2, d2, g2, y2⟩ := poolL2_c (M := uI N1 0 62 (-1))
  have fM2 : Fr (fun a i => a = 40 ∨ a = 39 ∨ (a = 0 ∧ i = 62)) MM N2 := ((g1.wk (T := fun a i => a = 40 ∨ a = 39 ∨ (a = 0 ∧ i = 62)) (fun a i z => Or.inl z)).up _ (Or.inr (Or.inr ⟨rfl, rfl⟩))).tr (g2.wk (fun a i z => Or.inr (Or.inl z)))
  have hK2 := hKo.fr2 f7 fM2 (fun a i q => by omega) (fun a i q => by omega) (by omega) (fun i q => by omega)
  have hO2 : OV N2 b mn (fun p k => (uI M1 41 8 0).1 (35 + 1) (15 + (3 * p + k))) (fun _ _ => 0) := (RS.ov (o := 35) (b := b) h1.2.1 ha1).fr fM2 (fun i => by omega) (fun i => by omega)
  have hleftm : X9_leftOf 35 (nI m) (uI M1 41 8 0) = nI hhm := by
    unfold X9_leftOf
    have := hKm.2.2.2.2.2.2.1
    rw [spentBy_c (Or.inl rfl) hm5, show (uI M1 41 8 0).1 (35 + 1) (35 + m) = nI sm from hsm, hKm.2.1.2.1.2.2.2.2.2.2.2.1, nI_sub (by omega)]
    congr 1
    omega
  have hlefto : X9_leftOf 35 (nI o) (uI M1 41 8 0) = nI hho := by
    unfold X9_leftOf
    have := hKo.2.2.2.2.2.2.1
    rw [spentBy_c (Or.inl rfl) ho5, show (uI M1 41 8 0).1 (35 + 1) (35 + o) = nI so from hso, hKo.2.1.2.1.2.2.2.2.2.2.2.1, nI_sub (by omega)]
    congr 1
    omega
  have i1 := hKm.2.2.2.2.2.2.1
  have i2 := hKo.2.2.2.2.2.2.1
  obtain ⟨Mx, My, x1, x2, x3, x4, x5, x6⟩ := pool_loop (p := p) (q := q) hmo hm ho hK2 (hm' := hhm) (sm := sm) ⟨(fM2.2 33 _ (by omega)).trans i1.1, i1.2⟩ (hp.fr f7 fM2 hm5 (fun i => by omega) (fun i _ => by omega)) (hq.fr f7 fM2 ho5 (fun i => by omega) (fun i _ => by omega)) z7
    (fun k hk => by rw [g2.2 40 k (by omega)]; exact y1 k hk) (fun i hi => by rw [f7.2 46 i (by omega), uI_ne (by omega)]; exact z1 i hi) y2 hO2 ⟨(f7.2 41 8 (by omega)).trans rfl, (g2.2 0 62 (by omega)).trans rfl⟩
  obtain ⟨j1, j2, u, w, j3, j4, j5, j6, j7, j8, j9⟩ := x6
  have hsame := all_same x4 hO2 x5 (fun i z => by unfold SPM SMp SMg SPm S35 SO at z; omega) (fun i => by unfold SPM SMp SMg SPm S35 SO; omega)
  have fMy : Fr SMq MM My := (fM2.wk (fun a i z => by unfold SMq SM; omega)).tr (x4.less fun a i n q => by
    by_cases z : a = 33
    · rw [z]; exact hsame i
    · exfalso
      unfold SPM SMp SMg SPm S35 SO at q
      unfold SMq SM at n
      omega)
  have fXx : Fr SX MX Mx := (fX1.tr (f7.wk (fun a i z => by unfold SX; omega))).tr (x3.wk (fun a i => SPX_X))
  have hrow : ∀ r k, r < 5 → k < 3 → (uC Mx 47 46 0 0 15).1 46 (3 * r + k) = if r = m then nI (u k) else if r = o then nI (w k) else 0 := fun r k hr hk => by
    rw [uC_g, if_pos ⟨rfl, by omega⟩]
    exact j7 r k hr hk
  have hb : My.1 0 41 = nI b := (fMy.2 0 41 (by unfold SMq SM; omega)).trans c2
  refine ⟨Mx.1 41 9, uC Mx 47 46 0 0 15, uI My 0 55 (nI (2 * kd)), u, w, ?_, ?_, fXx.cp (fun i _ _ => by unfold SX; omega), fMy.up _ (by unfold SMq; omega), ?_, uI_eq _ _ _ _, fun k hk => by rw [hrow m k hm5 hk, if_pos rfl], fun k hk => by rw [hrow o k ho5 hk, if_neg (fun z => hmo z.symm), if_pos rfl], fun k hk => ?_, fun k hk => ?_⟩
  · have hr8 := a5
    unfold X5_findPool
    rw [e1, bo_s, lt_e, hleftm, hlefto, show (3 : Int32) = nI 3 from rfl, min_x hhm 3 (by omega) (by omega), min_x hho 3 (by omega) (by omega), lt_e (nI (min hhm 3)), lt_e (nI (min hho 3)), e7, b1_s, Nat.min_comm hhm 3, Nat.min_comm hho 3, x1, b1_s, cpI zlX_47 zlX_46 (by omega), bo_s, uC_g, if_neg (by omega)]
  · unfold X12_layPool
    rw [d1, b1_s, lt_e (uI N1 0 62 (-1)), d2, b1_s, x2, b1_s, hb, gd_in (by omega) (by omega), nI_clamp (by omega), fMy.2 3 b (by unfold SMq SM; omega), b4, show (2 : Int32) * nI kd = nI (2 * kd) from nI_mul 2 kd, lt_e]
  · rw [uI_ne (by omega)]; exact j2.symm
  · rw [uI_ne (by omega)]; exact j8 k hk
  · rw [uI_ne (by omega)]; exact j9 k hk
theorem two_c {MX MM : Mem} {b mn kd bn hr : Nat} (h : RP MX.1 MM.1 b mn kd bn hr) (x y : Int32) : (∃ m o, m < mn ∧ o < mn ∧ m ≠ o ∧ x = nI m ∧ y = nI o ∧ X3_hasTwo 23 x y MX = true ∧ X12_areTwo x y MM = some true) ∨ (X3_hasTwo 23 x y MX = false ∧ X12_areTwo x y MM = some false) := by
  obtain ⟨c1, ha1, _⟩ := h.k
  unfold X3_hasTwo X12_areTwo
  rcases man_c h x with ⟨m, hm, rfl, e1, e2⟩ | ⟨e1, e2⟩
  · rw [e1, e2, bo_s, if_pos rfl, if_pos rfl]
    rcases man_c h y with ⟨o, ho, rfl, e3, e4⟩ | ⟨e3, e4⟩
    · rw [e3, e4, bo_s, if_pos rfl, if_pos rfl]
      by_cases z : nI m = nI o
      · rw [if_pos z, if_pos z]
        exact Or.inr ⟨rfl, rfl⟩
      · rw [if_neg z, if_neg z]
        exact Or.inl ⟨m, o, hm, ho, fun y => z (congrArg nI y), rfl, rfl, rfl, rfl⟩
    · rw [e3, e4, bo_s, if_neg Bool.false_ne_true, if_neg Bool.false_ne_true]
      exact Or.inr ⟨rfl, rfl⟩
  · rw [e1, e2, bo_s, if_neg Bool.false_ne_true, if_neg Bool.false_ne_true]
    exact Or.inr ⟨rfl, rfl⟩
theorem p2_pool (a1 a2 : Int32) : zStep RR (fun M => (dO dIM) (X11_pool a1 a2 M)) (fun M => (dO dIM) (X12_pool a1 a2 M)) := zs_MM fun MX MM hR => by
  obtain ⟨b, mn, kd, bn, hr, h⟩ := hR
  have h0 := shown h
  unfold X11_pool X12_pool X7_clear
  rw [lt_e (uI MX 51 1 0), lt_e (uI MX 51 1 0), lt_e (uI MM 0 55 0)]
  have h51 : (uI MX 51 1 0).1 51 1 = nI 0 := rfl
  generalize uI MX 51 1 0 = MX0 at h0 h51 ⊢
  generalize uI MM 0 55 0 = MM0 at h0 ⊢
  rcases two_c h0 a1 a2 with ⟨m, o, hm, ho, hmo, rfl, rfl, e1, e2⟩ | ⟨e1, e2⟩
  · rw [e1, if_pos rfl, e2, bo_s, if_pos rfl]
    obtain ⟨v, MX', MM', u, w, x1, x2, x3, x4, x5, x6, x7, x8, x9, x10⟩ := pool_c h0 hmo hm ho
    obtain ⟨c1, ha1, ha2, a3', a4, a5, c2, b1, b2, b3, b4, b5, b6, b7, b8, b9⟩ := h0.k
    obtain ⟨S1, s1, s2, s3, s4, s5⟩ := xlay_c (M := MX') (m := m) (c0 := 0) (by omega) ha2 (by omega) ((x3.2 51 1 (by unfold SX; omega)).trans h51)
    obtain ⟨S2, t1, t2, t3, t4, t5⟩ := xlay_c (M := S1) (m := o) (c0 := kd) (by omega) ha2 (by omega) (by rw [s3, Nat.zero_add])
    have k1 : MX'.1 23 1 = nI kd := (x3.2 23 1 (by unfold SX; omega)).trans b3
    have k2 : S1.1 23 1 = nI kd := (s2.2 23 1 (by unfold SHx; omega)).trans k1
    rw [x1, bp_s, k1, s1, bo_s, k2, t1, bo_s, x2, bo_s, x5]
    refine ⟨_, _, _, rfl, rfl, b, mn, kd, bn, hr, h0.frH (((x3.wk (fun a i z => Or.inl z)).tr (s2.wk (fun a i z => Or.inr z))).tr (t2.wk (fun a i z => Or.inr z))) (x4.wk (fun a i z => by unfold SMq SM at z; unfold SMh SM; omega)) ⟨kd + kd, by omega, t3, by rw [x6, Nat.two_mul], fun i hi => ?_⟩⟩
    by_cases z : i < kd
    · rw [t5 i z, x9 i z]
      have := s4 i z
      rw [Nat.zero_add] at this
      rw [this, x7 i (by omega)]
    · have q := t4 (i - kd) (by omega)
      have q2 := x10 (i - kd) (by omega)
      rw [show kd + (i - kd) = i by omega] at q q2
      rw [q, q2, s2.2 46 _ (by unfold SHx; omega), x8 _ (by omega)]
  · rw [e1, if_neg Bool.false_ne_true, e2, bo_s, if_neg Bool.false_ne_true]
    exact ⟨_, _, _, rfl, rfl, b, mn, kd, bn, hr, h0⟩
