/-! ===== phase 2: pool, the outer loop ===== -/
theorem SK.nl {MX MM : Mem} {o m b mn kd bn hr hh sp : Nat} {l l' : Nat → Nat} {base rx : Nat → Nat → Int32} (h : SK MX MM o m b mn kd bn hr hh sp l base rx) (h1 : ∀ j, j < 3 → l' j ≤ 200 ∧ (kd ≤ j → l' j = 0)) : SK MX MM o m b mn kd bn hr hh sp l' base rx := by
  obtain ⟨a1, a2, a3, a4, a5, a6, a7, a8, a9, a10, a11, a12⟩ := h
  exact ⟨a1, a2, a3, a4, a5, h1, a7, a8, a9, a10, a11, a12⟩
def SPX (a i : Nat) : Prop := SXg a i ∨ SBx a i ∨ (a = 46 ∧ i < 15) ∨ a = 50
def SPM (mn a i : Nat) : Prop := SMp mn a i ∨ a = 39 ∨ a = 41
def PB (MX MM : Mem) (m kd : Nat) (p : Nat → Nat) : Prop := ∀ k, k < 3 → MX.1 36 (3 * m + k) = nI (p k) ∧ MM.1 33 (3 * m + k) = nI (p k) ∧ p k ≤ 99 ∧ (kd ≤ k → p k = 0)
theorem pool_loop {MX MM : Mem} {b mn kd bn hr m o hm' sm ho' so : Nat} {base : Nat → Nat → Int32} {p q lo : Nat → Nat} (hmo : m ≠ o) (hm : m < mn) (ho : o < mn)
    (hK : SK MX MM 35 o b mn kd bn hr ho' so lo base (fun _ _ => 0)) (hsm : MM.1 33 (35 + m) = nI sm ∧ sm ≤ hr ∧ hm' + sm = hr)
    (hp : PB MX MM m kd p) (hq : PB MX MM o kd q) (h49 : ∀ k, k < 3 → MX.1 49 k = nI (p k + q k)) (h40 : ∀ k, k < 3 → MM.1 40 k = nI (p k + q k))
    (h46 : ∀ i, i < 15 → MX.1 46 i = 0) (h39 : ∀ k, k < 3 → MM.1 39 k = nI 0) (hO : OV MM b mn base (fun _ _ => 0)) (hB : MX.1 41 8 = 0 ∧ MM.1 0 62 = -1) :
    ∃ MX' MM', X5_findPool_L2 (nI m) (nI o) (nI (min 3 hm')) (nI (min 3 ho')) zFU 1 0 MX = some MX' ∧ X12_layPool_L3 (nI m) (nI o) zFU 1 MM = some MM' ∧ Fr SPX MX MX' ∧ Fr (SPM mn) MM MM' ∧ OV MM' b mn base (fun _ _ => 0) ∧ PQ MX' MM' m o kd := by
  have hmn := hK.2.1.1.1
  have hkd := hK.2.1.1.2.1
  have hr8 := hK.2.1.1.2.2.2.2
  have hb1 := hK.2.2.2.1
  have key := two_zFU (σ := Int32 × Int32 × Mem) (σ' := Int32 × Mem) (fun n s => X5_findPool_L2 (nI m) (nI o) (nI (min 3 hm')) (nI (min 3 ho')) n s.1 s.2.1 s.2.2) (fun n s => X12_layPool_L3 (nI m) (nI o) n s.1 s.2)
    (fun d s s' => ∃ i M1 M2 more, s = (b2i more, nI i, M1) ∧ s' = (b2i more, M2) ∧ Fr SPX MX M1 ∧ Fr (SPM mn) MM M2 ∧ OV M2 b mn base (fun _ _ => 0) ∧
      ((more = false ∧ d = 0 ∧ i < 166 ∧ PQ M1 M2 m o kd) ∨ (more = true ∧ ∃ a bb c, i ≤ rk a bb c ∧ d = 165 - rk a bb c ∧ a + bb + c ≤ min 3 hm' ∧ a ≤ p 0 + q 0 ∧ bb ≤ p 1 + q 1 ∧ c ≤ p 2 + q 2 ∧ RW M1 m a bb c (fun _ _ => 0) ∧ (∀ k, k < 3 → M2.1 39 k = nI (t3 a bb c k)) ∧ ((M1.1 41 8 = 0 ∧ M2.1 0 62 = -1) ∨ PQ M1 M2 m o kd))))
    (fun t t' => Fr SPX MX t ∧ Fr (SPM mn) MM t' ∧ OV t' b mn base (fun _ _ => 0) ∧ PQ t t' m o kd) ?_ 165 (1, 0, MX) (1, MM) (by omega)
    ⟨0, MX, MM, true, rfl, rfl, Fr.rf, Fr.rf, hO, Or.inr ⟨rfl, 0, 0, 0, by omega, by decide, by omega, by omega, by omega, by omega, fun p k hp hk => by
      rw [h46 _ (by omega)]
      by_cases z : p = m
      · rw [if_pos z]
        exact three (P := fun k => (0 : Int32) = nI (t3 0 0 0 k)) rfl rfl rfl k hk
      · rw [if_neg z], fun k hk => by rw [h39 k hk]; exact (three (P := fun k => nI 0 = nI (t3 0 0 0 k)) rfl rfl rfl k hk), Or.inl hB⟩⟩
  · obtain ⟨t, t', e1, e2, q⟩ := key
    exact ⟨t, t', e1, e2, q⟩
  · rintro n n' d s s' ⟨i, M1, M2, more, rfl, rfl, f1, f2, hO2, ⟨rfl, rfl, hi, hB⟩ | ⟨rfl, a, bb, c, hi, hd, hs, ha, hb', hc, hR1, h391, hB⟩⟩
    · left
      refine ⟨M1, M2, ?_, ?_, f1, f2, hO2, hB⟩
      · show X5_findPool_L2 (nI m) (nI o) (nI (min 3 hm')) (nI (min 3 ho')) (n + 1) (b2i false) (nI i) M1 = some M1
        rw [X5_findPool_L2]
        by_cases h : i < 165
        · rw [if_neg (show ¬ (165 : Int32) ≤ nI i from nI_ge (b := 165) h (by omega)), if_pos (show b2i false = 0 by decide)]
        · rw [if_pos (show (165 : Int32) ≤ nI i from nI_le (a := 165) (by omega) (by omega))]
      · show X12_layPool_L3 (nI m) (nI o) (n' + 1) (b2i false) M2 = some M2
        rw [X12_layPool_L3, if_pos (show b2i false = 0 by decide)]
    · right
      have kX : ∀ a i, a = 36 ∨ a = 43 ∨ (23 ≤ a ∧ a ≤ 33) → ¬ SPX a i := fun a i q => by unfold SPX SXg SBx; omega
      have kM : ∀ a i, (3 ≤ a ∧ a ≤ 29) → ¬ SPM mn a i := fun a i q => by unfold SPM SMp SMg SPm S35 SO; omega
      have k41 : ¬ SPM mn 0 41 := by unfold SPM SMp SMg SPm S35 SO; omega
      have kM2 : ∀ i, (i < 20 ∨ 35 ≤ i) → ¬ SPM mn 33 i := fun i q => by unfold SPM SMp SMg SPm S35 SO; omega
      have hm5 : m < 5 := by omega
      have ho5 : o < 5 := by omega
      obtain ⟨hrk, _⟩ := rk_step a (by omega) bb (by omega) c (by omega) (by omega)
      have hle : ∀ k, k < 3 → t3 a bb c k ≤ p k + q k := three ha hb' hc
      have hz : ∀ k, k < 3 → kd ≤ k → p k + q k = 0 := fun k hk h => by rw [(hp k hk).2.2.2 h, (hq k hk).2.2.2 h]
      have hz2 : ∀ k, k < 3 → p k + q k ≤ 198 := fun k hk => by have := (hp k hk).2.2.1; have := (hq k hk).2.2.1; omega
      have hK1 := hK.fr2 f1 f2 kX kM k41 kM2
      have r46 : ∀ k, k < 3 → M1.1 46 (3 * m + k) = nI (t3 a bb c k) := fun k hk => by rw [hR1 m k hm5 hk, if_pos rfl]
      -- the class: what is left of both
      obtain ⟨Ma, x1, x2, x3⟩ := restX_c (M := M1) (p := p) (q := q) (fr := t3 a bb c) hm5 ho5 (fun k hk => (f1.2 36 _ (kX _ _ (by omega))).trans (hp k hk).1) (fun k hk => (f1.2 36 _ (kX _ _ (by omega))).trans (hq k hk).1) r46 hle
      -- the reference
      obtain ⟨N1, y1, y2, o1⟩ := poolL4_c hK1.2.2.1 hb1 hK1.2.1.2.1.2.1 hmn hm hO2 h391
      obtain ⟨N2, y3, y4, y5⟩ := restM_c (M := N1) (bo := fun k => p k + q k) (fr := t3 a bb c) (fun k hk => by rw [y2.2 40 k (by unfold SO; omega), f2.2 40 k (by unfold SPM SMp SMg SPm S35 SO; omega)]; exact h40 k hk) (fun k hk => by rw [y2.2 39 k (by unfold SO; omega)]; exact h391 k hk) hle
      obtain ⟨N3, y6, y7, y8⟩ := noRow_c (M := N2)
      have fN3 : Fr (SPM mn) M2 N3 := ((y2.wk (fun a i z => Or.inl (Or.inr (Or.inr (Or.inr z))))).tr (y4.wk (fun a i z => Or.inr (Or.inr z)))).tr (y7.wk (fun a i z => Or.inl (Or.inr (Or.inr (Or.inl z)))))
      have fMa : Fr SPX M1 Ma := x2.wk (fun a i z => Or.inr (Or.inr (Or.inr z)))
      have hK3 := ((hK1.fr2 fMa fN3 kX kM k41 kM2).nl (l' := fun k => p k + q k - t3 a bb c k) (fun k hk => ⟨by have := hz2 k hk; omega, fun h => by have := hz k hk h; omega⟩)).rx (rx' := fun p k => if p = m then nI (t3 a bb c k) else 0) (fun x k hk h => by
        by_cases z : x = m
        · rw [if_pos z]
          have : kd ≤ k := by omega
          have := hz k hk this
          have := hle k hk
          rw [show t3 a bb c k = 0 by omega]
          rfl
        · rw [if_neg z]) (fun x k hx hk => by
        by_cases z : x = m
        · rw [if_pos z]
          exact ⟨_, by have := hle k hk; have := hz2 k hk; omega, rfl⟩
        · rw [if_neg z]
          exact ⟨0, by omega, rfl⟩)
      have h39N : ∀ k, k < 3 → N3.1 39 k = nI (t3 a bb c k) := fun k hk => by rw [y7.2 39 k (by unfold S35; omega), y4.2 39 k (by omega), y2.2 39 k (by unfold SO; omega)]; exact h391 k hk
      have oN3 : OV N3 b mn base (fun p k => if p = m then nI (t3 a bb c k) else 0) := ((o1.fr y4 (fun i => by omega) (fun i => by omega)).fr y7 (fun i => by unfold S35; omega) (fun i => by unfold S35; omega)).cg (fun _ _ _ _ => rfl) (fun x j hj => by
        unfold upd3
        by_cases z : x = m
        · rw [if_pos ⟨z, hj⟩, if_pos z]
        · rw [if_neg (by omega), if_neg z])
      have hRa : RW Ma o 0 0 0 (fun p k => if p = m then nI (t3 a bb c k) else 0) := fun x k hx hk => by
        rw [x2.2 46 _ (by omega), hR1 x k hx hk]
        by_cases z : x = o
        · rw [if_neg (by omega), if_pos z]
          exact three (P := fun k => (0 : Int32) = nI (t3 0 0 0 k)) rfl rfl rfl k hk
        · rw [if_neg z]
      have hB3 : (Ma.1 41 8 = 0 ∧ N3.1 0 62 = -1) ∨ PQ Ma N3 m o kd := by
        have kx1 : ∀ a i, SBx a i → Ma.1 a i = M1.1 a i := fun a i h => x2.2 a i (by unfold SBx at h; omega)
        have km1 : ∀ a i, SPm a i → N3.1 a i = M2.1 a i := fun a i h => by
          rw [y7.2 a i (by unfold SPm at h; unfold S35; omega), y4.2 a i (by unfold SPm at h; omega), y2.2 a i (by unfold SPm at h; unfold SO; omega)]
        rcases hB with ⟨z1, z2⟩ | h
        · exact Or.inl ⟨(kx1 _ _ (Or.inl ⟨rfl, Or.inl rfl⟩)).trans z1, (km1 _ _ (Or.inr ⟨rfl, Or.inl rfl⟩)).trans z2⟩
        · exact Or.inr (h.fr kx1 km1)
      have hho : min 3 ho' = min 3 ho' := rfl
      obtain ⟨Mb, N4, w1, w2, w3, w4, o4, hR4, hB4⟩ := pool_in (u := t3 a bb c) hmo hm hK3 (fun _ _ _ => rfl) (show a + bb + c ≤ 8 by omega) hho x3 (fun j hj => by rw [y7.2 41 j (by unfold S35; omega)]; exact y5 j hj) h39N hRa y8 oN3 hB3
      have fN4 : Fr (SPM mn) M2 N4 := fN3.tr (w4.wk (fun a i z => Or.inl z))
      have fMb : Fr SPX M1 Mb := fMa.tr (w3.wk (fun a i z => by unfold SXl SXg SBx S46 at z; unfold SPX SXg SBx; omega))
      have hK4 := hK1.fr2 fMb fN4 kX kM k41 kM2
      obtain ⟨N5, v1, v2, o5, v3⟩ := poolL5_c (u := t3 a bb c) hK4.2.2.1 hb1 hK4.2.1.2.1.2.1 hmn hm (o4.cg (fun _ _ _ _ => rfl) (fun x j hj => by
        unfold upd3
        show (if x = m then nI (t3 a bb c j) else 0) = if x = m ∧ j < 3 then nI (t3 a bb c j) else 0
        by_cases z : x = m
        · rw [if_pos z, if_pos ⟨z, hj⟩]
        · rw [if_neg z, if_neg (fun y => z y.1)])) (fun k hk => by rw [w4.2 39 k (by unfold SMp SMg SPm S35 SO; omega)]; exact h39N k hk)
      have fN5 : Fr (SPM mn) M2 N5 := fN4.tr (v2.wk (fun a i z => Or.inl (Or.inr (Or.inr z.symm))))
      have hK5 := hK1.fr2 fMb fN5 kX kM k41 kM2
      have hleft : X12_leftOf (nI m) N5 = some (nI hm') := by
        rw [leftOf_c hK5.2.2.1 hb1 hK5.2.1.2.1.2.2.2.2.2.2.2.2 (by omega), fN5.2 33 _ (kM2 _ (by omega)), f2.2 33 _ (kM2 _ (by omega)), hsm.1, nI_sub (by omega)]
        congr 2
        omega
      have hlz : ∀ j, j < 3 → p j + q j < 1000 := fun j hj => by have := hz2 j hj; omega
      have rb : ∀ k, k < 3 → Mb.1 46 (3 * m + k) = nI (t3 a bb c k) := fun k hk => by rw [hR4 m k hm5 hk, if_neg hmo]; exact if_pos rfl
      obtain ⟨ok, Mx, g1, g2, g3⟩ := nx_x (q := 49) (h := min 3 hm') (l := fun k => p k + q k) (M := Mb) hm5 (by omega) zlX_49 (fun j hj => by rw [fMb.2 49 j (by unfold SPX SXg SBx; omega), f1.2 49 j (by unfold SPX SXg SBx; omega)]; exact h49 j hj) hlz (by omega) hs (rb 0 (by omega)) (rb 1 (by omega)) (rb 2 (by omega))
      obtain ⟨ok', My, j1, j2, j3⟩ := nx_m (q := 40) (h := min 3 hm') (l := fun k => p k + q k) (M := N5) zlM_40 (by omega) (fun j hj => by rw [fN5.2 40 j (by unfold SPM SMp SMg SPm S35 SO; omega), f2.2 40 j (by unfold SPM SMp SMg SPm S35 SO; omega)]; exact h40 j hj) hlz (by omega) hs (v3 0 (by omega)) (v3 1 (by omega)) (v3 2 (by omega))
      obtain ⟨Mz, i1, i2, i3⟩ := poolL6_c (M := My)
      have fXx : Fr SPX MX Mx := (f1.tr fMb).tr (g2.wk (fun a i z => by unfold S46 at z; unfold SPX; omega))
      have fMz : Fr (SPM mn) MM Mz := ((f2.tr fN5).tr (j2.wk (fun a i z => Or.inl (Or.inr (Or.inr (Or.inl z)))))).tr (i2.wk (fun a i z => Or.inr (Or.inl z)))
      have oz : OV Mz b mn base (fun _ _ => 0) := (o5.fr j2 (fun i => by unfold S35; omega) (fun i => by unfold S35; omega)).fr i2 (fun i => by omega) (fun i => by omega)
      have hBz : PQ Mx Mz m o kd := hB4.fr (fun a i h => g2.2 a i (by unfold SBx at h; unfold S46; omega)) (fun a i h => by
        rw [i2.2 a i (by unfold SPm at h; omega), j2.2 a i (by unfold SPm at h; unfold S35; omega), v2.2 a i (by unfold SPm at h; unfold SO S35; omega)])
      have hx : X5_findPool_L2 (nI m) (nI o) (nI (min 3 hm')) (nI (min 3 ho')) (n + 1) 1 (nI i) M1 = X5_findPool_L2 (nI m) (nI o) (nI (min 3 hm')) (nI (min 3 ho')) n (b2i ok) (nI (i + 1)) Mx := by
        have e2 : X5_findBeside (nI m) (nI o) (nI (min 3 ho')) M1 = some Mb := by
          unfold X5_findBeside
          rw [x1, b1_s, w1, b1_s]
        rw [X5_findPool_L2, if_neg (show ¬ (165 : Int32) ≤ nI i from nI_ge (b := 165) (by omega) (by omega)), if_neg (by decide), e2, bo_s, g1, bp_s, show nI i + 1 = nI (i + 1) from nI_add i 1]
      have hy : X12_layPool_L3 (nI m) (nI o) (n' + 1) 1 M2 = X12_layPool_L3 (nI m) (nI o) n' (b2i ok') Mz := by
        have e2 : X12_layOther (nI m) (nI o) (((N1.1 39 0) + (N1.1 39 1)) + (N1.1 39 2)) N1 = some N4 := by
          unfold X12_layOther
          have e3 : ((N1.1 39 0) + (N1.1 39 1)) + (N1.1 39 2) = nI (t3 a bb c 0 + t3 a bb c 1 + t3 a bb c 2) := by
            rw [y2.2 39 0 (by unfold SO; omega), y2.2 39 1 (by unfold SO; omega), y2.2 39 2 (by unfold SO; omega), h391 0 (by omega), h391 1 (by omega), h391 2 (by omega), nI_add, nI_add]
          rw [e3, y3, b1_s, y6, bo_s, w2, b1_s]
        rw [X12_layPool_L3, if_neg (by decide), y1, b1_s, e2, bo_s, v1, b1_s, hleft, bo_s, show X12_lesser 3 (nI hm') = nI (min 3 hm') from lesser_c 3 hm' (by omega) (by omega), j1, bp_s, i1, b1_s]
      have hrow' : ∀ a' b' c', Mx.1 46 (3 * m) = nI a' → Mx.1 46 (3 * m + 1) = nI b' → Mx.1 46 (3 * m + 2) = nI c' → RW Mx m a' b' c' (fun _ _ => 0) := fun a' b' c' r0 r1 r2 x k hx hk => by
        by_cases z : x = m
        · subst z
          rw [if_pos rfl]
          exact three (P := fun k => Mx.1 46 (3 * x + k) = nI (t3 a' b' c' k)) r0 r1 r2 k hk
        · rw [if_neg z, g2.2 46 _ (by unfold S46; omega), hR4 x k hx hk]
          by_cases y : x = o
          · rw [if_pos y]
            exact three (P := fun k => nI (t3 0 0 0 k) = 0) rfl rfl rfl k hk
          · rw [if_neg y]; exact if_neg z
      rcases g3 with ⟨rfl, a', b', c', n1, r0, r1, r2⟩ | ⟨rfl, n1, r0, r1, r2⟩
      · rcases j3 with ⟨rfl, a2, b2, c2', n2, s0, s1, s2⟩ | ⟨rfl, n2, _⟩
        · rw [n1] at n2
          cases n2
          obtain ⟨k1, k2, k3, k4, k5⟩ := nxt_some (by omega) hs ha hb' hc n1
          obtain ⟨hrk2, _⟩ := rk_step a' (by omega) b' (by omega) c' (by omega) (by omega)
          exact ⟨165 - rk a' b' c', (1, nI (i + 1), Mx), (1, Mz), by omega, ⟨i + 1, Mx, Mz, true, rfl, rfl, fXx, fMz, oz, Or.inr ⟨rfl, a', b', c', by omega, rfl, k1, k3, k4, k5, hrow' a' b' c' r0 r1 r2, fun k hk => (i3 k hk).trans (three (P := fun k => My.1 35 k = nI (t3 a' b' c' k)) s0 s1 s2 k hk), Or.inr hBz⟩⟩, hx, hy⟩
        · rw [n1] at n2
          cases n2
      · rcases j3 with ⟨rfl, a2, b2, c2', n2, s0, s1, s2⟩ | ⟨rfl, n2, _⟩
        · rw [n1] at n2
          cases n2
        · exact ⟨0, (0, nI (i + 1), Mx), (0, Mz), by omega, ⟨i + 1, Mx, Mz, false, rfl, rfl, fXx, fMz, oz, Or.inl ⟨rfl, rfl, by omega, hBz⟩⟩, hx, hy⟩
