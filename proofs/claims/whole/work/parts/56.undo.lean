/-! ===== phase 2: undo, redo, images ===== -/
theorem exchange_c {M : Mem} {d : Nat} (hd : d ≤ 40) (h : M.1 0 50 = nI d) : ∃ M', X12_exchange M = some M' ∧ Fr (fun a i => (a = 34 ∧ 42 * d ≤ i ∧ i < 42 * d + 42) ∨ (a = 33 ∧ i < 42)) M M' ∧ (∀ k, k < 42 → M'.1 34 (42 * d + k) = M.1 33 k) ∧ ∀ k, k < 42 → M'.1 33 k = M.1 34 (42 * d + k) := by
  have key := up_zFU (σ := Int32 × Mem) (fun n s => X12_exchange_L1 n s.1 s.2) (fun i s => ∃ M1, s = (nI i, M1) ∧ Fr (fun a i => (a = 34 ∧ 42 * d ≤ i ∧ i < 42 * d + 42) ∨ (a = 33 ∧ i < 42)) M M1 ∧ (∀ k, k < i → M1.1 34 (42 * d + k) = M.1 33 k ∧ M1.1 33 k = M.1 34 (42 * d + k)) ∧ ∀ k, i ≤ k → k < 42 → M1.1 34 (42 * d + k) = M.1 34 (42 * d + k) ∧ M1.1 33 k = M.1 33 k)
    (fun M1 => Fr (fun a i => (a = 34 ∧ 42 * d ≤ i ∧ i < 42 * d + 42) ∨ (a = 33 ∧ i < 42)) M M1 ∧ ∀ k, k < 42 → M1.1 34 (42 * d + k) = M.1 33 k ∧ M1.1 33 k = M.1 34 (42 * d + k)) 42 (by omega) ?_ ?_ (0, M) 0 (by omega) ⟨M, rfl, Fr.rf, fun k hk => by omega, fun _ _ _ => ⟨rfl, rfl⟩⟩
  · obtain ⟨t, e, q1, q2⟩ := key
    exact ⟨t, by unfold X12_exchange; exact (congrArg (fun x => b1_ x fun M7 => some M7) e), q1, fun k hk => (q2 k hk).1, fun k hk => (q2 k hk).2⟩
  · rintro n s ⟨M1, rfl, f, q, _⟩
    exact ⟨M1, by show X12_exchange_L1 (n + 1) (nI 42) M1 = some M1; rw [X12_exchange_L1, if_pos (by decide)], f, q⟩
  · rintro n i s hi ⟨M1, rfl, f, q1, q2⟩
    left
    obtain ⟨z1, z2⟩ := q2 i (Nat.le_refl i) hi
    refine ⟨(nI (i + 1), uI (uI M1 34 (42 * d + i) (M.1 33 i)) 33 i (M.1 34 (42 * d + i))), ⟨_, rfl, (f.up _ (Or.inl ⟨rfl, by omega, by omega⟩)).up _ (Or.inr ⟨rfl, hi⟩), fun k hk => ?_, fun k hk hk2 => ?_⟩, ?_⟩
    · by_cases h : k = i
      · rw [h, uI_ne (by omega), uI_eq, uI_eq]
        exact ⟨rfl, rfl⟩
      · rw [uI_ne (k := 33) (by omega), uI_ne (k := 34) (by omega), uI_ne (k := 33) (by omega), uI_ne (k := 34) (by omega)]
        exact q1 k (by omega)
    · rw [uI_ne (k := 33) (by omega), uI_ne (k := 34) (by omega), uI_ne (k := 33) (by omega), uI_ne (k := 34) (by omega)]
      exact q2 k (by omega) hk2
    · show X12_exchange_L1 (n + 1) (nI i) M1 = X12_exchange_L1 n (nI (i + 1)) (uI (uI M1 34 (42 * d + i) (M.1 33 i)) 33 i (M.1 34 (42 * d + i)))
      rw [X12_exchange_L1, if_neg (show ¬ (42 : Int32) ≤ nI i from nI_ge (b := 42) hi (by omega)), f.2 0 50 (by omega), h, show (42 : Int32) * nI d = nI (42 * d) from nI_mul 42 d, nI_add, gd_in (by omega) (by omega), nI_clamp (show 42 * d + i < 2 ^ 31 by omega), z1, lt_e, gd_in (by omega) (by omega), nI_clamp (show i < 2 ^ 31 by omega), z2, lt_e, lt_e, show nI i + 1 = nI (i + 1) from nI_add i 1]
theorem p2_undo : zStep RR (fun M => (dO dZM) (X11_undo M)) (fun M => (dO dZM) (X12_undo M)) := zs_ZZ fun MX MM hR => by
  obtain ⟨b, mn, kd, bn, hr, h⟩ := hR
  obtain ⟨_, hS, ⟨f, d, e, q1, q2, q3, q4, q5, q6, q7, q8, q9, q10, q11⟩, _⟩ := id h
  unfold X11_undo X0_goBack X12_undo X0_slotOfNow
  rw [q5, q7]
  by_cases hd : d = 0
  · subst hd
    rw [if_pos (show nI 0 = 0 from rfl), if_pos (show nI 0 = 0 from rfl), bp_s]
    exact ⟨_, _, _, rfl, rfl, b, mn, kd, bn, hr, h⟩
  · rw [if_neg (nI_ne0 (by omega) (by omega)), if_neg (nI_ne0 (by omega) (by omega)), show nI d - 1 = nI (d - 1) from nI_sub (b := 1) (by omega), lt_e (uI MX 39 3 (nI (d - 1))), lt_e (uI MM 0 50 (nI (d - 1))), uI_ne (M := MX) (by omega), uI_eq, q4, nI_add, show nI (f + (d - 1)) % 41 = nI ((f + (d - 1)) % 41) from nI_mod (b := 41) (by omega) (by omega)]
    obtain ⟨MX', e1, g1, g2⟩ := load_c (M := uI MX 39 3 (nI (d - 1))) (a := 40) (N := 41) (s := (f + (d - 1)) % 41) zlX_40 (by omega) (Nat.mod_lt _ (by omega)) (by omega)
    rw [e1, bo_s, bp_s, uI_ne (M := MM) (by omega), q8, show nI (e - d) + 1 = nI (e - (d - 1)) by rw [show nI (e - d) + 1 = nI (e - d + 1) from nI_add _ 1]; congr 1; omega, lt_e]
    obtain ⟨MM', e2, g3, g4, g5⟩ := exchange_c (M := uI (uI MM 0 50 (nI (d - 1))) 0 51 (nI (e - (d - 1)))) (d := d - 1) (by omega) rfl
    rw [e2, bo_s]
    have x40 : ∀ j, MX'.1 40 j = MX.1 40 j := fun j => (g1.2 40 j (by omega)).trans rfl
    refine ⟨true, MX', MM', rfl, rfl, b, mn, kd, bn, hr, h.act ((Fr.rf.up _ (Or.inr (Or.inr (Or.inl rfl)))).tr (g1.wk (fun a i z => Or.inr (Or.inl z.1)))) (((Fr.rf.up _ (Or.inr (Or.inr (Or.inr ⟨rfl, Or.inl rfl⟩)))).up _ (Or.inr (Or.inr (Or.inr ⟨rfl, Or.inr rfl⟩)))).tr (g3.wk (fun a i z => by unfold SAm; omega))) ?_ ?_⟩
    · exact (q10 (d - 1) (by omega)).cg (fun j hj => (g2 j hj).trans rfl) (fun j hj => (g5 j hj).trans rfl)
    · refine ⟨f, d - 1, e, q1, by omega, q3, (g1.2 39 2 (by omega)).trans q4, (g1.2 39 3 (by omega)).trans rfl, (g1.2 39 4 (by omega)).trans q6, (g3.2 0 50 (by omega)).trans rfl, (g3.2 0 51 (by omega)).trans rfl, fun j hj => ?_, fun i hi => ?_, fun i hi1 hi2 => ?_⟩
      · rw [x40, g2 j hj]; rfl
      · exact (q10 i (by omega)).cg (fun j hj => x40 _) (fun j hj => (g3.2 34 _ (by omega)).trans rfl)
      · by_cases hid : i = d
        · subst hid
          exact hS.cg (fun j hj => (x40 _).trans (q9 j hj)) (fun j hj => (g4 j hj).trans rfl)
        · exact (q11 i (by omega) hi2).cg (fun j hj => x40 _) (fun j hj => (g3.2 34 _ (by omega)).trans rfl)
theorem p2_redo : zStep RR (fun M => (dO dZM) (X11_redo M)) (fun M => (dO dZM) (X12_redo M)) := zs_ZZ fun MX MM hR => by
  obtain ⟨b, mn, kd, bn, hr, h⟩ := hR
  obtain ⟨_, hS, ⟨f, d, e, q1, q2, q3, q4, q5, q6, q7, q8, q9, q10, q11⟩, _⟩ := id h
  unfold X11_redo X0_goOn X12_redo X0_slotOfNow
  rw [q5, q6, q8]
  by_cases hd : d < e
  · rw [if_pos (nI_lt hd (by omega)), if_neg (nI_ne0 (by omega) (by omega)), show nI d + 1 = nI (d + 1) from nI_add d 1, lt_e (uI MX 39 3 (nI (d + 1))), uI_ne (M := MX) (by omega), uI_eq, q4, nI_add, show nI (f + (d + 1)) % 41 = nI ((f + (d + 1)) % 41) from nI_mod (b := 41) (by omega) (by omega)]
    obtain ⟨MX', e1, g1, g2⟩ := load_c (M := uI MX 39 3 (nI (d + 1))) (a := 40) (N := 41) (s := (f + (d + 1)) % 41) zlX_40 (by omega) (Nat.mod_lt _ (by omega)) (by omega)
    obtain ⟨MM', e2, g3, g4, g5⟩ := exchange_c (M := MM) (d := d) (by omega) q7
    rw [e1, bo_s, bp_s, e2, bo_s, g3.2 0 50 (by omega), q7, show nI d + 1 = nI (d + 1) from nI_add d 1, lt_e, uI_ne (M := MM') (by omega), g3.2 0 51 (by omega), q8, show nI (e - d) - 1 = nI (e - (d + 1)) by rw [show nI (e - d) - 1 = nI (e - d - 1) from nI_sub (b := 1) (by omega)]; congr 1, lt_e]
    have x40 : ∀ j, MX'.1 40 j = MX.1 40 j := fun j => (g1.2 40 j (by omega)).trans rfl
    refine ⟨true, MX', _, rfl, rfl, b, mn, kd, bn, hr, h.act ((Fr.rf.up _ (Or.inr (Or.inr (Or.inl rfl)))).tr (g1.wk (fun a i z => Or.inr (Or.inl z.1)))) (((g3.wk (fun a i z => by first | omega | (unfold SAm; omega))).up _ (Or.inr (Or.inr (Or.inr ⟨rfl, Or.inl rfl⟩)))).up _ (Or.inr (Or.inr (Or.inr ⟨rfl, Or.inr rfl⟩)))) ?_ ?_⟩
    · exact (q11 (d + 1) (by omega) (by omega)).cg (fun j hj => (g2 j hj).trans rfl) (fun j hj => g5 j hj)
    · refine ⟨f, d + 1, e, q1, by omega, q3, (g1.2 39 2 (by omega)).trans q4, (g1.2 39 3 (by omega)).trans rfl, (g1.2 39 4 (by omega)).trans q6, rfl, rfl, fun j hj => ?_, fun i hi => ?_, fun i hi1 hi2 => ?_⟩
      · rw [x40, g2 j hj]; rfl
      · by_cases hid : i = d
        · subst hid
          exact hS.cg (fun j hj => (x40 _).trans (q9 j hj)) (fun j hj => g4 j hj)
        · exact (q10 i (by omega)).cg (fun j hj => x40 _) (fun j hj => g3.2 34 _ (by omega))
      · exact (q11 i (by omega) hi2).cg (fun j hj => x40 _) (fun j hj => g3.2 34 _ (by omega))
  · rw [if_neg (nI_nlt (by omega) (by omega)), show e - d = 0 by omega, if_pos (show nI 0 = 0 from rfl), bp_s]
    exact ⟨_, _, _, rfl, rfl, b, mn, kd, bn, hr, h⟩
theorem mimage_c {M : Mem} {x : Nat} (hx : x < 3) : ∃ M', X12_image_L1 (nI x) zFU 0 M = some M' ∧ Fr (fun a i => a = 53 ∧ 42 * x ≤ i ∧ i < 42 * x + 42) M M' ∧ ∀ k, k < 42 → M'.1 53 (42 * x + k) = M.1 33 k := by
  have key := up_zFU (σ := Int32 × Mem) (fun n s => X12_image_L1 (nI x) n s.1 s.2) (fun i s => ∃ M1, s = (nI i, M1) ∧ Fr (fun a i => a = 53 ∧ 42 * x ≤ i ∧ i < 42 * x + 42) M M1 ∧ (∀ k, k < i → M1.1 53 (42 * x + k) = M.1 33 k)) (fun M1 => Fr (fun a i => a = 53 ∧ 42 * x ≤ i ∧ i < 42 * x + 42) M M1 ∧ (∀ k, k < 42 → M1.1 53 (42 * x + k) = M.1 33 k)) 42 (by omega) ?_ ?_ (0, M) 0 (by omega) ⟨M, rfl, Fr.rf, fun k hk => by omega⟩
  · obtain ⟨t, e, q⟩ := key
    exact ⟨t, e, q⟩
  · rintro n s ⟨M1, rfl, f, q⟩
    exact ⟨M1, by show X12_image_L1 (nI x) (n + 1) (nI 42) M1 = some M1; rw [X12_image_L1, if_pos (by decide)], f, q⟩
  · rintro n i s hi ⟨M1, rfl, f, q1⟩
    left
    refine ⟨(nI (i + 1), uI M1 53 (42 * x + i) (M.1 33 i)), ⟨_, rfl, f.up _ ⟨rfl, by omega, by omega⟩, fun k hk => ?_⟩, ?_⟩
    · by_cases h : k = i
      · rw [h, uI_eq]
      · rw [uI_ne (by omega), q1 k (by omega)]
    · show X12_image_L1 (nI x) (n + 1) (nI i) M1 = X12_image_L1 (nI x) n (nI (i + 1)) (uI M1 53 (42 * x + i) (M.1 33 i))
      rw [X12_image_L1, if_neg (show ¬ (42 : Int32) ≤ nI i from nI_ge (b := 42) hi (by omega)), gd_in (by omega) (by omega), show (42 : Int32) * nI x = nI (42 * x) from nI_mul 42 x, nI_add, gd_in (by omega) (by omega), nI_clamp (by omega), nI_clamp (by omega), f.2 33 i (by omega), lt_e, show nI i + 1 = nI (i + 1) from nI_add i 1]
theorem mback_c {M : Mem} {x : Nat} (hx : x < 3) : ∃ M', X12_back_L1 (nI x) zFU 0 M = some M' ∧ Fr (fun a i => a = 33 ∧ i < 42) M M' ∧ ∀ k, k < 42 → M'.1 33 k = M.1 53 (42 * x + k) := by
  have key := up_zFU (σ := Int32 × Mem) (fun n s => X12_back_L1 (nI x) n s.1 s.2) (fun i s => ∃ M1, s = (nI i, M1) ∧ Fr (fun a i => a = 33 ∧ i < 42) M M1 ∧ (∀ k, k < i → M1.1 33 k = M.1 53 (42 * x + k))) (fun M1 => Fr (fun a i => a = 33 ∧ i < 42) M M1 ∧ (∀ k, k < 42 → M1.1 33 k = M.1 53 (42 * x + k))) 42 (by omega) ?_ ?_ (0, M) 0 (by omega) ⟨M, rfl, Fr.rf, fun k hk => by omega⟩
  · obtain ⟨t, e, q⟩ := key
    exact ⟨t, e, q⟩
  · rintro n s ⟨M1, rfl, f, q⟩
    exact ⟨M1, by show X12_back_L1 (nI x) (n + 1) (nI 42) M1 = some M1; rw [X12_back_L1, if_pos (by decide)], f, q⟩
  · rintro n i s hi ⟨M1, rfl, f, q1⟩
    left
    refine ⟨(nI (i + 1), uI M1 33 i (M.1 53 (42 * x + i))), ⟨_, rfl, f.up _ ⟨rfl, hi⟩, fun k hk => ?_⟩, ?_⟩
    · by_cases h : k = i
      · rw [h, uI_eq]
      · rw [uI_ne (by omega), q1 k (by omega)]
    · show X12_back_L1 (nI x) (n + 1) (nI i) M1 = X12_back_L1 (nI x) n (nI (i + 1)) (uI M1 33 i (M.1 53 (42 * x + i)))
      rw [X12_back_L1, if_neg (show ¬ (42 : Int32) ≤ nI i from nI_ge (b := 42) hi (by omega)), show (42 : Int32) * nI x = nI (42 * x) from nI_mul 42 x, nI_add, gd_in (by omega) (by omega), gd_in (by omega) (by omega), nI_clamp (by omega), nI_clamp (by omega), f.2 53 _ (by omega), lt_e, show nI i + 1 = nI (i + 1) from nI_add i 1]
theorem RP.img {MX MX' MM MM' : Mem} {b mn kd bn hr : Nat} (h : RP MX.1 MM.1 b mn kd bn hr) (hX : Fr (fun a i => a = 63 ∨ a = 64) MX MX') (hM : Fr (fun a i => a = 53 ∨ a = 54) MM MM') (hB : RX MX'.1 MM'.1 mn kd hr) : RP MX'.1 MM'.1 b mn kd bn hr := by
  obtain ⟨h1, h2, h3, h4, h5, h6, h7, h8⟩ := h
  have kX := hX.2
  have kM := hM.2
  refine ⟨h1.cg (fun a i _ _ => kX a i (by omega)) (fun a i _ _ => kM a i (by omega)), h2.cg (fun j _ => kX 36 j (by omega)) (fun j _ => kM 33 j (by omega)),
    h3.cg (fun a i _ => kX a i (by omega)) (kM _ _ (by omega)) (kM _ _ (by omega)) (fun i => kM _ _ (by omega)),
    hB,
    h5.cg (kX _ _ (by omega)) (fun i => kX _ _ (by omega)) (kM _ _ (by omega)) (fun i => kM _ _ (by omega)),
    h6.cg (kX _ _ (by omega)) (kX _ _ (by omega)) (fun a i _ _ => kX _ _ (by omega)) (kM _ _ (by omega)) (kM _ _ (by omega)) (fun a i _ _ => kM _ _ (by omega)),
    h7.cg (kX _ _ (by omega)) (fun i => kX _ _ (by omega)) (kM _ _ (by omega)) (fun i => kM _ _ (by omega)),
    h8.cg (kX _ _ (by omega)) (kX _ _ (by omega)) (fun i => kX _ _ (by omega)) (fun i => kX _ _ (by omega)) (kM _ _ (by omega)) (kM _ _ (by omega)) (kM _ _ (by omega))⟩
theorem p2_image (a1 : Int32) : zStep RR (fun M => (dO dIM) (X11_image a1 M)) (fun M => (dO dIM) (X12_image a1 M)) := zs_MM fun MX MM hR => by
  obtain ⟨b, mn, kd, bn, hr, h⟩ := hR
  have stay : ∃ v MX' MM', (some ((-1 : Int32), MX) : Option (Int32 × Mem)) = some (v, MX') ∧ (some ((-1 : Int32), MM) : Option (Int32 × Mem)) = some (v, MM') ∧ RR MX' MM' := ⟨_, _, _, rfl, rfl, b, mn, kd, bn, hr, h⟩
  obtain ⟨w, _, w1, w2⟩ := h.2.1.2.2.2.2.1
  unfold X11_image X12_image
  by_cases c1 : a1 < 0
  · rw [if_pos c1, isIn_neg c1, if_neg Bool.false_ne_true]
    exact stay
  · obtain ⟨x, hx, rfl⟩ := nI_of c1
    rw [if_neg c1, show X12_isIn (nI x) 0 2 = decide (x ≤ 2) from isIn_le (n := 2) hx (by omega)]
    by_cases c2 : x < 3
    · obtain ⟨M3, e1, g1, g2⟩ := save_c (M := MX) (a := 63) (N := 3) (s := x) zlX_63 (by omega) c2 (by omega)
      obtain ⟨M6, e2, g3, g4⟩ := mimage_c (M := MM) c2
      rw [if_pos (show nI x < 3 from nI_lt (b := 3) c2 (by omega)), decide_eq_true (show x ≤ 2 by omega), if_pos rfl, e1, bo_s, nI_clamp hx, lt_e, weekNow_c (Or.inl rfl), e2, b1_s, gd_in c2 hx, lt_e, uI_ne (by omega), g1.2 36 40 (by omega), show MX.1 36 40 = nI w from w1, uI_ne (by omega), g3.2 33 40 (by omega), w2]
      refine ⟨_, _, _, rfl, rfl, b, mn, kd, bn, hr, h.img ((g1.wk (fun a i z => Or.inl z.1)).up _ (Or.inr rfl)) ((g3.wk (fun a i z => Or.inl z.1)).up _ (Or.inr rfl)) (fun y hy => ?_)⟩
      by_cases q : y = x
      · subst q
        right
        refine ⟨uI_eq _ _ _ _, uI_eq _ _ _ _, h.2.1.cg (fun j hj => ?_) (fun j hj => ?_)⟩
        · rw [uI_ne (by omega), g2 j hj]
        · rw [uI_ne (by omega), g4 j hj]
      · rw [uI_ne (k := 64) (by omega), uI_ne (k := 54) (by omega), g1.2 64 y (by omega), g3.2 54 y (by omega)]
        rcases h.2.2.2.1 y hy with ⟨z1, z2⟩ | ⟨z1, z2, z3⟩
        · exact Or.inl ⟨z1, z2⟩
        · refine Or.inr ⟨z1, z2, z3.cg (fun j hj => ?_) (fun j hj => ?_)⟩
          · rw [uI_ne (by omega), g1.2 63 _ (by omega)]
          · rw [uI_ne (by omega), g3.2 53 _ (by omega)]
    · rw [if_neg (show ¬ nI x < 3 from nI_nlt (b := 3) (by omega) hx), decide_eq_false (show ¬ x ≤ 2 by omega), if_neg Bool.false_ne_true]
      exact stay
theorem p2_back (a1 : Int32) : zStep RR (fun M => (dO dIM) (X11_back a1 M)) (fun M => (dO dIM) (X12_back a1 M)) := zs_MM fun MX MM hR => by
  obtain ⟨b, mn, kd, bn, hr, h⟩ := hR
  have stay : ∃ v MX' MM', (some ((-1 : Int32), MX) : Option (Int32 × Mem)) = some (v, MX') ∧ (some ((-1 : Int32), MM) : Option (Int32 × Mem)) = some (v, MM') ∧ RR MX' MM' := ⟨_, _, _, rfl, rfl, b, mn, kd, bn, hr, h⟩
  unfold X11_back X12_back
  by_cases c1 : a1 < 0
  · rw [if_pos c1, isIn_neg c1, if_neg Bool.false_ne_true]
    exact stay
  · obtain ⟨x, hx, rfl⟩ := nI_of c1
    rw [if_neg c1, show X12_isIn (nI x) 0 2 = decide (x ≤ 2) from isIn_le (n := 2) hx (by omega)]
    by_cases c2 : x < 3
    · rw [if_neg (show ¬ (3 : Int32) ≤ nI x from nI_ge (b := 3) c2 (by omega)), decide_eq_true (show x ≤ 2 by omega), if_pos rfl, nI_clamp hx, gd_in c2 hx]
      rcases h.2.2.2.1 x c2 with ⟨z1, z2⟩ | ⟨z1, z2, z3⟩
      · rw [z1, z2, if_pos rfl, if_pos rfl]
        exact stay
      · obtain ⟨M4, e1, g1, g2⟩ := load_c (M := MX) (a := 63) (N := 3) (s := x) zlX_63 (by omega) c2 (by omega)
        obtain ⟨M8, e2, g3, g4⟩ := mback_c (M := MM) c2
        obtain ⟨M5, e3, g5, g6⟩ := save_c (M := uI (uI (uI M4 39 2 0) 39 3 0) 39 4 0) (a := 40) (N := 41) (s := 0) zlX_40 (by omega) (by omega) (by omega)
        have hS : RS (M5.1 36) ((uI (uI M8 0 50 0) 0 51 0).1 33) mn kd hr 999 := z3.cg (fun j hj => ((g5.2 36 j (by omega)).trans rfl).trans (g2 j hj)) (fun j hj => g4 j hj)
        obtain ⟨w, _, w1, w2⟩ := hS.2.2.2.2.1
        unfold X0_forget
        rw [z1, z2, if_neg (by decide), if_neg (by decide), e1, bo_s, lt_e, lt_e, lt_e, show X9_saveTo 35 40 0 (uI (uI (uI M4 39 2 0) 39 3 0) 39 4 0) = _ from e3, bo_s, bo_s, weekNow_c (Or.inl rfl), e2, b1_s, lt_e, lt_e]
        have fX : Fr (fun a i => SX a i ∨ SAx a i) MX M5 := ((((g1.wk (T := fun a i => SX a i ∨ SAx a i) (fun a i z => Or.inr (Or.inl z.1))).up _ (Or.inr (Or.inr (Or.inl rfl)))).up _ (Or.inr (Or.inr (Or.inl rfl)))).up _ (Or.inr (Or.inr (Or.inl rfl)))).tr (g5.wk (fun a i z => Or.inr (Or.inr (Or.inr z.1))))
        have fM : Fr (fun a i => SM a i ∨ SAm a i) MM (uI (uI M8 0 50 0) 0 51 0) := ((g3.wk (T := fun a i => SM a i ∨ SAm a i) (fun a i z => Or.inr (Or.inl z.1))).up _ (Or.inr (Or.inr (Or.inr ⟨rfl, Or.inl rfl⟩)))).up _ (Or.inr (Or.inr (Or.inr ⟨rfl, Or.inr rfl⟩)))
        refine ⟨nI w, M5, _, congrArg (fun z => some (z, M5)) w1, congrArg (fun z => some (z, uI (uI M8 0 50 0) 0 51 0)) w2, b, mn, kd, bn, hr, h.act fX fM hS ?_⟩
        refine ⟨0, 0, 0, by omega, by omega, by omega, (g5.2 39 2 (by omega)).trans rfl, (g5.2 39 3 (by omega)).trans rfl, (g5.2 39 4 (by omega)).trans rfl, rfl, rfl, fun j hj => ?_, fun i hi => by omega, fun i h1 h2 => by omega⟩
        rw [show 42 * ((0 + 0) % 41) + j = 42 * 0 + j by omega, g6 j hj]
        exact (g5.2 36 j (by omega)).symm
    · rw [if_pos (show (3 : Int32) ≤ nI x from nI_le (a := 3) (by omega) hx), decide_eq_false (show ¬ x ≤ 2 by omega), if_neg Bool.false_ne_true]
      exact stay
