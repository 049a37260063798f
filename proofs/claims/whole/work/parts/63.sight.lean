/-! ===== phase 2: richest, gulf, most; sights told; the tape fed ===== -/
theorem richest_q {MX MM : Mem} {b mn kd bn hr : Nat} (h : RP MX.1 MM.1 b mn kd bn hr) : (mn = 0 ∧ X11_richest MX = some (-1) ∧ X12_richest MM = some (-1)) ∨ ∃ r, r < mn ∧ X11_richest MX = some (nI r) ∧ X12_richest MM = some (nI r) := by
  obtain ⟨c1, ha1, ha2, a3, a4, a5, c2, b1, b2, b3, b4, b5, b6, b7, b8, b9⟩ := h.k
  obtain ⟨t, t', x1, x2, x3, x4⟩ := two_zFU (σ := Int32 × Int32) (σ' := Int32 × Int32) (fun n s => X11_richest_L1 MX n s.1 s.2) (fun n s => X12_richest_L1 MM n s.1 s.2) (fun d s s' => ∃ i y, i + d = mn ∧ s = (y, nI i) ∧ s' = (y, nI i) ∧ ((i = 0 ∧ y = -1) ∨ (0 < i ∧ ∃ r, r < mn ∧ y = nI r))) (fun t t' => t = t' ∧ ((mn = 0 ∧ t = -1) ∨ (0 < mn ∧ ∃ r, r < mn ∧ t = nI r))) (by
    rintro n n' d s s' ⟨i, y, hd, rfl, rfl, hy⟩
    by_cases hi : i = mn
    · left
      subst hi
      refine ⟨y, y, ?_, ?_, rfl, hy⟩
      · show X11_richest_L1 MX (n + 1) y (nI i) = _
        rw [X11_richest_L1, b1, if_pos (nI_le (by omega) (by omega))]
      · show X12_richest_L1 MM (n' + 1) y (nI i) = _
        rw [X12_richest_L1, many_c c2 c1 b2, bo_s, if_pos (nI_le (by omega) (by omega))]
    · right
      obtain ⟨s1, _, s2, s3⟩ := psum_x h (show i < 5 by omega)
      rcases hy with ⟨h0, rfl⟩ | ⟨h0, r, hr', rfl⟩
      · refine ⟨d - 1, (nI i, nI (i + 1)), (nI i, nI (i + 1)), by omega, ⟨i + 1, _, by omega, rfl, rfl, Or.inr ⟨by omega, i, by omega, rfl⟩⟩, ?_, ?_⟩
        · show X11_richest_L1 MX (n + 1) (-1) (nI i) = X11_richest_L1 MX n (nI i) (nI (i + 1))
          rw [X11_richest_L1, b1, if_neg (nI_ge (by omega) (by omega)), if_pos rfl, b1_s, if_pos rfl, b1_s, show nI i + 1 = nI (i + 1) from nI_add i 1]
        · show X12_richest_L1 MM (n' + 1) (-1) (nI i) = X12_richest_L1 MM n' (nI i) (nI (i + 1))
          rw [X12_richest_L1, many_c c2 c1 b2, bo_s, if_neg (nI_ge (by omega) (by omega)), if_pos (by decide), b1_s, if_pos rfl, b1_s, show nI i + 1 = nI (i + 1) from nI_add i 1]
      · obtain ⟨r1, _, r2, r3⟩ := psum_x h (show r < 5 by omega)
        by_cases z : nI s1 ≤ nI r1
        · refine ⟨d - 1, (nI r, nI (i + 1)), (nI r, nI (i + 1)), by omega, ⟨i + 1, _, by omega, rfl, rfl, Or.inr ⟨by omega, r, hr', rfl⟩⟩, ?_, ?_⟩
          · show X11_richest_L1 MX (n + 1) (nI r) (nI i) = X11_richest_L1 MX n (nI r) (nI (i + 1))
            rw [X11_richest_L1, b1, if_neg (nI_ge (by omega) (by omega)), if_neg (nI_nm1 (by omega)), s2, bo_s, r2, bo_s, if_pos z, b1_s, if_neg Bool.false_ne_true, b1_s, show nI i + 1 = nI (i + 1) from nI_add i 1]
          · show X12_richest_L1 MM (n' + 1) (nI r) (nI i) = X12_richest_L1 MM n' (nI r) (nI (i + 1))
            rw [X12_richest_L1, many_c c2 c1 b2, bo_s, if_neg (nI_ge (by omega) (by omega)), if_neg (nI_pos (by omega)), s3, bo_s, r3, bo_s, if_pos z, b1_s, if_neg Bool.false_ne_true, b1_s, show nI i + 1 = nI (i + 1) from nI_add i 1]
        · refine ⟨d - 1, (nI i, nI (i + 1)), (nI i, nI (i + 1)), by omega, ⟨i + 1, _, by omega, rfl, rfl, Or.inr ⟨by omega, i, by omega, rfl⟩⟩, ?_, ?_⟩
          · show X11_richest_L1 MX (n + 1) (nI r) (nI i) = X11_richest_L1 MX n (nI i) (nI (i + 1))
            rw [X11_richest_L1, b1, if_neg (nI_ge (by omega) (by omega)), if_neg (nI_nm1 (by omega)), s2, bo_s, r2, bo_s, if_neg z, b1_s, if_pos rfl, b1_s, show nI i + 1 = nI (i + 1) from nI_add i 1]
          · show X12_richest_L1 MM (n' + 1) (nI r) (nI i) = X12_richest_L1 MM n' (nI i) (nI (i + 1))
            rw [X12_richest_L1, many_c c2 c1 b2, bo_s, if_neg (nI_ge (by omega) (by omega)), if_neg (nI_pos (by omega)), s3, bo_s, r3, bo_s, if_neg z, b1_s, if_pos rfl, b1_s, show nI i + 1 = nI (i + 1) from nI_add i 1]) mn (-1, 0) (-1, 0) (by omega) ⟨0, -1, by omega, rfl, rfl, Or.inl ⟨rfl, rfl⟩⟩
  subst x3
  have e1 : X11_richest MX = some t := congrArg (fun x => b1_ x fun e9 => some e9) x1
  have e2 : X12_richest MM = some t := congrArg (fun x => b1_ x fun e9 => some e9) x2
  rcases x4 with ⟨m0, rfl⟩ | ⟨m0, r, hr', rfl⟩
  · exact Or.inl ⟨m0, e1, e2⟩
  · exact Or.inr ⟨r, hr', e1, e2⟩
theorem p2_richest : zStep RR (fun M => (dO (dI M)) (X11_richest M)) (fun M => (dO (dI M)) (X12_richest M)) := zs_OO fun MX MM hR => by
  obtain ⟨b, mn, kd, bn, hr, h⟩ := hR
  rcases richest_q h with ⟨_, e1, e2⟩ | ⟨r, _, e1, e2⟩
  · exact ⟨_, e1, e2⟩
  · exact ⟨_, e1, e2⟩
theorem min_x (a c : Nat) (ha : a < 1000) (hc : c < 1000) : (if nI a < nI c then nI a else nI c) = nI (min a c) := by
  by_cases h : a < c
  · rw [if_pos (nI_lt h (by omega)), Nat.min_eq_left (by omega)]
  · rw [if_neg (nI_nlt (by omega) (by omega)), Nat.min_eq_right (by omega)]
theorem lesser_c (a c : Nat) (ha : a < 1000) (hc : c < 1000) : X12_lesser (nI a) (nI c) = nI (min a c) := by
  unfold X12_lesser
  by_cases h : c ≤ a
  · rw [if_pos (nI_le h (by omega)), Nat.min_eq_right h]
  · rw [if_neg (nI_ge (by omega) (by omega)), Nat.min_eq_left (by omega)]
/-- the least sum of the first i purses, from y on -/
def lsum (S : Nat → Nat) : Nat → Nat → Nat
  | y, 0 => y
  | y, i + 1 => min (lsum S y i) (S i)
theorem lsum_comm (S : Nat → Nat) (y z i : Nat) : min (lsum S y i) z = min (lsum S z i) y := by
  induction i with
  | zero => exact Nat.min_comm y z
  | succ i ih =>
    show min (min (lsum S y i) (S i)) z = min (min (lsum S z i) (S i)) y
    rw [Nat.min_right_comm, ih, Nat.min_right_comm]
theorem lsum_le (S : Nat → Nat) (y i j : Nat) (h : j < i) : lsum S y i ≤ S j := by
  induction i with
  | zero => omega
  | succ i ih =>
    show min (lsum S y i) (S i) ≤ S j
    by_cases q : j = i
    · rw [q]; exact Nat.min_le_right _ _
    · exact Nat.le_trans (Nat.min_le_left _ _) (ih (by omega))
theorem lsum_start (S : Nat → Nat) (i j k : Nat) (h : j < i) (hk : k < i) : lsum S (S j) i = lsum S (S k) i := by
  have h1 := lsum_comm S (S j) (S k) i
  have h2 := lsum_le S (S j) i k hk
  have h3 := lsum_le S (S k) i j h
  rw [Nat.min_eq_left h2, Nat.min_eq_left h3] at h1
  exact h1
theorem lsum_b (S : Nat → Nat) (y i : Nat) (h : y ≤ 297) : lsum S y i ≤ 297 := by
  induction i with
  | zero => exact h
  | succ i ih => exact Nat.le_trans (Nat.min_le_left _ _) ih
theorem p2_gulf : zStep RR (fun M => (dO (dI M)) (X11_gulf M)) (fun M => (dO (dI M)) (X12_gulf M)) := zs_OO fun MX MM hR => by
  obtain ⟨b, mn, kd, bn, hr, h⟩ := hR
  obtain ⟨c1, ha1, ha2, a3, a4, a5, c2, b1, b2, b3, b4, b5, b6, b7, b8, b9⟩ := h.k
  unfold X11_gulf X12_gulf
  rw [many_c c2 c1 b2, bo_s]
  rcases richest_q h with ⟨m0, e1, e2⟩ | ⟨r, hr', e1, e2⟩
  · rw [e1, bo_s, if_pos rfl, m0, if_pos (show nI 0 = 0 from rfl)]
    exact ⟨_, rfl, rfl⟩
  · -- the sums
    have hS : ∃ S : Nat → Nat, ∀ i, i < 5 → S i ≤ 297 ∧ X9_purseSum 35 (nI i) MX = some (nI (S i)) ∧ X12_sumOf 0 (nI i) MM = some (nI (S i)) := by
      refine ⟨fun i => if hi : i < 5 then (psum_x h hi).choose else 0, fun i hi => ?_⟩
      have e : (fun i => if hi : i < 5 then (psum_x h hi).choose else 0) i = (psum_x h hi).choose := dif_pos hi
      rw [e]
      exact (psum_x h hi).choose_spec
    obtain ⟨S, hS⟩ := hS
    obtain ⟨r0, r1, r2⟩ := hS r (by omega)
    obtain ⟨z0, z1, z2⟩ := hS 0 (by omega)
    have gx : ∀ y, y ≤ 297 → X11_gulf_L1 MX zFU (nI y) 0 = some (nI (lsum S y mn)) := fun y hy => by
      obtain ⟨t, e, q⟩ := up_zFU (σ := Int32 × Int32) (fun n s => X11_gulf_L1 MX n s.1 s.2) (fun i s => s = (nI (lsum S y i), nI i)) (fun t => t = nI (lsum S y mn)) mn (by omega) (by
        rintro n s rfl
        exact ⟨_, by show X11_gulf_L1 MX (n + 1) (nI (lsum S y mn)) (nI mn) = _; rw [X11_gulf_L1, b1, if_pos (nI_le (by omega) (by omega))], rfl⟩) (by
        rintro n i s hi rfl
        left
        obtain ⟨s0, s1, s2⟩ := hS i (by omega)
        have hb := lsum_b S y i hy
        refine ⟨_, rfl, ?_⟩
        show X11_gulf_L1 MX (n + 1) (nI (lsum S y i)) (nI i) = X11_gulf_L1 MX n (nI (min (lsum S y i) (S i))) (nI (i + 1))
        rw [X11_gulf_L1, b1, if_neg (nI_ge hi (by omega)), s1, bo_s, min_x _ _ (by omega) (by omega), lt_e, show nI i + 1 = nI (i + 1) from nI_add i 1, Nat.min_comm]) (nI y, 0) 0 (by omega) rfl
      rw [e, q]
    have gm : ∀ y, y ≤ 297 → X12_gulf_L1 MM zFU (nI y) 0 = some (nI (lsum S y mn)) := fun y hy => by
      obtain ⟨t, e, q⟩ := up_zFU (σ := Int32 × Int32) (fun n s => X12_gulf_L1 MM n s.1 s.2) (fun i s => s = (nI (lsum S y i), nI i)) (fun t => t = nI (lsum S y mn)) mn (by omega) (by
        rintro n s rfl
        exact ⟨_, by show X12_gulf_L1 MM (n + 1) (nI (lsum S y mn)) (nI mn) = _; rw [X12_gulf_L1, many_c c2 c1 b2, bo_s, if_pos (nI_le (by omega) (by omega))], rfl⟩) (by
        rintro n i s hi rfl
        left
        obtain ⟨s0, s1, s2⟩ := hS i (by omega)
        have hb := lsum_b S y i hy
        refine ⟨_, rfl, ?_⟩
        show X12_gulf_L1 MM (n + 1) (nI (lsum S y i)) (nI i) = X12_gulf_L1 MM n (nI (min (lsum S y i) (S i))) (nI (i + 1))
        rw [X12_gulf_L1, many_c c2 c1 b2, bo_s, if_neg (nI_ge hi (by omega)), s2, bo_s, lesser_c _ _ (by omega) (by omega), show nI i + 1 = nI (i + 1) from nI_add i 1]) (nI y, 0) 0 (by omega) rfl
      rw [e, q]
    rw [e1, bo_s, if_neg (nI_nm1 (by omega)), r1, bo_s, gx _ r0, b1_s, bo_s, if_neg (nI_ne0 (by omega) (by omega)), show X12_sumOf 0 0 MM = _ from z2, bo_s, gm _ z0, b1_s, e2, bo_s, r2, bo_s, lsum_start S mn r 0 hr' (by omega)]
    exact ⟨_, rfl, rfl⟩
theorem p2_most (a1 : Int32) : zStep RR (fun M => (dO (dI M)) (X11_most a1 M)) (fun M => (dO (dI M)) (X12_most a1 M)) := zs_OO fun MX MM hR => by
  obtain ⟨b, mn, kd, bn, hr, h⟩ := hR
  obtain ⟨c1, ha1, ha2, a3, a4, a5, c2, b1, b2, b3, b4, b5, b6, b7, b8, b9⟩ := h.k
  unfold X11_most X12_most
  rcases man_c h a1 with ⟨i, hi, rfl, e1, e2⟩ | ⟨e1, e2⟩
  · rw [e1, e2, if_pos rfl, bo_s, if_pos rfl, c2, gd_in (by omega) (by omega), nI_clamp (by omega), b4]
    have hp : ∀ k, k < 3 → ∃ p, MX.1 36 (3 * i + k) = nI p ∧ MM.1 33 (3 * i + k) = nI p := fun k hk => by
      obtain ⟨p, _, p1, p2, _⟩ := h.2.1.1 i k (by omega) hk
      exact ⟨p, p1, p2⟩
    by_cases hk0 : kd = 0
    · rw [hk0, if_pos (show nI 0 = 0 from rfl)]
      obtain ⟨n, hn⟩ := zFU_s 1 (by omega)
      rw [hn, X11_most_L1, b3, hk0, if_pos (by decide), b1_s]
      exact ⟨_, rfl, rfl⟩
    · rw [if_neg (nI_ne0 (by omega) (by omega))]
      have first : X11_most_L1 (nI i) MX zFU (-1) 0 = X11_most_L1 (nI i) MX (zFU - 1) (nI 0) (nI 1) := by
        obtain ⟨n, hn⟩ := zFU_s 1 (by omega)
        rw [hn, Nat.add_sub_cancel, X11_most_L1, b3, if_neg (show ¬ nI kd ≤ 0 from nI_nle (by omega) (by omega)), if_pos rfl, l1_s, l1_s, if_pos rfl]
        rfl
      rw [first]
      obtain ⟨t, t', x1, x2, x3⟩ := two_loop (σ := Int32 × Int32) (σ' := Int32 × Int32) (fun n s => X11_most_L1 (nI i) MX n s.1 s.2) (fun n s => X12_most_L1 (nI i) MM n s.1 s.2) (fun d s s' => ∃ k r, k + d = kd ∧ r < k ∧ s = (nI r, nI k) ∧ s' = (nI r, nI k)) (fun t t' => t = t') (by
        rintro n n' d s s' ⟨k, r, hd, hrk, rfl, rfl⟩
        by_cases hk : k = kd
        · left
          subst hk
          refine ⟨nI r, nI r, ?_, ?_, rfl⟩
          · show X11_most_L1 (nI i) MX (n + 1) (nI r) (nI k) = _
            rw [X11_most_L1, b3, if_pos (nI_le (by omega) (by omega))]
          · show X12_most_L1 (nI i) MM (n' + 1) (nI r) (nI k) = _
            rw [X12_most_L1, c2, gd_in (by omega) (by omega), nI_clamp (by omega), b4, if_pos (nI_le (by omega) (by omega))]
        · right
          obtain ⟨p, p1, p2⟩ := hp k (by omega)
          obtain ⟨q, q1, q2⟩ := hp r (by omega)
          have ex : ∀ y, (if nI p ≤ nI q then nI r else nI k) = nI y → X11_most_L1 (nI i) MX (n + 1) (nI r) (nI k) = X11_most_L1 (nI i) MX n (nI y) (nI (k + 1)) := fun y hy => by
            rw [X11_most_L1, b3, if_neg (nI_ge (by omega) (by omega)), if_neg (nI_nm1 (by omega)), purseOf_c (Or.inl rfl) (by omega) (by omega), purseOf_c (Or.inl rfl) (by omega) (by omega), show MX.1 (35 + 1) (3 * i + k) = _ from p1, show MX.1 (35 + 1) (3 * i + r) = _ from q1, show nI k + 1 = nI (k + 1) from nI_add k 1, ← hy]
            by_cases z : nI p ≤ nI q
            · rw [if_pos z, if_pos z, l1_s, l1_s, if_neg Bool.false_ne_true]
            · rw [if_neg z, if_neg z, l1_s, l1_s, if_pos rfl]
          have em : ∀ y, (if nI p ≤ nI q then nI r else nI k) = nI y → X12_most_L1 (nI i) MM (n' + 1) (nI r) (nI k) = X12_most_L1 (nI i) MM n' (nI y) (nI (k + 1)) := fun y hy => by
            rw [X12_most_L1, c2, gd_in (by omega) (by omega), nI_clamp (by omega), b4, if_neg (nI_ge (by omega) (by omega)), inPurse_c (by omega) (by omega), bo_s, inPurse_c (by omega) (by omega), bo_s, p2, q2, show nI k + 1 = nI (k + 1) from nI_add k 1, hy, l1_s]
          by_cases z : nI p ≤ nI q
          · exact ⟨d - 1, (nI r, nI (k + 1)), (nI r, nI (k + 1)), by omega, ⟨k + 1, r, by omega, by omega, rfl, rfl⟩, ex r (if_pos z), em r (if_pos z)⟩
          · exact ⟨d - 1, (nI k, nI (k + 1)), (nI k, nI (k + 1)), by omega, ⟨k + 1, k, by omega, by omega, rfl, rfl⟩, ex k (if_neg z), em k (if_neg z)⟩) (kd - 1) (zFU - 1) zFU (nI 0, nI 1) (0, 1) (by have := zFU_ge; omega) (by have := zFU_ge; omega) ⟨1, 0, by omega, by omega, rfl, rfl⟩
      exact ⟨t, congrArg (fun x => b1_ x fun e7 => some e7) x1, (congrArg (fun x => b1_ x fun e7 => some e7) x2).trans (by rw [x3]; rfl)⟩
  · rw [e1, e2, if_neg Bool.false_ne_true, bo_s, if_neg Bool.false_ne_true]
    exact ⟨_, rfl, rfl⟩
