/-! ===== phase 2: orders, sure, ask ===== -/
theorem ogen_in : ∀ n : Fin 6, ∀ P ∈ ogen n.1 n.1 [], ∀ j : Fin 5, P.getD j.1 5 < n.1 ∨ P.getD j.1 5 = 5 := by decide +kernel
theorem otw_le {F : List Nat → Bool} {L : List (List Nat)} {j k : Nat} : otw F L j k ≤ ocl F L := by
  unfold otw ocl
  have : (L.filter fun P => F P && P.getD j 5 == k) = (L.filter F).filter (fun P => P.getD j 5 == k) := by
    rw [List.filter_filter]
    congr 1
    funext P
    exact Bool.and_comm _ _
  rw [this]
  exact List.length_filter_le _ _
theorem orders_c {MX MM : Mem} {b mn kd bn hr : Nat} (h : RP MX.1 MM.1 b mn kd bn hr) (x : Int32) : ∃ (C : Nat) (T : Nat → Nat → Nat) (MX' MM' : Mem), X8_countOrders x MX = some (nI C, MX') ∧ X12_layOrders x MM = some MM' ∧ RP MX'.1 MM'.1 b mn kd bn hr ∧ OX MX' C T ∧ OMc MM' C T ∧ C ≤ 120 ∧ (∀ j k, T j k ≤ C) ∧ ∀ j k, j < 5 → k < 5 → min mn bn ≤ k → T j k = 0 := by
  obtain ⟨c1, ha1, ha2, a3', a4, a5, c2, b1, b2, b3, b4, b5, b6, b7, b8, b9⟩ := h.k
  obtain ⟨ns, t, t1, t2, t3, t4, t5, t6, t7⟩ := id h.2.2.2.2.2.1
  have hn5 : min mn bn ≤ 5 := by omega
  have hCX : OCX MX (min mn bn) ns mn := ⟨hn5, t1, by rw [Nat.min_comm]; exact (readers_c h).1, t3, fun i hi => by
    obtain ⟨⟨m, m1, m2, m3, m4⟩, q, _⟩ := t7 i hi
    refine ⟨⟨m, by omega, m3⟩, ?_⟩
    rcases q with ⟨q, _⟩ | ⟨m', q1, q2, q3, q4⟩
    · exact Or.inl q
    · exact Or.inr ⟨m', by omega, q3⟩⟩
  have hCM : OCM MX MM b mn bn ns := ⟨c2, c1, b2, b6, ha1, a3', t1, t4, fun k hk => h.1.2.2.2.2.2.2.2.2.2.2.1 k (by omega), fun i hi => by
    obtain ⟨⟨m, m1, m2, m3, m4⟩, q, q3, q4, q5, q6⟩ := t7 i hi
    refine ⟨⟨m, by omega, m3, m4⟩, ?_, q3, q4, q5, q6⟩
    rcases q with q | ⟨m', q1, q2, q3, q4⟩
    · exact Or.inl q
    · exact Or.inr ⟨m', by omega, q3, q4⟩⟩
  obtain ⟨MX', e1, f1, r1⟩ := count_c (x := x) hCX
  obtain ⟨MM', e2, f2, r2⟩ := layOrders_c (x := x) hCM
  obtain ⟨p1, p2⟩ := operm ⟨min mn bn, by omega⟩
  have p1' : (ogen (min mn bn) (min mn bn) []).Perm (onum (min mn bn) (min mn bn ^ min mn bn) 0) := p1
  rw [← ocl_perm p1'] at r2
  have eT : (fun j k => otw (ofit MX x ns) (onum (min mn bn) (min mn bn ^ min mn bn) 0) j k) = fun j k => otw (ofit MX x ns) (ogen (min mn bn) (min mn bn) []) j k := by
    funext j k
    exact (otw_perm p1').symm
  rw [eT] at r2
  refine ⟨_, _, MX', MM', e1, e2, h.fr (f1.wk (fun a i z => by unfold SOx at z; unfold SX; omega)) (f2.wk (fun a i z => by unfold SOm at z; unfold SM; omega)), r1, r2, Nat.le_trans (List.length_filter_le _ _) p2, fun j k => otw_le, fun j k hj hk hnk => ?_⟩
  show otw _ _ j k = 0
  unfold otw
  rw [List.length_eq_zero_iff, List.filter_eq_nil_iff]
  intro P hP z
  rw [Bool.and_eq_true, beq_iff_eq] at z
  have := ogen_in ⟨min mn bn, by omega⟩ P hP ⟨j, hj⟩
  simp only at this
  omega
theorem bp_id {x : Option (Int32 × Mem)} : bp_ x (fun v M => some (v, M)) = x := by cases x <;> rfl
theorem p2_orders (a1 : Int32) : zStep RR (fun M => (dO dIM) (X11_orders a1 M)) (fun M => (dO dIM) (X12_orders a1 M)) := zs_MM fun MX MM hR => by
  obtain ⟨b, mn, kd, bn, hr, h⟩ := hR
  obtain ⟨C, T, MX', MM', e1, e2, h', r1, r2, _⟩ := orders_c h a1
  unfold X11_orders X12_orders
  rw [e1, bp_s, e2, bo_s, r2.1]
  exact ⟨_, _, _, rfl, rfl, b, mn, kd, bn, hr, h'⟩
theorem p2_sure (a1 a2 : Int32) : zStep RR (fun M => (dO dIM) (X11_sure a1 a2 M)) (fun M => (dO dIM) (X12_sure a1 a2 M)) := zs_MM fun MX MM hR => by
  obtain ⟨b, mn, kd, bn, hr, h⟩ := hR
  unfold X11_sure X12_sure
  rcases reader_c h a1 with ⟨m, hm, hmb, rfl, q1, q2⟩ | ⟨q1, q2⟩
  · rw [q1, q2, if_pos rfl, bo_s, if_pos rfl]
    obtain ⟨C, T, MX', MM', e1, e2, h', r1, r2, r3, r4, r5⟩ := orders_c h a2
    obtain ⟨c1, ha1, ha2, a3', a4, a5, c2, _⟩ := h'.k
    have hrd := (readers_c h').1
    rw [Nat.min_comm] at hrd
    unfold X8_sureBook
    rw [e1, bp_s, e2, bo_s, bp_id]
    by_cases hC : C = 0
    · subst hC
      rw [if_pos (show nI 0 = 0 from rfl)]
      refine ⟨_, _, _, rfl, ?_, b, mn, kd, bn, hr, h'⟩
      obtain ⟨N, hN⟩ := zFU_s 1 (by omega)
      rw [hN, X12_sure_L1, if_neg (show ¬ (5 : Int32) ≤ 0 by decide), r2.1, if_pos (show nI 0 ≤ 0 by decide), l1_s, if_pos rfl, if_pos (show nI 0 = 0 from rfl)]
    · have hCz : ¬ nI C = 0 := fun z => hC ((nI_eq (a := C) (b := 0) (by omega) (by omega)).mp z)
      rw [if_neg hCz]
      have kx := up_zFU (σ := Int32) (fun N s => X8_sureBook_L1 (nI m) MX' N s) (fun i s => s = nI i ∧ ∀ j, j < i → T m j ≠ C) (fun t => (∃ k, k < min mn bn ∧ T m k = C ∧ (∀ j, j < k → T m j ≠ C) ∧ t = (nI k, MX')) ∨ ((∀ j, j < min mn bn → T m j ≠ C) ∧ t = (-2, MX'))) (min mn bn) (by omega) (by
        rintro N s ⟨rfl, q⟩
        refine ⟨(-2, MX'), ?_, Or.inr ⟨q, rfl⟩⟩
        show X8_sureBook_L1 (nI m) MX' (N + 1) (nI (min mn bn)) = _
        rw [X8_sureBook_L1, hrd, if_pos (nI_le (by omega) (by omega))]) (by
        rintro N i s hi ⟨rfl, q⟩
        have e : X8_sureBook_L1 (nI m) MX' (N + 1) (nI i) = if nI (T m i) = nI C then some (nI i, MX') else X8_sureBook_L1 (nI m) MX' N (nI (i + 1)) := by
          rw [X8_sureBook_L1, hrd, if_neg (nI_ge hi (by omega)), show nI m * 5 = nI (5 * m) by rw [show nI m * 5 = nI (m * 5) from nI_mul m 5, Nat.mul_comm], nI_add, xc_in (by rw [zlX_62]; omega), r1.2 m i (by omega) (by omega), r1.1, show nI i + 1 = nI (i + 1) from nI_add i 1]
        have hT := r4 m i
        by_cases z : T m i = C
        · right
          exact ⟨(nI i, MX'), by show X8_sureBook_L1 (nI m) MX' (N + 1) (nI i) = _; rw [e, if_pos (by rw [z])], Or.inl ⟨i, hi, z, q, rfl⟩⟩
        · left
          refine ⟨nI (i + 1), ⟨rfl, fun j hj => ?_⟩, by show X8_sureBook_L1 (nI m) MX' (N + 1) (nI i) = _; rw [e, if_neg (fun y => z ((nI_eq (by omega) (by omega)).mp y))]⟩
          by_cases y : j = i
          · rw [y]; exact z
          · exact q j (by omega)) 0 0 (by omega) ⟨rfl, fun j hj => by omega⟩
      have km := up_zFU (σ := Int32) (fun N s => X12_sure_L1 (nI m) MM' N s) (fun i s => s = nI i ∧ ∀ j, j < i → T m j ≠ C) (fun t => (∃ k, k < 5 ∧ T m k = C ∧ (∀ j, j < k → T m j ≠ C) ∧ t = (nI k, MM')) ∨ ((∀ j, j < 5 → T m j ≠ C) ∧ t = (-2, MM'))) 5 (by omega) (by
        rintro N s ⟨rfl, q⟩
        refine ⟨(-2, MM'), ?_, Or.inr ⟨q, rfl⟩⟩
        show X12_sure_L1 (nI m) MM' (N + 1) (nI 5) = _
        rw [X12_sure_L1, if_pos (show (5 : Int32) ≤ nI 5 by decide), l1_s, if_pos rfl, r2.1, if_neg hCz]) (by
        rintro N i s hi ⟨rfl, q⟩
        have e : X12_sure_L1 (nI m) MM' (N + 1) (nI i) = if nI (T m i) = nI C then some (nI i, MM') else X12_sure_L1 (nI m) MM' N (nI (i + 1)) := by
          rw [X12_sure_L1, if_neg (show ¬ (5 : Int32) ≤ nI i from nI_ge (b := 5) hi (by omega)), r2.1, if_neg (show ¬ nI C ≤ 0 from nI_ge (b := C) (a := 0) (by omega) (by omega)), l1_s, if_neg Bool.false_ne_true, show (5 : Int32) * nI m = nI (5 * m) from nI_mul 5 m, nI_add, gd_in (by omega) (by omega), nI_clamp (by omega), r2.2 m i (by omega) hi, show nI i + 1 = nI (i + 1) from nI_add i 1]
        have hT := r4 m i
        by_cases z : T m i = C
        · right
          exact ⟨(nI i, MM'), by show X12_sure_L1 (nI m) MM' (N + 1) (nI i) = _; rw [e, if_pos (by rw [z])], Or.inl ⟨i, hi, z, q, rfl⟩⟩
        · left
          refine ⟨nI (i + 1), ⟨rfl, fun j hj => ?_⟩, by show X12_sure_L1 (nI m) MM' (N + 1) (nI i) = _; rw [e, if_neg (fun y => z ((nI_eq (by omega) (by omega)).mp y))]⟩
          by_cases y : j = i
          · rw [y]; exact z
          · exact q j (by omega)) 0 0 (by omega) ⟨rfl, fun j hj => by omega⟩
      obtain ⟨tx, x1, x2⟩ := kx
      obtain ⟨tm, y1, y2⟩ := km
      have x1' : X8_sureBook_L1 (nI m) MX' zFU 0 = some tx := x1
      have y1' : X12_sure_L1 (nI m) MM' zFU 0 = some tm := y1
      rw [x1', y1']
      rcases x2 with ⟨k, k1, k2, k3, rfl⟩ | ⟨k3, rfl⟩
      · rcases y2 with ⟨j, j1, j2, j3, rfl⟩ | ⟨j3, rfl⟩
        · have : j = k := by
            rcases Nat.lt_trichotomy j k with w | w | w
            · exact absurd j2 (k3 j w)
            · exact w
            · exact absurd k2 (j3 k w)
          subst this
          exact ⟨_, _, _, rfl, rfl, b, mn, kd, bn, hr, h'⟩
        · exact absurd k2 (j3 k (by omega))
      · rcases y2 with ⟨j, j1, j2, j3, rfl⟩ | ⟨j3, rfl⟩
        · by_cases w : j < min mn bn
          · exact absurd j2 (k3 j w)
          · have := r5 m j (by omega) j1 (by omega)
            omega
        · exact ⟨_, _, _, rfl, rfl, b, mn, kd, bn, hr, h'⟩
  · rw [q1, q2, if_neg Bool.false_ne_true, bo_s, if_neg Bool.false_ne_true]
    exact ⟨_, _, _, rfl, rfl, b, mn, kd, bn, hr, h⟩
/-- the greatest of the first k -/
def omx (t : Nat → Nat) : Nat → Nat
  | 0 => 0
  | k + 1 => max (omx t k) (t k)
theorem omx_le {t : Nat → Nat} {c : Nat} (h : ∀ k, t k ≤ c) : ∀ k, omx t k ≤ c
  | 0 => Nat.zero_le c
  | k + 1 => Nat.max_le.mpr ⟨omx_le h k, h k⟩
theorem omx_z {t : Nat → Nat} {n : Nat} : ∀ d, (∀ k, n ≤ k → k < n + d → t k = 0) → omx t (n + d) = omx t n
  | 0, _ => rfl
  | d + 1, h => by
    show max (omx t (n + d)) (t (n + d)) = omx t n
    rw [omx_z d (fun k h1 h2 => h k h1 (by omega)), h (n + d) (by omega) (by omega)]
    omega
theorem mostLeft_c {M : Mem} {C n m : Nat} {T : Nat → Nat → Nat} (hn : n ≤ 5) (hm : m < 5) (hr : X3_readers 23 M = nI n) (hT : OX M C T) (hC : C ≤ 120) (hTC : ∀ j k, T j k ≤ C) : X8_mostLeft (nI m) M = some (nI (omx (T m) n)) := by
  have k1 := up_zFU (σ := Int32 × Int32) (fun N s => X8_mostLeft_L1 (nI m) M N s.1 s.2) (fun i s => s = (nI (omx (T m) i), nI i)) (fun t => t = nI (omx (T m) n)) n (by omega) (by
    rintro N s rfl
    exact ⟨_, by show X8_mostLeft_L1 (nI m) M (N + 1) (nI (omx (T m) n)) (nI n) = some (nI (omx (T m) n)); rw [X8_mostLeft_L1, hr, if_pos (nI_le (by omega) (by omega))], rfl⟩) (by
    rintro N i s hi rfl
    left
    refine ⟨(nI (omx (T m) (i + 1)), nI (i + 1)), rfl, ?_⟩
    have q1 := omx_le (hTC m) i
    have q2 := hTC m i
    show X8_mostLeft_L1 (nI m) M (N + 1) (nI (omx (T m) i)) (nI i) = X8_mostLeft_L1 (nI m) M N (nI (max (omx (T m) i) (T m i))) (nI (i + 1))
    rw [X8_mostLeft_L1, hr, if_neg (nI_ge hi (by omega)), show nI m * 5 = nI (5 * m) by rw [show nI m * 5 = nI (m * 5) from nI_mul m 5, Nat.mul_comm], nI_add, xc_in (by rw [zlX_62]; omega), hT.2 m i hm (by omega), show nI i + 1 = nI (i + 1) from nI_add i 1]
    by_cases z : omx (T m) i < T m i
    · rw [if_pos (nI_lt z (by omega)), lt_e, Nat.max_eq_right (by omega)]
    · rw [if_neg (nI_nlt (by omega) (by omega)), lt_e, Nat.max_eq_left (by omega)]) (0, 0) 0 (by omega) rfl
  obtain ⟨t, e, rfl⟩ := k1
  unfold X8_mostLeft
  rw [show X8_mostLeft_L1 (nI m) M zFU 0 0 = _ from e, b1_s]
theorem askL2_c {M : Mem} {C m : Nat} {T : Nat → Nat → Nat} (hm : m < 5) (hT : OMc M C T) (hC : C ≤ 120) (hTC : ∀ j k, T j k ≤ C) : X12_ask_L2 (nI m) M zFU 0 0 = some (nI (omx (T m) 5)) := by
  have k1 := up_zFU (σ := Int32 × Int32) (fun N s => X12_ask_L2 (nI m) M N s.1 s.2) (fun i s => s = (nI (omx (T m) i), nI i)) (fun t => t = nI (omx (T m) 5)) 5 (by omega) (by
    rintro N s rfl
    exact ⟨_, by show X12_ask_L2 (nI m) M (N + 1) (nI (omx (T m) 5)) (nI 5) = some (nI (omx (T m) 5)); rw [X12_ask_L2, if_pos (by decide)], rfl⟩) (by
    rintro N i s hi rfl
    left
    refine ⟨(nI (omx (T m) (i + 1)), nI (i + 1)), rfl, ?_⟩
    have q1 := omx_le (hTC m) i
    have q2 := hTC m i
    show X12_ask_L2 (nI m) M (N + 1) (nI (omx (T m) i)) (nI i) = X12_ask_L2 (nI m) M N (nI (max (omx (T m) i) (T m i))) (nI (i + 1))
    rw [X12_ask_L2, if_neg (show ¬ (5 : Int32) ≤ nI i from nI_ge (b := 5) hi (by omega)), show (5 : Int32) * nI m = nI (5 * m) from nI_mul 5 m, nI_add, gd_in (by omega) (by omega), nI_clamp (by omega), hT.2 m i hm (by omega), show nI i + 1 = nI (i + 1) from nI_add i 1]
    by_cases z : omx (T m) i < T m i
    · rw [if_neg (nI_ge z (by omega)), lt_e, l1_s, Nat.max_eq_right (by omega)]
    · rw [if_pos (nI_le (by omega) (by omega)), l1_s, Nat.max_eq_left (by omega)]) (0, 0) 0 (by omega) rfl
  obtain ⟨t, e, rfl⟩ := k1
  exact e
theorem p2_ask (a1 a2 : Int32) : zStep RR (fun M => (dO dIM) (X11_ask a1 a2 M)) (fun M => (dO dIM) (X12_ask a1 a2 M)) := zs_MM fun MX MM hR => by
  obtain ⟨b, mn, kd, bn, hr, h⟩ := hR
  unfold X11_ask X12_ask
  by_cases g1 : a1 < 0
  · rw [if_pos g1, isIn_neg g1, if_neg Bool.false_ne_true]
    exact ⟨_, _, _, rfl, rfl, b, mn, kd, bn, hr, h⟩
  rw [if_neg g1]
  obtain ⟨w, hw, rfl⟩ := nI_of g1
  rw [show X12_isIn (nI w) 0 1 = decide (w ≤ 1) from isIn_le (n := 1) hw (by omega)]
  by_cases g2 : w ≤ 1
  · rw [if_pos (show nI w ≤ 1 from nI_le (b := 1) g2 (by omega)), decide_eq_true g2, if_pos rfl]
    obtain ⟨C, T, MX', MM', e1, e2, h', r1, r2, r3, r4, r5⟩ := orders_c h a2
    obtain ⟨c1, ha1, ha2, a3', a4, a5, c2, _⟩ := h'.k
    have hrd := (readers_c h').1
    have hfs := (readers_c h').2
    rw [Nat.min_comm] at hrd
    have h5 : min mn bn ≤ 5 := by omega
    unfold X8_manToAsk
    rw [e1, bp_s, e2, bo_s]
    by_cases hC : C = 0
    · subst hC
      rw [if_pos (show nI 0 = 0 from rfl), bp_s, if_pos rfl]
      obtain ⟨N, hN⟩ := zFU_s 1 (by omega)
      have : X12_ask_L1 MM' zFU (-1) 0 0 = some (-1, 0) := by
        rw [hN, X12_ask_L1, hfs, bo_s, r2.1]
        by_cases z : nI (min mn bn) ≤ 0
        · rw [if_pos z]
        · rw [if_neg z, if_pos (by decide)]
      rw [this, b2_s, if_neg (by decide)]
      exact ⟨_, _, _, rfl, rfl, b, mn, kd, bn, hr, h'⟩
    · have hCz : ¬ nI C = 0 := fun z => hC ((nI_eq (a := C) (b := 0) (by omega) (by omega)).mp z)
      have hmx : ∀ m, m < 5 → omx (T m) 5 = omx (T m) (min mn bn) := fun m hm => by
        have := omx_z (t := T m) (n := min mn bn) (5 - min mn bn) (fun k k1 k2 => r5 m k hm (by omega) k1)
        rw [show min mn bn + (5 - min mn bn) = 5 by omega] at this
        exact this
      have key := two_zFU (σ := Int32 × Int32) (σ' := Int32 × Int32 × Int32) (fun N s => X8_manToAsk_L1 MX' N s.1 s.2) (fun N s => X12_ask_L1 MM' N s.1 s.2.1 s.2.2)
        (fun d s s' => ∃ i, i + d = min mn bn ∧ ((i = 0 ∧ s = (-1, nI i) ∧ s' = (-1, 0, nI i)) ∨ ∃ k, k < min mn bn ∧ s = (nI k, nI i) ∧ s' = (nI k, nI (omx (T k) 5), nI i)))
        (fun t t' => (t = -1 ∧ t' = (-1, 0)) ∨ ∃ k, k < min mn bn ∧ t = nI k ∧ t' = (nI k, nI (omx (T k) 5))) ?_ (min mn bn) (-1, 0) (-1, 0, 0) (by omega) ⟨0, by omega, Or.inl ⟨rfl, rfl, rfl⟩⟩
      · obtain ⟨t, t', x1, x2, q⟩ := key
        rw [if_neg hCz, show X8_manToAsk_L1 MX' zFU (-1) 0 = _ from x1, b1_s, bp_s, show X12_ask_L1 MM' zFU (-1) 0 0 = _ from x2]
        rcases q with ⟨rfl, rfl⟩ | ⟨k, hk, rfl, rfl⟩
        · rw [if_pos rfl, b2_s, if_neg (by decide)]
          exact ⟨_, _, _, rfl, rfl, b, mn, kd, bn, hr, h'⟩
        · rw [if_neg (nI_nm1 (by omega)), b2_s, if_pos (show (0 : Int32) ≤ nI k from nI_le (a := 0) (b := k) (by omega) (by omega))]
          by_cases z : nI w = 0
          · rw [if_pos z, if_pos z]
            exact ⟨_, _, _, rfl, rfl, b, mn, kd, bn, hr, h'⟩
          · rw [if_neg z, if_neg z, mostLeft_c h5 (by omega) hrd r1 r3 r4, bo_s, hmx k (by omega)]
            exact ⟨_, _, _, rfl, rfl, b, mn, kd, bn, hr, h'⟩
      · rintro N N' d s s' ⟨i, hd, hs⟩
        by_cases hi : i = min mn bn
        · left
          rcases hs with ⟨i0, rfl, rfl⟩ | ⟨k, hk, rfl, rfl⟩
          · refine ⟨-1, (-1, 0), ?_, ?_, Or.inl ⟨rfl, rfl⟩⟩
            · show X8_manToAsk_L1 MX' (N + 1) (-1) (nI i) = _
              rw [X8_manToAsk_L1, hrd, if_pos (nI_le (by omega) (by omega))]
            · show X12_ask_L1 MM' (N' + 1) (-1) 0 (nI i) = _
              rw [X12_ask_L1, hfs, bo_s, if_pos (nI_le (by omega) (by omega))]
          · refine ⟨nI k, (nI k, nI (omx (T k) 5)), ?_, ?_, Or.inr ⟨k, hk, rfl, rfl⟩⟩
            · show X8_manToAsk_L1 MX' (N + 1) (nI k) (nI i) = _
              rw [X8_manToAsk_L1, hrd, if_pos (nI_le (by omega) (by omega))]
            · show X12_ask_L1 MM' (N' + 1) (nI k) (nI (omx (T k) 5)) (nI i) = _
              rw [X12_ask_L1, hfs, bo_s, if_pos (nI_le (by omega) (by omega))]
        · right
          have hin : i < min mn bn := by omega
          have ea := askL2_c (m := i) (by omega) r2 r3 r4
          have el := mostLeft_c (m := i) h5 (by omega) hrd r1 r3 r4
          have c80 : ¬ MM'.1 0 80 ≤ 0 := by rw [r2.1]; exact nI_ge (b := C) (a := 0) (by omega) (by omega)
          have st2 : ∀ c3 c4 : Int32, X12_ask_L1 MM' (N' + 1) c3 c4 (nI i) = if (c3 < 0 ∨ nI (omx (T i) 5) < c4) then X12_ask_L1 MM' N' (nI i) (nI (omx (T i) 5)) (nI (i + 1)) else X12_ask_L1 MM' N' c3 c4 (nI (i + 1)) := fun c3 c4 => by
            rw [X12_ask_L1, hfs, bo_s, if_neg (nI_ge hin (by omega)), if_neg c80, ea, b1_s, show nI i + 1 = nI (i + 1) from nI_add i 1]
            by_cases z1 : c3 < 0
            · rw [if_pos z1, l1_s, if_pos rfl, if_pos (Or.inl z1)]; rfl
            · rw [if_neg z1]
              by_cases z2 : nI (omx (T i) 5) < c4
              · rw [if_pos z2, l1_s, if_pos rfl, if_pos (Or.inr z2)]; rfl
              · rw [if_neg z2, l1_s, if_neg Bool.false_ne_true, if_neg (fun y => y.elim z1 z2)]; rfl
          rcases hs with ⟨i0, rfl, rfl⟩ | ⟨k, hk, rfl, rfl⟩
          · refine ⟨d - 1, (nI i, nI (i + 1)), (nI i, nI (omx (T i) 5), nI (i + 1)), by omega, ⟨i + 1, by omega, Or.inr ⟨i, hin, rfl, rfl⟩⟩, ?_, ?_⟩
            · show X8_manToAsk_L1 MX' (N + 1) (-1) (nI i) = X8_manToAsk_L1 MX' N (nI i) (nI (i + 1))
              rw [X8_manToAsk_L1, hrd, if_neg (nI_ge hin (by omega)), if_pos rfl, b1_s, if_pos rfl, b1_s, show nI i + 1 = nI (i + 1) from nI_add i 1]
            · show X12_ask_L1 MM' (N' + 1) (-1) 0 (nI i) = X12_ask_L1 MM' N' (nI i) (nI (omx (T i) 5)) (nI (i + 1))
              rw [st2, if_pos (Or.inl (by decide))]
          · have el2 := mostLeft_c (m := k) h5 (by omega) hrd r1 r3 r4
            have q1 := omx_le (r4 i) (min mn bn)
            have q2 := omx_le (r4 k) (min mn bn)
            have sx : X8_manToAsk_L1 MX' (N + 1) (nI k) (nI i) = if nI (omx (T k) (min mn bn)) ≤ nI (omx (T i) (min mn bn)) then X8_manToAsk_L1 MX' N (nI k) (nI (i + 1)) else X8_manToAsk_L1 MX' N (nI i) (nI (i + 1)) := by
              rw [X8_manToAsk_L1, hrd, if_neg (nI_ge hin (by omega)), if_neg (nI_nm1 (by omega)), el, bo_s, el2, bo_s, show nI i + 1 = nI (i + 1) from nI_add i 1]
              by_cases z : nI (omx (T k) (min mn bn)) ≤ nI (omx (T i) (min mn bn))
              · rw [if_pos z, b1_s, if_neg Bool.false_ne_true, b1_s, if_pos z]
              · rw [if_neg z, b1_s, if_pos rfl, b1_s, if_neg z]
            have sm := st2 (nI k) (nI (omx (T k) 5))
            rw [hmx i (by omega), hmx k (by omega)] at sm
            by_cases z : omx (T k) (min mn bn) ≤ omx (T i) (min mn bn)
            · refine ⟨d - 1, (nI k, nI (i + 1)), (nI k, nI (omx (T k) 5), nI (i + 1)), by omega, ⟨i + 1, by omega, Or.inr ⟨k, hk, rfl, rfl⟩⟩, ?_, ?_⟩
              · exact sx.trans (if_pos (nI_le z (by omega)))
              · show X12_ask_L1 MM' (N' + 1) (nI k) (nI (omx (T k) 5)) (nI i) = X12_ask_L1 MM' N' (nI k) (nI (omx (T k) 5)) (nI (i + 1))
                rw [hmx k (by omega)]
                exact sm.trans (if_neg (fun y => y.elim (nI_pos (by omega)) (nI_nlt z (by omega))))
            · refine ⟨d - 1, (nI i, nI (i + 1)), (nI i, nI (omx (T i) 5), nI (i + 1)), by omega, ⟨i + 1, by omega, Or.inr ⟨i, hin, rfl, rfl⟩⟩, ?_, ?_⟩
              · exact sx.trans (if_neg (nI_ge (by omega) (by omega)))
              · show X12_ask_L1 MM' (N' + 1) (nI k) (nI (omx (T k) 5)) (nI i) = X12_ask_L1 MM' N' (nI i) (nI (omx (T i) 5)) (nI (i + 1))
                rw [hmx k (by omega), hmx i (by omega)]
                exact sm.trans (if_pos (Or.inr (nI_lt (by omega) (by omega))))
  · rw [if_neg (show ¬ nI w ≤ 1 from nI_ge (b := w) (a := 1) (by omega) hw), decide_eq_false g2, if_neg Bool.false_ne_true]
    exact ⟨_, _, _, rfl, rfl, b, mn, kd, bn, hr, h⟩
