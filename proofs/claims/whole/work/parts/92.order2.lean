/-! ===== phase 2: the orders of the books, the class's search ===== -/
theorem ogen_s (n f : Nat) (pre : List Nat) : ogen n (f + 1) pre = (List.range' 0 n).flatMap fun k => if k ∈ pre then [] else ogen n f (pre ++ [k]) := by rw [ogen]
theorem getD_app_lt {L : List Nat} {k j d : Nat} (h : j < L.length) : (L ++ [k]).getD j d = L.getD j d := by
  rw [List.getD_eq_getElem?_getD, List.getD_eq_getElem?_getD, List.getElem?_append_left h]
theorem getD_app_eq {L : List Nat} {k d : Nat} : (L ++ [k]).getD L.length d = k := by
  rw [List.getD_eq_getElem?_getD, List.getElem?_append_right (Nat.le_refl _), Nat.sub_self]
  rfl
theorem getD_lt {L : List Nat} {n j : Nat} (h : ∀ k, k ∈ L → k < n) (hj : j < L.length) : L.getD j 0 < n := by
  rw [List.getD_eq_getElem?_getD, List.getElem?_eq_getElem hj]
  exact h _ (List.getElem_mem hj)
theorem gb_c {x : Int32} {n ns mn : Nat} {F : List Nat → Bool} : ∀ f : Nat, ∀ (pre : List Nat) (g : Nat) (M : Mem) (c : Nat) (T : Nat → Nat → Nat), OCX M n ns mn → (∀ L, ofit M x ns L = F L) → pre.length + f = n → (∀ k, k ∈ pre → k < n) → f < g → (∀ j, j < pre.length → M.1 60 j = nI (pre.getD j 0)) → (∀ k, k < n → M.1 61 k = if k ∈ pre then 1 else 0) → OX M c T →
    ∃ M', X8_gb g (nI pre.length) x M = some M' ∧ Fr SOx M M' ∧ (∀ j, j < pre.length → M'.1 60 j = M.1 60 j) ∧ (∀ k, k < n → M'.1 61 k = M.1 61 k) ∧ OX M' (c + ocl F (ogen n f pre)) (fun j k => T j k + otw F (ogen n f pre) j k) := by
  intro f
  induction f with
  | zero =>
    intro pre g M c T hC hF hl hp hg h60 h61 hT
    obtain ⟨g, rfl⟩ : ∃ k, g = k + 1 := ⟨g - 1, by omega⟩
    have hn := hC.1
    have hlen : pre.length = n := by omega
    obtain ⟨M', e, f, q⟩ := tally_c (x := x) hC hlen (fun j hj => h60 j (by omega)) (fun j hj => by have := getD_lt hp (j := j) (by omega); omega) hT
    refine ⟨M', ?_, f.wk (fun a i z => by unfold SOy at z; unfold SOx; omega), fun j _ => f.2 60 j (by unfold SOy; omega), fun k _ => f.2 61 k (by unfold SOy; omega), ?_⟩
    · show X8_giveBooks (X8_gb g) (nI pre.length) x M = some M'
      unfold X8_giveBooks
      rw [hC.2.2.1, if_pos (nI_le (by omega) (by omega)), l1_s, if_pos rfl, e, bo_s]
    · have eF : (ofit M x ns) = F := funext hF
      rw [eF] at q
      exact q
  | succ f ih =>
    intro pre g M c T hC hF hl hp hg h60 h61 hT
    obtain ⟨g, rfl⟩ : ∃ k, g = k + 1 := ⟨g - 1, by omega⟩
    have hn := hC.1
    have loop : ∀ (r k : Nat), k + r = n → ∀ (N : Nat) (M1 : Mem) (c1 : Nat) (T1 : Nat → Nat → Nat), r < N → Fr SOx M M1 → (∀ j, j < pre.length → M1.1 60 j = nI (pre.getD j 0)) → (∀ k, k < n → M1.1 61 k = if k ∈ pre then 1 else 0) → OX M1 c1 T1 →
        ∃ M', X8_giveBooks_L1 (X8_gb g) (nI pre.length) x N (nI k) M1 = some M' ∧ Fr SOx M M' ∧ (∀ j, j < pre.length → M'.1 60 j = nI (pre.getD j 0)) ∧ (∀ k, k < n → M'.1 61 k = if k ∈ pre then 1 else 0) ∧ OX M' (c1 + ocl F ((List.range' k r).flatMap fun k => if k ∈ pre then [] else ogen n f (pre ++ [k]))) (fun j i => T1 j i + otw F ((List.range' k r).flatMap fun k => if k ∈ pre then [] else ogen n f (pre ++ [k])) j i) := by
      intro r
      induction r with
      | zero =>
        intro k hk N M1 c1 T1 hN f1 g60 g61 gT
        obtain ⟨N, rfl⟩ : ∃ k, N = k + 1 := ⟨N - 1, by omega⟩
        refine ⟨M1, ?_, f1, g60, g61, gT⟩
        rw [X8_giveBooks_L1, (hC.fr f1).2.2.1, if_pos (nI_le (by omega) (by omega))]
      | succ r ih2 =>
        intro k hk N M1 c1 T1 hN f1 g60 g61 gT
        obtain ⟨N, rfl⟩ : ∃ k, N = k + 1 := ⟨N - 1, by omega⟩
        have hkn : k < n := by omega
        rw [X8_giveBooks_L1, (hC.fr f1).2.2.1, if_neg (nI_ge hkn (by omega)), xc_in (by rw [zlX_61]; omega), g61 k hkn, show nI k + 1 = nI (k + 1) from nI_add k 1, List.range'_succ, List.flatMap_cons]
        by_cases hm : k ∈ pre
        · rw [if_pos hm, if_pos hm, if_neg (by decide), b1_s, List.nil_append]
          exact ih2 (k + 1) (by omega) N M1 c1 T1 (by omega) f1 g60 g61 gT
        · rw [if_neg hm, if_neg hm, if_pos rfl, xp_in (by rw [zlX_61]; omega), lt_e, xp_in (by rw [zlX_60]; omega), lt_e]
          have fU : Fr SOx M1 (uI (uI M1 61 k 1) 60 pre.length (nI k)) := (Fr.rf.up _ (by unfold SOx; omega)).up _ (by unfold SOx; omega)
          have f2 := f1.tr fU
          obtain ⟨M2, e2, f3, q1, q2, q3⟩ := ih (pre ++ [k]) g (uI (uI M1 61 k 1) 60 pre.length (nI k)) c1 T1 (hC.fr f2) (fun L => by rw [ofit_fr f2]; exact hF L) (by rw [List.length_append, List.length_singleton]; omega) (fun i hi => by
            rcases List.mem_append.mp hi with h | h
            · exact hp i h
            · rw [List.mem_singleton.mp h]; exact hkn) (by omega) (fun j hj => by
            rw [List.length_append, List.length_singleton] at hj
            by_cases z : j = pre.length
            · rw [z, uI_eq, getD_app_eq]
            · rw [uI_ne (by omega), uI_ne (by omega), getD_app_lt (by omega)]; exact g60 j (by omega)) (fun i hi => by
            rw [uI_ne (by omega)]
            by_cases z : i = k
            · rw [z, uI_eq, if_pos (by simp)]
            · rw [uI_ne (by omega), g61 i hi]
              by_cases y : i ∈ pre
              · rw [if_pos y, if_pos (List.mem_append.mpr (Or.inl y))]
              · rw [if_neg y, if_neg (fun w => (List.mem_append.mp w).elim y (fun w => z (List.mem_singleton.mp w)))]) ⟨gT.1, fun j i hj hi => by rw [uI_ne (by omega), uI_ne (by omega)]; exact gT.2 j i hj hi⟩
          rw [List.length_append, List.length_singleton] at e2 q1
          rw [show nI pre.length + 1 = nI (pre.length + 1) from nI_add _ 1, e2, bo_s, xp_in (by rw [zlX_61]; omega), lt_e, b1_s]
          obtain ⟨M3, e3, f4, w1, w2, w3⟩ := ih2 (k + 1) (by omega) N (uI M2 61 k 0) _ _ (by omega) ((f2.tr f3).up _ (by unfold SOx; omega)) (fun j hj => by rw [uI_ne (by omega), q1 j (by omega), uI_ne (by omega), uI_ne (by omega)]; exact g60 j hj) (fun i hi => by
            by_cases z : i = k
            · rw [z, uI_eq, if_neg hm]
            · rw [uI_ne (by omega), q2 i hi, uI_ne (by omega), uI_ne (by omega)]; exact g61 i hi) (⟨q3.1, fun j i hj hi => by rw [uI_ne (by omega)]; exact q3.2 j i hj hi⟩ : OX (uI M2 61 k 0) _ _)
          refine ⟨M3, e3, f4, w1, w2, ?_⟩
          refine ⟨?_, fun j i hj hi => ?_⟩
          · rw [ocl_app, ← Nat.add_assoc]; exact w3.1
          · simp only [otw_app, ← Nat.add_assoc]; exact w3.2 j i hj hi
    have hz := zFU_ge
    obtain ⟨M', e, fM, q1, q2, q3⟩ := loop n 0 (by omega) zFU M c T (by omega) Fr.rf h60 h61 hT
    refine ⟨M', ?_, fM, fun j hj => (q1 j hj).trans (h60 j hj).symm, fun k hk => (q2 k hk).trans (h61 k hk).symm, by rw [ogen_s]; exact q3⟩
    show X8_giveBooks (X8_gb g) (nI pre.length) x M = some M'
    unfold X8_giveBooks
    rw [hC.2.2.1, if_neg (nI_ge (by omega) (by omega)), if_pos (show nI pre.length < 5 from nI_lt (b := 5) (by omega) (by omega)), l1_s, if_neg Bool.false_ne_true, show (0 : Int32) = nI 0 from rfl, e, b1_s]
theorem count_c {MX : Mem} {x : Int32} {n ns mn : Nat} (hC : OCX MX n ns mn) : ∃ M', X8_countOrders x MX = some (nI (ocl (ofit MX x ns) (ogen n n [])), M') ∧ Fr SOx MX M' ∧ OX M' (ocl (ofit MX x ns) (ogen n n [])) (fun j k => otw (ofit MX x ns) (ogen n n []) j k) := by
  have hn := hC.1
  have k1 := up_zFU (σ := Int32 × Mem) (fun n s => X8_countOrders_L1 n s.1 s.2) (fun i s => ∃ M1, s = (nI i, M1) ∧ Fr (fun a i => a = 62) (uI MX 53 12 0) M1 ∧ ∀ j, j < i → M1.1 62 j = nI 0) (fun M1 => Fr (fun a i => a = 62) (uI MX 53 12 0) M1 ∧ ∀ j, j < 25 → M1.1 62 j = nI 0) 25 (by omega) (by
    rintro N s ⟨M1, rfl, f, g⟩
    exact ⟨M1, by show X8_countOrders_L1 (N + 1) (nI 25) M1 = some M1; rw [X8_countOrders_L1, if_pos (by decide)], f, g⟩) (by
    rintro N i s hi ⟨M1, rfl, f, g⟩
    left
    refine ⟨(nI (i + 1), uI M1 62 i 0), ⟨_, rfl, f.up _ rfl, fun j hj => ?_⟩, ?_⟩
    · by_cases h : j = i
      · rw [h, uI_eq]; rfl
      · rw [uI_ne (by omega), g j (by omega)]
    · show X8_countOrders_L1 (N + 1) (nI i) M1 = X8_countOrders_L1 N (nI (i + 1)) (uI M1 62 i 0)
      rw [X8_countOrders_L1, if_neg (show ¬ (25 : Int32) ≤ nI i from nI_ge (b := 25) hi (by omega)), gd_in (by omega) (by omega), nI_clamp (by omega), lt_e, show nI i + 1 = nI (i + 1) from nI_add i 1]) (0, uI MX 53 12 0) 0 (by omega) ⟨_, rfl, Fr.rf, fun j hj => by omega⟩
  obtain ⟨M1, e1, f1, z1⟩ := k1
  have k2 := up_zFU (σ := Int32 × Mem) (fun n s => X8_countOrders_L2 n s.1 s.2) (fun i s => ∃ M2, s = (nI i, M2) ∧ Fr (fun a i => a = 61) M1 M2 ∧ ∀ j, j < i → M2.1 61 j = 0) (fun M2 => Fr (fun a i => a = 61) M1 M2 ∧ ∀ j, j < 5 → M2.1 61 j = 0) 5 (by omega) (by
    rintro N s ⟨M2, rfl, f, g⟩
    exact ⟨M2, by show X8_countOrders_L2 (N + 1) (nI 5) M2 = some M2; rw [X8_countOrders_L2, if_pos (by decide)], f, g⟩) (by
    rintro N i s hi ⟨M2, rfl, f, g⟩
    left
    refine ⟨(nI (i + 1), uI M2 61 i 0), ⟨_, rfl, f.up _ rfl, fun j hj => ?_⟩, ?_⟩
    · by_cases h : j = i
      · rw [h, uI_eq]
      · rw [uI_ne (by omega), g j (by omega)]
    · show X8_countOrders_L2 (N + 1) (nI i) M2 = X8_countOrders_L2 N (nI (i + 1)) (uI M2 61 i 0)
      rw [X8_countOrders_L2, if_neg (show ¬ (5 : Int32) ≤ nI i from nI_ge (b := 5) hi (by omega)), gd_in (by omega) (by omega), nI_clamp (by omega), lt_e, show nI i + 1 = nI (i + 1) from nI_add i 1]) (0, M1) 0 (by omega) ⟨_, rfl, Fr.rf, fun j hj => by omega⟩
  obtain ⟨M2, e2, f2, z2⟩ := k2
  have fx : Fr SOx MX M2 := ((Fr.rf.up _ (by unfold SOx; omega)).tr (f1.wk (fun a i z => by unfold SOx; omega))).tr (f2.wk (fun a i z => by unfold SOx; omega))
  obtain ⟨M', e3, f3, _, _, q⟩ := gb_c (x := x) (F := ofit MX x ns) n [] 8 M2 0 (fun _ _ => 0) (hC.fr fx) (fun L => ofit_fr fx) (by simp) (fun k hk => by simp at hk) (by omega) (fun j hj => by simp at hj) (fun k hk => by rw [z2 k (by omega), if_neg (by simp)]) ⟨by rw [f2.2 53 12 (by omega), f1.2 53 12 (by omega)]; rfl, fun j k hj hk => by rw [f2.2 62 _ (by omega)]; exact z1 _ (by omega)⟩
  refine ⟨M', ?_, fx.tr f3, ?_⟩
  · unfold X8_countOrders
    have h12 := q.1
    rw [Nat.zero_add] at h12
    rw [lt_e, show X8_countOrders_L1 zFU 0 (uI MX 53 12 0) = _ from e1, b1_s, show X8_countOrders_L2 zFU 0 M1 = _ from e2, b1_s, show X8_gb 8 0 x M2 = _ from e3, bo_s, h12]
  · exact ⟨by rw [q.1, Nat.zero_add], fun j k hj hk => by rw [q.2 j k hj hk]; simp only [Nat.zero_add]⟩
