/-! ===== phase 2: the orders of the books, the reference's count ===== -/
theorem omask_fin : ∀ (m : Fin 32) (d : Fin 5), nI m.1 ||| ((1 : Int32) <<< (nI d.1 &&& 31)) = nI (m.1 ||| 2 ^ d.1) ∧ (m.1 ||| 2 ^ d.1) < 32 ∧ ∀ e : Fin 5, ((m.1 ||| 2 ^ d.1) / 2 ^ e.1 % 2 = 1 ↔ m.1 / 2 ^ e.1 % 2 = 1 ∨ e = d) := by decide +kernel
theorem okd_0 {n v : Nat} {pre : List Nat} : okd n 0 v pre = some pre := by rw [okd]
theorem okd_s {n f v : Nat} {pre : List Nat} : okd n (f + 1) v pre = if v % n ∈ pre then none else okd n f (v / n) (pre ++ [v % n]) := by rw [okd]
theorem layOrder_c {n : Nat} (hn : n ≤ 5) : ∀ f : Nat, ∀ (pre : List Nat) (v mask : Nat) (M : Mem) (N : Nat), f < N → pre.length + f = n → v < 2 ^ 31 → mask < 32 → (∀ e, e < 5 → (mask / 2 ^ e % 2 = 1 ↔ e ∈ pre)) → (∀ k, k ∈ pre → k < n) → (∀ j, j < pre.length → M.1 51 j = nI (pre.getD j 0)) → (∀ M', Fr (fun a _ => a = 51) M M' → X12_firsts M' = some (nI n)) →
    ∃ ok M', X12_layOrder_L1 N (nI v) (nI mask) (nI pre.length) M = some (ok, M') ∧ Fr (fun a _ => a = 51) M M' ∧ ((okd n f v pre = none ∧ ok = false) ∨ ∃ L, okd n f v pre = some L ∧ ok = true ∧ L.length = n ∧ (∀ k, k ∈ L → k < n) ∧ ∀ j, j < n → M'.1 51 j = nI (L.getD j 0)) := by
  intro f
  induction f with
  | zero =>
    intro pre v mask M N hN hl hv hm hmask hp h51 hfst
    obtain ⟨N, rfl⟩ : ∃ k, N = k + 1 := ⟨N - 1, by omega⟩
    refine ⟨true, M, ?_, Fr.rf, Or.inr ⟨pre, okd_0, rfl, by omega, hp, fun j hj => h51 j (by omega)⟩⟩
    rw [X12_layOrder_L1, hfst M Fr.rf, bo_s, if_pos (nI_le (by omega) (by omega))]
  | succ f ih =>
    intro pre v mask M N hN hl hv hm hmask hp h51 hfst
    obtain ⟨N, rfl⟩ : ∃ k, N = k + 1 := ⟨N - 1, by omega⟩
    have hn0 : 0 < n := by omega
    have hnz : ¬ nI n = 0 := fun z => by
      have := (nI_eq (a := n) (b := 0) (by omega) (by omega)).mp z
      omega
    have hd : v % n < n := Nat.mod_lt _ hn0
    have fU : Fr (fun a _ => a = 51) M (uI M 51 pre.length (nI (v % n))) := Fr.rf.up _ rfl
    have hst : X12_layOrder_L1 (N + 1) (nI v) (nI mask) (nI pre.length) M = if v % n ∈ pre then some (false, uI M 51 pre.length (nI (v % n))) else X12_layOrder_L1 N (nI (v / n)) (nI (mask ||| 2 ^ (v % n))) (nI (pre.length + 1)) (uI M 51 pre.length (nI (v % n))) := by
      rw [X12_layOrder_L1, hfst M Fr.rf, bo_s, if_neg (nI_ge (by omega) (by omega)), bo_s, gd_p hnz, gd_in (by omega) (by omega), nI_clamp (by omega), nI_mod hv (by omega), lt_e (uI M 51 pre.length (nI (v % n))), hfst _ fU, bo_s, gd_p hnz, uI_eq, has_c hm (by omega), nI_div hv (by omega)]
      by_cases z : v % n ∈ pre
      · rw [if_pos z, decide_eq_true ((hmask _ (by omega)).mpr z), if_pos rfl]
      · rw [if_neg z, decide_eq_false (fun y => z ((hmask _ (by omega)).mp y)), if_neg Bool.false_ne_true, (omask_fin ⟨mask, hm⟩ ⟨v % n, by omega⟩).1, lt_e, show nI pre.length + 1 = nI (pre.length + 1) from nI_add _ 1]
    rw [hst, okd_s]
    by_cases z : v % n ∈ pre
    · rw [if_pos z, if_pos z]
      exact ⟨_, _, rfl, fU, Or.inl ⟨rfl, rfl⟩⟩
    · rw [if_neg z, if_neg z]
      obtain ⟨o1, o2, o3⟩ := omask_fin ⟨mask, hm⟩ ⟨v % n, by omega⟩
      have hdv : v / n ≤ v := Nat.div_le_self _ _
      obtain ⟨ok, M', e, f2, q⟩ := ih (pre ++ [v % n]) (v / n) (mask ||| 2 ^ (v % n)) (uI M 51 pre.length (nI (v % n))) N (by omega) (by rw [List.length_append, List.length_singleton]; omega) (by omega) o2 (fun e he => by
        rw [o3 ⟨e, he⟩, List.mem_append, List.mem_singleton, hmask e he, Fin.mk.injEq]) (fun k hk => by
        rcases List.mem_append.mp hk with h | h
        · exact hp k h
        · rw [List.mem_singleton.mp h]; exact hd) (fun j hj => by
        rw [List.length_append, List.length_singleton] at hj
        by_cases y : j = pre.length
        · rw [y, uI_eq, getD_app_eq]
        · rw [uI_ne (by omega), getD_app_lt (by omega)]; exact h51 j (by omega)) (fun M' fM => hfst M' (fU.tr fM))
      rw [List.length_append, List.length_singleton] at e
      exact ⟨ok, M', e, fU.tr f2, q⟩
/-- the reference's count and what lies in its cells -/
def OMc (M : Mem) (c : Nat) (T : Nat → Nat → Nat) : Prop := M.1 0 80 = nI c ∧ ∀ j k, j < 5 → k < 5 → M.1 52 (5 * j + k) = nI (T j k)
theorem layL4_c {M : Mem} {n : Nat} {L : List Nat} {T : Nat → Nat → Nat} (hn : n ≤ 5) (hl : L.length = n) (hr : ∀ M', Fr (fun a _ => a = 52) M M' → X12_firsts M' = some (nI n)) (h51 : ∀ j, j < n → M.1 51 j = nI (L.getD j 0)) (hL : ∀ j, j < n → L.getD j 0 < 5) (hT : ∀ j k, j < 5 → k < 5 → M.1 52 (5 * j + k) = nI (T j k)) :
    ∃ M', X12_layOrders_L4 zFU 0 M = some M' ∧ Fr (fun a _ => a = 52) M M' ∧ ∀ j k, j < 5 → k < 5 → M'.1 52 (5 * j + k) = nI (T j k + if L.getD j 5 = k then 1 else 0) := by
  have key := up_zFU (σ := Int32 × Mem) (fun n s => X12_layOrders_L4 n s.1 s.2) (fun i s => ∃ M1, s = (nI i, M1) ∧ Fr (fun a i => a = 52) M M1 ∧ ∀ j k, j < 5 → k < 5 → M1.1 52 (5 * j + k) = nI (T j k + if j < i ∧ L.getD j 5 = k then 1 else 0)) (fun M1 => Fr (fun a i => a = 52) M M1 ∧ ∀ j k, j < 5 → k < 5 → M1.1 52 (5 * j + k) = nI (T j k + if L.getD j 5 = k then 1 else 0)) n (by omega) ?_ ?_ (0, M) 0 (by omega) ⟨M, rfl, Fr.rf, fun j k hj hk => by rw [if_neg (by omega), Nat.add_zero]; exact hT j k hj hk⟩
  · obtain ⟨t, e, q⟩ := key
    exact ⟨t, e, q⟩
  · rintro N s ⟨M1, rfl, f, g⟩
    refine ⟨M1, ?_, f, fun j k hj hk => ?_⟩
    · show X12_layOrders_L4 (N + 1) (nI n) M1 = some M1
      rw [X12_layOrders_L4, hr M1 f, bo_s, if_pos (nI_le (by omega) (by omega))]
    · rw [g j k hj hk]
      by_cases z : j < n
      · simp only [z, true_and]
      · have : L.getD j 5 = 5 := by rw [List.getD_eq_getElem?_getD, List.getElem?_eq_none (by omega)]; rfl
        rw [if_neg (by omega), if_neg (by omega)]
  · rintro N i s hi ⟨M1, rfl, f, g⟩
    left
    have hp := hL i hi
    have h60' : M1.1 51 i = nI (L.getD i 0) := (f.2 51 i (by omega)).trans (h51 i hi)
    have hd : L.getD i 5 = L.getD i 0 := by
      rw [List.getD_eq_getElem?_getD, List.getD_eq_getElem?_getD, List.getElem?_eq_getElem (by omega)]
      rfl
    have g' := g i (L.getD i 0) (by omega) hp
    rw [if_neg (by omega), Nat.add_zero] at g'
    refine ⟨(nI (i + 1), uI M1 52 (5 * i + L.getD i 0) (nI (T i (L.getD i 0) + 1))), ⟨_, rfl, f.up _ rfl, fun j k hj hk => ?_⟩, ?_⟩
    · by_cases z : 5 * j + k = 5 * i + L.getD i 0
      · have z1 : j = i := by omega
        have z2 : k = L.getD i 0 := by omega
        subst z1
        subst z2
        rw [uI_eq, if_pos ⟨by omega, hd⟩]
      · rw [uI_ne (by omega), g j k hj hk]
        congr 2
        by_cases y : j < i ∧ L.getD j 5 = k
        · rw [if_pos y, if_pos ⟨by omega, y.2⟩]
        · rw [if_neg y, if_neg (fun w => y ⟨by
            rcases Nat.lt_or_ge j i with w1 | w1
            · exact w1
            · have : j = i := by omega
              subst this
              exact absurd (by rw [← w.2, hd]) z, w.2⟩)]
    · show X12_layOrders_L4 (N + 1) (nI i) M1 = X12_layOrders_L4 N (nI (i + 1)) (uI M1 52 (5 * i + L.getD i 0) (nI (T i (L.getD i 0) + 1)))
      rw [X12_layOrders_L4, hr M1 f, bo_s, if_neg (nI_ge hi (by omega)), gd_in (by omega) (by omega), nI_clamp (by omega), h60', show (5 : Int32) * nI i = nI (5 * i) from nI_mul 5 i, nI_add, gd_in (by omega) (by omega), nI_clamp (by omega), g', show nI (T i (L.getD i 0)) + 1 = nI (T i (L.getD i 0) + 1) from nI_add _ 1, lt_e, show nI i + 1 = nI (i + 1) from nI_add i 1]
theorem onum_s {n r : Nat} : onum n (r + 1) 0 = onum n r 0 ++ (okd n n r []).toList := by
  unfold onum
  rw [List.range'_1_concat, List.filterMap_append, Nat.zero_add]
  congr 1
theorem layOrders_c {MX MM : Mem} {x : Int32} {b mn bn ns : Nat} (h : OCM MX MM b mn bn ns) :
    ∃ M', X12_layOrders x MM = some M' ∧ Fr SOm MM M' ∧ OMc M' (ocl (ofit MX x ns) (onum (min mn bn) (min mn bn ^ min mn bn) 0)) (fun j k => otw (ofit MX x ns) (onum (min mn bn) (min mn bn ^ min mn bn) 0) j k) := by
  have h5 : min mn bn ≤ 5 := by have := h.2.2.2.2.1; omega
  have hpow : ∀ n : Fin 6, n.1 ^ n.1 < 10000 := by decide
  have hp : min mn bn ^ min mn bn < 10000 := hpow ⟨min mn bn, by omega⟩
  generalize hN : min mn bn = n at h5 hp
  have hfst : ∀ M, OCM MX M b mn bn ns → X12_firsts M = some (nI n) := fun M q => by rw [← hN]; exact q.n
  -- how many numbers
  have k1 := up_zFU (σ := Int32 × Int32) (fun N s => X12_layOrders_L1 MM N s.1 s.2) (fun i s => s = (nI (n ^ i), nI i)) (fun t => t = nI (n ^ n)) n (by omega) (by
    rintro N s rfl
    exact ⟨_, by show X12_layOrders_L1 MM (N + 1) (nI (n ^ n)) (nI n) = some (nI (n ^ n)); rw [X12_layOrders_L1, hfst MM h, bo_s, if_pos (nI_le (by omega) (by omega))], rfl⟩) (by
    rintro N i s hi rfl
    left
    refine ⟨(nI (n ^ (i + 1)), nI (i + 1)), rfl, ?_⟩
    show X12_layOrders_L1 MM (N + 1) (nI (n ^ i)) (nI i) = X12_layOrders_L1 MM N (nI (n ^ (i + 1))) (nI (i + 1))
    rw [X12_layOrders_L1, hfst MM h, bo_s, if_neg (nI_ge hi (by omega)), bo_s, nI_mul, Nat.pow_succ, show nI i + 1 = nI (i + 1) from nI_add i 1]) (1, 0) 0 (by omega) rfl
  obtain ⟨e4, e1, rfl⟩ := k1
  have k2 := up_zFU (σ := Int32 × Mem) (fun n s => X12_layOrders_L2 n s.1 s.2) (fun i s => ∃ M1, s = (nI i, M1) ∧ Fr (fun a i => a = 52) (uI MM 0 80 0) M1 ∧ ∀ j, j < i → M1.1 52 j = nI 0) (fun M1 => Fr (fun a i => a = 52) (uI MM 0 80 0) M1 ∧ ∀ j, j < 25 → M1.1 52 j = nI 0) 25 (by omega) (by
    rintro N s ⟨M1, rfl, f, g⟩
    exact ⟨M1, by show X12_layOrders_L2 (N + 1) (nI 25) M1 = some M1; rw [X12_layOrders_L2, if_pos (by decide)], f, g⟩) (by
    rintro N i s hi ⟨M1, rfl, f, g⟩
    left
    refine ⟨(nI (i + 1), uI M1 52 i 0), ⟨_, rfl, f.up _ rfl, fun j hj => ?_⟩, ?_⟩
    · by_cases h : j = i
      · rw [h, uI_eq]; rfl
      · rw [uI_ne (by omega), g j (by omega)]
    · show X12_layOrders_L2 (N + 1) (nI i) M1 = X12_layOrders_L2 N (nI (i + 1)) (uI M1 52 i 0)
      rw [X12_layOrders_L2, if_neg (show ¬ (25 : Int32) ≤ nI i from nI_ge (b := 25) hi (by omega)), gd_in (by omega) (by omega), nI_clamp (by omega), lt_e, show nI i + 1 = nI (i + 1) from nI_add i 1]) (0, uI MM 0 80 0) 0 (by omega) ⟨_, rfl, Fr.rf, fun j hj => by omega⟩
  obtain ⟨M1, e2, f2, z2⟩ := k2
  have fM1 : Fr SOm MM M1 := (Fr.rf.up _ (by unfold SOm; omega)).tr (f2.wk (fun a i z => by unfold SOm; omega))
  have k3 := up_zFU (σ := Int32 × Mem) (fun N s => X12_layOrders_L3 x (nI (n ^ n)) N s.1 s.2) (fun v s => ∃ M2, s = (nI v, M2) ∧ Fr SOm MM M2 ∧ OMc M2 (ocl (ofit MX x ns) (onum n v 0)) (fun j k => otw (ofit MX x ns) (onum n v 0) j k)) (fun M2 => Fr SOm MM M2 ∧ OMc M2 (ocl (ofit MX x ns) (onum n (n ^ n) 0)) (fun j k => otw (ofit MX x ns) (onum n (n ^ n) 0) j k)) (n ^ n) (by omega) (by
    rintro N s ⟨M2, rfl, f, g⟩
    exact ⟨M2, by show X12_layOrders_L3 x (nI (n ^ n)) (N + 1) (nI (n ^ n)) M2 = some M2; rw [X12_layOrders_L3, if_pos (nI_le (by omega) (by omega))], f, g⟩) (by
    rintro N v s hv ⟨M2, rfl, f, g⟩
    left
    have hO2 := h.fr f
    obtain ⟨ok, M3, w1, w2, w3⟩ := layOrder_c h5 n [] v 0 M2 zFU (by have := zFU_ge; omega) (by simp) (by omega) (by omega) (fun e he => by simp) (fun k hk => by simp at hk) (fun j hj => by simp at hj) (fun M' fM => hfst M' (hO2.fr (fM.wk (fun a i z => Or.inl z))))
    have w1' : X12_layOrder (nI v) M2 = some (ok, M3) := w1
    have hO3 := hO2.fr (w2.wk (fun a i z => Or.inl z))
    have g3 : OMc M3 (ocl (ofit MX x ns) (onum n v 0)) (fun j k => otw (ofit MX x ns) (onum n v 0) j k) := ⟨(w2.2 0 80 (by omega)).trans g.1, fun j k hj hk => (w2.2 52 _ (by omega)).trans (g.2 j k hj hk)⟩
    have fM3 : Fr SOm MM M3 := f.tr (w2.wk (fun a i z => Or.inl z))
    have hst : ∀ M4, (if ok = true then
        bo_ (X12_doesFit x M3) fun b14 =>
        if b14 = true then
          lt_ (uI M3 0 80 ((M3.1 0 80) + 1)) fun M16 =>
          b1_ (α := Mem) (X12_layOrders_L4 zFU 0 M16) fun M22 =>
          some M22
        else
        some M3
      else
      some M3) = some M4 → X12_layOrders_L3 x (nI (n ^ n)) (N + 1) (nI v) M2 = X12_layOrders_L3 x (nI (n ^ n)) N (nI (v + 1)) M4 := fun M4 q => by
      rw [X12_layOrders_L3, if_neg (nI_ge hv (by omega)), w1', bp_s, q, b1_s, show nI v + 1 = nI (v + 1) from nI_add v 1]
    rcases w3 with ⟨q1, rfl⟩ | ⟨L, q1, rfl, q2, q3, q4⟩
    · refine ⟨(nI (v + 1), M3), ⟨M3, rfl, fM3, ?_⟩, hst M3 (if_neg Bool.false_ne_true)⟩
      rw [onum_s, q1]
      simp only [Option.toList_none, List.append_nil]
      exact g3
    · have hL : ∀ j, j < n → L.getD j 0 < n := fun j hj => getD_lt q3 (by omega)
      have hfit := doesFit_c (x := x) (L := L) hO3 (by rw [hN]; exact q4) (by rw [hN]; exact hL)
      have eL : onum n (v + 1) 0 = onum n v 0 ++ [L] := by rw [onum_s, q1]; rfl
      by_cases z : ofit MX x ns L = true
      · obtain ⟨M4, t1, t2, t3⟩ := layL4_c (M := uI M3 0 80 (M3.1 0 80 + 1)) (n := n) (L := L) (T := fun j k => otw (ofit MX x ns) (onum n v 0) j k) h5 q2 (fun M' fM => hfst M' ((hO3.fr (Fr.rf.up _ (by unfold SOm; omega))).fr (fM.wk (fun a i z => Or.inr (Or.inl z))))) q4 (fun j hj => by have := hL j hj; omega) (fun j k hj hk => by rw [uI_ne (by omega)]; exact g3.2 j k hj hk)
        refine ⟨(nI (v + 1), M4), ⟨M4, rfl, (fM3.up _ (by unfold SOm; omega)).tr (t2.wk (fun a i z => Or.inr (Or.inl z))), ?_, fun j k hj hk => ?_⟩, hst M4 ?_⟩
        · rw [t2.2 0 80 (by omega), uI_eq, g3.1, eL, ocl_app, ocl_one, if_pos z]
          exact nI_add _ 1
        · rw [t3 j k hj hk, eL]
          simp only [otw_app, otw_one, z, true_and]
        · rw [if_pos rfl, hfit, bo_s, if_pos z, lt_e, t1, b1_s]
      · refine ⟨(nI (v + 1), M3), ⟨M3, rfl, fM3, ?_, fun j k hj hk => ?_⟩, hst M3 ?_⟩
        · rw [eL, ocl_app, ocl_one, if_neg z, Nat.add_zero]
          exact g3.1
        · rw [eL]
          simp only [otw_app, otw_one, z, false_and, if_false, Nat.add_zero]
          exact g3.2 j k hj hk
        · rw [if_pos rfl, hfit, bo_s, if_neg z]) (0, M1) 0 (by omega) ⟨M1, rfl, fM1, (f2.2 0 80 (by omega)).trans rfl, fun j k hj hk => z2 _ (by omega)⟩
  obtain ⟨M', e3, f3, q⟩ := k3
  refine ⟨M', ?_, f3, q⟩
  unfold X12_layOrders
  rw [show X12_layOrders_L1 MM zFU 1 0 = _ from e1, b1_s, lt_e, show X12_layOrders_L2 zFU 0 (uI MM 0 80 0) = _ from e2, b1_s, show X12_layOrders_L3 x (nI (n ^ n)) zFU 0 M1 = _ from e3, b1_s]
