/-! ===== phase 2: the orders of the books ===== -/
/-- the class's way: place by place -/
def ogen (n : Nat) : Nat → List Nat → List (List Nat)
  | 0, pre => [pre]
  | f + 1, pre => (List.range' 0 n).flatMap fun k => if k ∈ pre then [] else ogen n f (pre ++ [k])
/-- the reference's way: number by number -/
def okd (n : Nat) : Nat → Nat → List Nat → Option (List Nat)
  | 0, _, pre => some pre
  | f + 1, v, pre => if v % n ∈ pre then none else okd n f (v / n) (pre ++ [v % n])
def onum (n : Nat) (r v : Nat) : List (List Nat) := (List.range' v r).filterMap fun v => okd n n v []
theorem operm : ∀ n : Fin 6, (ogen n.1 n.1 []).Perm (onum n.1 (n.1 ^ n.1) 0) ∧ (ogen n.1 n.1 []).length ≤ 120 := by decide +kernel
/-- whether the sights known at x bear an order out -/
def okn (MX : Mem) (x : Int32) (i : Nat) : Prop := ¬ x < MX.1 58 i ∧ (MX.1 59 i = -1 ∨ x < MX.1 59 i)
def otl (MX : Mem) (P : Nat → Nat) (v : Int32) : Int32 := MX.1 31 (P v.toNatClampNeg)
def oag (MX : Mem) (P : Nat → Nat) (i : Nat) : Prop := ((if MX.1 55 i = -1 then (if otl MX P (MX.1 54 i) < MX.1 56 i then (0 : Int32) else 1) else (if otl MX P (MX.1 54 i) ≤ otl MX P (MX.1 55 i) then 0 else 1)) = (if MX.1 57 i = 0 then 0 else 1))
noncomputable def ofit (MX : Mem) (x : Int32) (ns : Nat) (L : List Nat) : Bool := @decide (∀ i, i < ns → okn MX x i → oag MX (fun j => L.getD j 0) i) (Classical.propDecidable _)
theorem ofit_iff {MX : Mem} {x : Int32} {ns : Nat} {L : List Nat} : ofit MX x ns L = true ↔ ∀ i, i < ns → okn MX x i → oag MX (fun j => L.getD j 0) i := by
  unfold ofit
  exact @decide_eq_true_iff _ (Classical.propDecidable _)
def ocl (F : List Nat → Bool) (L : List (List Nat)) : Nat := (L.filter F).length
def otw (F : List Nat → Bool) (L : List (List Nat)) (j k : Nat) : Nat := (L.filter fun P => F P && P.getD j 5 == k).length
theorem ocl_nil {F : List Nat → Bool} : ocl F [] = 0 := rfl
theorem otw_nil {F : List Nat → Bool} {j k : Nat} : otw F [] j k = 0 := rfl
theorem ocl_app {F : List Nat → Bool} {L L' : List (List Nat)} : ocl F (L ++ L') = ocl F L + ocl F L' := by unfold ocl; rw [List.filter_append, List.length_append]
theorem otw_app {F : List Nat → Bool} {L L' : List (List Nat)} {j k : Nat} : otw F (L ++ L') j k = otw F L j k + otw F L' j k := by unfold otw; rw [List.filter_append, List.length_append]
theorem ocl_perm {F : List Nat → Bool} {L L' : List (List Nat)} (h : L.Perm L') : ocl F L = ocl F L' := (h.filter F).length_eq
theorem otw_perm {F : List Nat → Bool} {L L' : List (List Nat)} {j k : Nat} (h : L.Perm L') : otw F L j k = otw F L' j k := (h.filter _).length_eq
theorem ocl_one {F : List Nat → Bool} {P : List Nat} : ocl F [P] = if F P = true then 1 else 0 := by
  unfold ocl
  rw [List.filter_cons]
  split <;> rfl
theorem otw_one {F : List Nat → Bool} {P : List Nat} {j k : Nat} : otw F [P] j k = if F P = true ∧ P.getD j 5 = k then 1 else 0 := by
  unfold otw
  rw [List.filter_cons]
  by_cases h : F P = true ∧ P.getD j 5 = k
  · rw [if_pos (by rw [h.1, h.2]; simp), if_pos h]; rfl
  · rw [if_neg (fun z => h (by simpa using z)), if_neg h]; rfl
/-- the count and what lies in the cells -/
def OX (M : Mem) (c : Nat) (T : Nat → Nat → Nat) : Prop := M.1 53 12 = nI c ∧ ∀ j k, j < 5 → k < 5 → M.1 62 (5 * j + k) = nI (T j k)
def SOx (a i : Nat) : Prop := a = 60 ∨ a = 61 ∨ a = 62 ∨ (a = 53 ∧ i = 12)
def SOy (a i : Nat) : Prop := a = 62 ∨ (a = 53 ∧ i = 12)
/-- what the class's search reads -/
def OCX (MX : Mem) (n ns mn : Nat) : Prop := n ≤ 5 ∧ ns ≤ 30 ∧ X3_readers 23 MX = nI n ∧ MX.1 53 7 = nI ns ∧ ∀ i, i < ns → (∃ m, m < n ∧ MX.1 54 i = nI m) ∧ (MX.1 55 i = -1 ∨ ∃ m, m < n ∧ MX.1 55 i = nI m)
theorem OCX.fr {MX M : Mem} {n ns mn : Nat} (h : OCX MX n ns mn) (f : Fr SOx MX M) : OCX M n ns mn := by
  obtain ⟨h1, h2, h3, h4, h5⟩ := h
  refine ⟨h1, h2, ?_, (f.2 53 7 (by unfold SOx; omega)).trans h4, fun i hi => ?_⟩
  · rw [← h3]
    unfold X3_readers
    rw [f.2 23 0 (by unfold SOx; omega), f.2 23 2 (by unfold SOx; omega)]
  · rw [f.2 54 i (by unfold SOx; omega), f.2 55 i (by unfold SOx; omega)]
    exact h5 i hi
theorem ofit_fr {MX M : Mem} {x : Int32} {ns : Nat} {L : List Nat} (f : Fr SOx MX M) : ofit M x ns L = ofit MX x ns L := by
  have e1 : ∀ i, okn M x i = okn MX x i := fun i => by
    unfold okn
    rw [f.2 58 i (by unfold SOx; omega), f.2 59 i (by unfold SOx; omega)]
  have e2 : ∀ P i, oag M P i = oag MX P i := fun P i => by
    unfold oag otl
    rw [f.2 54 i (by unfold SOx; omega), f.2 55 i (by unfold SOx; omega), f.2 56 i (by unfold SOx; omega), f.2 57 i (by unfold SOx; omega)]
    have e31 : ∀ j, M.1 31 j = MX.1 31 j := fun j => f.2 31 j (by unfold SOx; omega)
    simp only [e31]
  rw [Bool.eq_iff_iff, ofit_iff, ofit_iff]
  simp only [e1, e2]
theorem ite_b {p : Prop} [Decidable p] : (if p then true else false) = true ↔ p := by by_cases h : p <;> simp [h]
theorem known_c {M : Mem} {x : Int32} {i : Nat} (hi : i < 30) : X8_isKnown (nI i) x M = true ↔ okn M x i := by
  unfold X8_isKnown okn
  rw [xc_in (by rw [zlX_59]; omega), xc_in (by rw [zlX_58]; omega), lt_e]
  by_cases h1 : x < M.1 58 i
  · rw [if_pos h1]
    exact ⟨fun h => absurd h Bool.false_ne_true, fun h => absurd h1 h.1⟩
  · rw [if_neg h1]
    by_cases h2 : M.1 59 i = -1
    · rw [if_pos h2]
      exact ⟨fun _ => ⟨h1, Or.inl h2⟩, fun _ => rfl⟩
    · rw [if_neg h2]
      by_cases h3 : M.1 59 i ≤ x
      · rw [if_pos h3]
        exact ⟨fun h => absurd h Bool.false_ne_true, fun h => h.2.elim (fun z => absurd z h2) (fun z => absurd h3 (Int32.not_le.mpr z))⟩
      · rw [if_neg h3]
        exact ⟨fun _ => ⟨h1, Or.inr (Int32.not_le.mp h3)⟩, fun _ => rfl⟩
theorem tellsOf_c {M : Mem} {L : List Nat} {n m : Nat} (hn : n ≤ 5) (hm : m < n) (h60 : ∀ j, j < n → M.1 60 j = nI (L.getD j 0)) (hL : ∀ j, j < n → L.getD j 0 < 5) : X8_tellsOf (nI m) M = otl M (fun j => L.getD j 0) (nI m) := by
  unfold X8_tellsOf otl
  rw [xc_in (by rw [zlX_60]; omega), h60 m hm, xc_in (by rw [zlX_31]; exact hL m hm), nI_clamp (by omega)]
theorem agrees_c {M : Mem} {L : List Nat} {n ns mn i : Nat} (hC : OCX M n ns mn) (hi : i < ns) (h60 : ∀ j, j < n → M.1 60 j = nI (L.getD j 0)) (hL : ∀ j, j < n → L.getD j 0 < 5) : X8_agrees (nI i) M = true ↔ oag M (fun j => L.getD j 0) i := by
  obtain ⟨h1, h2, h3, h4, h5⟩ := hC
  obtain ⟨⟨m, m1, m2⟩, q⟩ := h5 i hi
  unfold X8_agrees oag
  rw [xc_in (by rw [zlX_54]; omega), xc_in (by rw [zlX_55]; omega), xc_in (by rw [zlX_56]; omega), xc_in (by rw [zlX_57]; omega), m2, tellsOf_c h1 m1 h60 hL, lt_e (otl _ _ _), lt_e (M.1 55 i), l1_s, l1_s]
  have key : (if M.1 55 i = -1 then (if otl M (fun j => L.getD j 0) (nI m) < M.1 56 i then (0 : Int32) else 1) else (if otl M (fun j => L.getD j 0) (nI m) ≤ X8_tellsOf (M.1 55 i) M then 0 else 1)) = (if M.1 55 i = -1 then (if otl M (fun j => L.getD j 0) (nI m) < M.1 56 i then (0 : Int32) else 1) else (if otl M (fun j => L.getD j 0) (nI m) ≤ otl M (fun j => L.getD j 0) (M.1 55 i) then 0 else 1)) := by
    by_cases z : M.1 55 i = -1
    · rw [if_pos z, if_pos z]
    · rw [if_neg z, if_neg z]
      rcases q with q | ⟨m', q1, q2⟩
      · exact absurd q z
      · rw [q2, tellsOf_c h1 q1 h60 hL]
  rw [key]
  exact ite_b
theorem tallyL2_c {M : Mem} {n : Nat} {L : List Nat} {T : Nat → Nat → Nat} (hn : n ≤ 5) (hl : L.length = n) (hr : X3_readers 23 M = nI n) (h60 : ∀ j, j < n → M.1 60 j = nI (L.getD j 0)) (hL : ∀ j, j < n → L.getD j 0 < 5) (hT : ∀ j k, j < 5 → k < 5 → M.1 62 (5 * j + k) = nI (T j k)) :
    ∃ M', X8_tallyOrder_L2 zFU 0 M = some M' ∧ Fr (fun a i => a = 62) M M' ∧ ∀ j k, j < 5 → k < 5 → M'.1 62 (5 * j + k) = nI (T j k + if L.getD j 5 = k then 1 else 0) := by
  have key := up_zFU (σ := Int32 × Mem) (fun n s => X8_tallyOrder_L2 n s.1 s.2) (fun i s => ∃ M1, s = (nI i, M1) ∧ Fr (fun a i => a = 62) M M1 ∧ ∀ j k, j < 5 → k < 5 → M1.1 62 (5 * j + k) = nI (T j k + if j < i ∧ L.getD j 5 = k then 1 else 0)) (fun M1 => Fr (fun a i => a = 62) M M1 ∧ ∀ j k, j < 5 → k < 5 → M1.1 62 (5 * j + k) = nI (T j k + if L.getD j 5 = k then 1 else 0)) n (by omega) ?_ ?_ (0, M) 0 (by omega) ⟨M, rfl, Fr.rf, fun j k hj hk => by rw [if_neg (by omega), Nat.add_zero]; exact hT j k hj hk⟩
  · obtain ⟨t, e, q⟩ := key
    exact ⟨t, e, q⟩
  · rintro N s ⟨M1, rfl, f, g⟩
    refine ⟨M1, ?_, f, fun j k hj hk => ?_⟩
    · show X8_tallyOrder_L2 (N + 1) (nI n) M1 = some M1
      have : X3_readers 23 M1 = nI n := by
        rw [← hr]
        unfold X3_readers
        rw [f.2 23 0 (by omega), f.2 23 2 (by omega)]
      rw [X8_tallyOrder_L2, this, if_pos (nI_le (by omega) (by omega))]
    · rw [g j k hj hk]
      by_cases z : j < n
      · simp only [z, true_and]
      · have : L.getD j 5 = 5 := by rw [List.getD_eq_getElem?_getD, List.getElem?_eq_none (by omega)]; rfl
        rw [if_neg (by omega), if_neg (by omega)]
  · rintro N i s hi ⟨M1, rfl, f, g⟩
    left
    have hp := hL i hi
    have h60' : M1.1 60 i = nI (L.getD i 0) := (f.2 60 i (by omega)).trans (h60 i hi)
    have hd : L.getD i 5 = L.getD i 0 := by
      rw [List.getD_eq_getElem?_getD, List.getD_eq_getElem?_getD, List.getElem?_eq_getElem (by omega)]
      rfl
    have g' := g i (L.getD i 0) (by omega) hp
    rw [if_neg (by omega), Nat.add_zero] at g'
    refine ⟨(nI (i + 1), uI M1 62 (5 * i + L.getD i 0) (nI (T i (L.getD i 0) + 1))), ⟨_, rfl, f.up _ rfl, fun j k hj hk => ?_⟩, ?_⟩
    · by_cases z : 5 * j + k = 5 * i + L.getD i 0
      · have z1 : j = i := by omega
        have z2 : k = L.getD i 0 := by omega
        subst z1
        subst z2
        rw [uI_eq, if_pos ⟨by omega, hd⟩]
      · rw [uI_ne (by omega), g j k hj hk]
        congr 2
        by_cases y : j < i ∧ L.getD j 5 = k
        · rw [if_pos y, if_pos ⟨by omega, y.2⟩]
        · rw [if_neg y, if_neg (fun w => y ⟨by
            rcases Nat.lt_or_ge j i with w1 | w1
            · exact w1
            · have : j = i := by omega
              subst this
              exact absurd (by rw [← w.2, hd]) z, w.2⟩)]
    · show X8_tallyOrder_L2 (N + 1) (nI i) M1 = X8_tallyOrder_L2 N (nI (i + 1)) (uI M1 62 (5 * i + L.getD i 0) (nI (T i (L.getD i 0) + 1)))
      have : X3_readers 23 M1 = nI n := by
        rw [← hr]
        unfold X3_readers
        rw [f.2 23 0 (by omega), f.2 23 2 (by omega)]
      rw [X8_tallyOrder_L2, this, if_neg (nI_ge hi (by omega)), xc_in (by rw [zlX_60]; omega), h60', show nI i * 5 = nI (5 * i) by rw [show nI i * 5 = nI (i * 5) from nI_mul i 5, Nat.mul_comm], nI_add, lt_e, xc_in (by rw [zlX_62]; omega), xp_in (by rw [zlX_62]; omega), g', show nI (T i (L.getD i 0)) + 1 = nI (T i (L.getD i 0) + 1) from nI_add _ 1, lt_e, show nI i + 1 = nI (i + 1) from nI_add i 1]
theorem tally_c {M : Mem} {x : Int32} {n ns mn c : Nat} {L : List Nat} {T : Nat → Nat → Nat} (hC : OCX M n ns mn) (hl : L.length = n) (h60 : ∀ j, j < n → M.1 60 j = nI (L.getD j 0)) (hL : ∀ j, j < n → L.getD j 0 < 5) (hT : OX M c T) :
    ∃ M', X8_tallyOrder x M = some M' ∧ Fr SOy M M' ∧ OX M' (c + ocl (ofit M x ns) [L]) (fun j k => T j k + otw (ofit M x ns) [L] j k) := by
  have hC' := hC
  obtain ⟨h1, h2, h3, h4, h5⟩ := hC
  obtain ⟨M', e, f, g⟩ := tallyL2_c (M := uI M 53 12 (nI (c + 1))) h1 hl h3 h60 hL hT.2
  have key := up_zFU (σ := Int32) (fun n s => X8_tallyOrder_L1 x n s M) (fun i s => s = nI i ∧ ∀ i', i' < i → okn M x i' → oag M (fun j => L.getD j 0) i') (fun t => t = if ofit M x ns L = true then M' else M) ns (by omega) ?_ ?_ 0 0 (by omega) ⟨rfl, fun i h => by omega⟩
  · obtain ⟨t, e1, q⟩ := key
    refine ⟨t, e1, ?_, ?_⟩
    · rw [q]
      split
      · exact (Fr.rf.up _ (Or.inr ⟨rfl, rfl⟩)).tr (f.wk (fun a i z => Or.inl z))
      · exact Fr.rf
    · rw [ocl_one]
      simp only [otw_one]
      by_cases z : ofit M x ns L = true
      · rw [if_pos z] at q ⊢
        simp only [z, true_and]
        refine ⟨?_, ?_⟩
        · rw [q, f.2 53 12 (by omega), uI_eq]
        · rw [q]; exact g
      · rw [if_neg z] at q ⊢
        simp only [z, false_and, if_false, Nat.add_zero]
        rw [q]
        exact hT
  · rintro N s ⟨rfl, q⟩
    refine ⟨M', ?_, ?_⟩
    · show X8_tallyOrder_L1 x (N + 1) (nI ns) M = some M'
      rw [X8_tallyOrder_L1, h4, if_pos (nI_le (by omega) (by omega)), hT.1, show nI c + 1 = nI (c + 1) from nI_add c 1, lt_e, e, b1_s]
    · rw [if_pos (ofit_iff.mpr q)]
  · rintro N i s hi ⟨rfl, q⟩
    have hst : X8_tallyOrder_L1 x (N + 1) (nI i) M = l1_ (α := Bool) (if (X8_isKnown (nI i) x M) = true then if (X8_agrees (nI i) M) = true then true else false else true) fun t9 => if t9 = true then X8_tallyOrder_L1 x N (nI i + 1) M else some M := by
      rw [X8_tallyOrder_L1, h4, if_neg (nI_ge hi (by omega))]
    have hk := known_c (M := M) (x := x) (show i < 30 by omega)
    have ha := agrees_c hC' hi h60 hL
    by_cases z1 : okn M x i
    · by_cases z2 : oag M (fun j => L.getD j 0) i
      · left
        refine ⟨nI (i + 1), ⟨rfl, fun i' h' k' => ?_⟩, ?_⟩
        · by_cases y : i' = i
          · rw [y]; exact z2
          · exact q i' (by omega) k'
        · show X8_tallyOrder_L1 x (N + 1) (nI i) M = X8_tallyOrder_L1 x N (nI (i + 1)) M
          rw [hst, hk.mpr z1, ha.mpr z2, if_pos rfl, if_pos rfl, l1_s, if_pos rfl, show nI i + 1 = nI (i + 1) from nI_add i 1]
      · right
        refine ⟨M, ?_, ?_⟩
        · show X8_tallyOrder_L1 x (N + 1) (nI i) M = some M
          rw [hst, hk.mpr z1, if_pos rfl, if_neg (fun z => z2 (ha.mp z)), l1_s, if_neg Bool.false_ne_true]
        · rw [if_neg (fun z => z2 (ofit_iff.mp z i hi z1))]
    · left
      refine ⟨nI (i + 1), ⟨rfl, fun i' h' k' => ?_⟩, ?_⟩
      · by_cases y : i' = i
        · rw [y] at k'; exact absurd k' z1
        · exact q i' (by omega) k'
      · show X8_tallyOrder_L1 x (N + 1) (nI i) M = X8_tallyOrder_L1 x N (nI (i + 1)) M
        rw [hst, if_neg (fun z => z1 (hk.mp z)), l1_s, if_pos rfl, show nI i + 1 = nI (i + 1) from nI_add i 1]
