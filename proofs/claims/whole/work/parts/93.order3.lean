/-! ===== phase 2: the orders of the books, the reference's search ===== -/
def SOm (a i : Nat) : Prop := a = 51 ∨ a = 52 ∨ (a = 0 ∧ i = 80)
theorem firsts_c {M : Mem} {b mn bn : Nat} (hb : M.1 0 41 = nI b) (b1 : b ≤ 1) (h4 : M.1 4 b = nI mn) (h5 : M.1 5 b = nI bn) (hmn : mn ≤ 5) (hbn : bn ≤ 5) : X12_firsts M = some (nI (min mn bn)) := by
  unfold X12_firsts
  rw [many_c hb b1 h4, bo_s, hb, gd_in (by omega) (by omega), nI_clamp (by omega), h5, lesser_c _ _ (by omega) (by omega)]
/-- what the reference's search reads, beside the class -/
def OCM (MX M : Mem) (b mn bn ns : Nat) : Prop := M.1 0 41 = nI b ∧ b ≤ 1 ∧ M.1 4 b = nI mn ∧ M.1 5 b = nI bn ∧ mn ≤ 5 ∧ bn ≤ 5 ∧ ns ≤ 30 ∧ M.1 0 78 = nI ns ∧ (∀ k, k < min mn bn → MX.1 31 k = M.1 20 (5 * b + k)) ∧
  ∀ i, i < ns → (∃ m, m < min mn bn ∧ MX.1 54 i = nI m ∧ M.1 45 i = nI m) ∧ ((MX.1 55 i = -1 ∧ M.1 46 i = -1) ∨ ∃ m, m < min mn bn ∧ MX.1 55 i = nI m ∧ M.1 46 i = nI m) ∧ MX.1 56 i = M.1 47 i ∧ (∃ q, q ≤ 1 ∧ MX.1 57 i = nI q ∧ M.1 48 i = nI q) ∧ MX.1 58 i = M.1 49 i ∧ ((MX.1 59 i = -1 ∧ M.1 50 i = -1) ∨ ∃ q, q ≤ 100000 ∧ MX.1 59 i = nI q ∧ M.1 50 i = nI q)
theorem OCM.fr {MX M M' : Mem} {b mn bn ns : Nat} (h : OCM MX M b mn bn ns) (f : Fr SOm M M') : OCM MX M' b mn bn ns := by
  obtain ⟨h1, h2, h3, h4, h5, h6, h7, h8, h9, h10⟩ := h
  refine ⟨(f.2 0 41 (by unfold SOm; omega)).trans h1, h2, (f.2 4 b (by unfold SOm; omega)).trans h3, (f.2 5 b (by unfold SOm; omega)).trans h4, h5, h6, h7, (f.2 0 78 (by unfold SOm; omega)).trans h8, fun k hk => by rw [f.2 20 _ (by unfold SOm; omega)]; exact h9 k hk, fun i hi => ?_⟩
  rw [f.2 45 i (by unfold SOm; omega), f.2 46 i (by unfold SOm; omega), f.2 47 i (by unfold SOm; omega), f.2 48 i (by unfold SOm; omega), f.2 49 i (by unfold SOm; omega), f.2 50 i (by unfold SOm; omega)]
  exact h10 i hi
theorem OCM.n {MX M : Mem} {b mn bn ns : Nat} (h : OCM MX M b mn bn ns) : X12_firsts M = some (nI (min mn bn)) := firsts_c h.1 h.2.1 h.2.2.1 h.2.2.2.1 h.2.2.2.2.1 h.2.2.2.2.2.1
theorem otells_c {MX M : Mem} {b mn bn ns m : Nat} {L : List Nat} (h : OCM MX M b mn bn ns) (h51 : ∀ j, j < min mn bn → M.1 51 j = nI (L.getD j 0)) (hL : ∀ j, j < min mn bn → L.getD j 0 < min mn bn) (hm : m < min mn bn) : X12_tells (nI m) M = some (otl MX (fun j => L.getD j 0) (nI m)) := by
  obtain ⟨h1, h2, h3, h4, h5, h6, h7, h8, h9, h10⟩ := h
  have hp := hL m hm
  unfold X12_tells otl
  rw [gd_in (by omega) (by omega), nI_clamp (by omega), h51 m hm, h1, show (5 : Int32) * nI b = nI (5 * b) from nI_mul 5 b, nI_add, gd_in (by omega) (by omega), nI_clamp (by omega), h9 _ hp]
theorem oneg1 : ((-1 : Int32) < 0) := by decide
theorem doesFit_c {MX M : Mem} {x : Int32} {b mn bn ns : Nat} {L : List Nat} (h : OCM MX M b mn bn ns) (h51 : ∀ j, j < min mn bn → M.1 51 j = nI (L.getD j 0)) (hL : ∀ j, j < min mn bn → L.getD j 0 < min mn bn) : X12_doesFit x M = some (ofit MX x ns L) := by
  obtain ⟨h1, h2, h3, h4, h5, h6, h7, h8, h9, h10⟩ := id h
  have key := up_zFU (σ := Int32) (fun n s => X12_doesFit_L1 x M n s) (fun i s => s = nI i ∧ ∀ i', i' < i → okn MX x i' → oag MX (fun j => L.getD j 0) i') (fun t => t = ofit MX x ns L) ns (by omega) ?_ ?_ 0 0 (by omega) ⟨rfl, fun i h => by omega⟩
  · obtain ⟨t, e, q⟩ := key
    unfold X12_doesFit
    exact e.trans (congrArg some q)
  · rintro N s ⟨rfl, q⟩
    refine ⟨true, ?_, (ofit_iff.mpr q).symm⟩
    show X12_doesFit_L1 x M (N + 1) (nI ns) = some true
    rw [X12_doesFit_L1, h8, if_pos (nI_le (by omega) (by omega))]
  · rintro N i s hi ⟨rfl, q⟩
    obtain ⟨⟨m, m1, m2, m3⟩, q2, q3, ⟨q4, q5, q6, q7⟩, q8, q9⟩ := h10 i hi
    have skip : ¬ okn MX x i → (∀ i', i' < i + 1 → okn MX x i' → oag MX (fun j => L.getD j 0) i') := fun z i' h' k' => by
      by_cases y : i' = i
      · rw [y] at k'; exact absurd k' z
      · exact q i' (by omega) k'
    have hs0 : ∀ R : Option Bool, (if x < M.1 49 i then X12_doesFit_L1 x M N (nI i + 1) else R) = R ∨ x < M.1 49 i := fun R => by
      by_cases z : x < M.1 49 i
      · exact Or.inr z
      · exact Or.inl (if_neg z)
    have hst : X12_doesFit_L1 x M (N + 1) (nI i) = if x < M.1 49 i then X12_doesFit_L1 x M N (nI i + 1) else
      l1_ (α := Bool) (if (M.1 50 i) < 0 then true else if x < (M.1 50 i) then true else false) fun t7 =>
      if t7 = true then
        b1_ (α := Int32) (
          if 0 ≤ (M.1 46 i) then
            bo_ (X12_tells (M.1 45 i) M) fun v12 =>
            bo_ (X12_tells (M.1 46 i) M) fun v13 =>
            if v12 ≤ v13 then some 0 else some 1
          else
            bo_ (X12_tells (M.1 45 i) M) fun v16 =>
            if v16 < (M.1 47 i) then some 0 else some 1) fun y19 =>
        if y19 = (M.1 48 i) then X12_doesFit_L1 x M N (nI i + 1) else some false
      else X12_doesFit_L1 x M N (nI i + 1) := by
      rw [X12_doesFit_L1, h8, if_neg (nI_ge hi (by omega)), nI_clamp (by omega)]
      simp (disch := omega) only [gd_in]
    have e1 : nI i + 1 = nI (i + 1) := nI_add i 1
    rw [e1] at hst
    by_cases z1 : x < M.1 49 i
    · left
      rw [if_pos z1] at hst
      exact ⟨nI (i + 1), ⟨rfl, skip (fun y => y.1 (by rw [q8]; exact z1))⟩, hst⟩
    · rw [if_neg z1] at hst
      have ht : (if (M.1 50 i) < 0 then true else if x < (M.1 50 i) then true else false) = true ↔ (MX.1 59 i = -1 ∨ x < MX.1 59 i) := by
        rcases q9 with ⟨w1, w2⟩ | ⟨w, w1, w2, w3⟩
        · rw [w2, if_pos oneg1]
          exact ⟨fun _ => Or.inl w1, fun _ => rfl⟩
        · rw [w3, if_neg (nI_pos (by omega)), ite_b, w2]
          exact ⟨fun y => Or.inr y, fun y => y.elim (fun y => absurd y (nI_nm1 (by omega))) id⟩
      by_cases z2 : okn MX x i
      · rw [ht.mpr z2.2, l1_s, if_pos rfl] at hst
        have e48 : (if MX.1 57 i = 0 then (0 : Int32) else 1) = M.1 48 i := by
          rw [q6, q7]
          rcases (by omega : q4 = 0 ∨ q4 = 1) with rfl | rfl
          · rfl
          · rfl
        have ifs : ∀ (c : Prop) [Decidable c], (if c then some (0 : Int32) else some 1) = some (if c then 0 else 1) := fun c _ => by split <;> rfl
        obtain ⟨A, hA1, hA2⟩ : ∃ A : Int32, (
          if 0 ≤ (M.1 46 i) then
            bo_ (X12_tells (M.1 45 i) M) fun v12 =>
            bo_ (X12_tells (M.1 46 i) M) fun v13 =>
            if v12 ≤ v13 then some 0 else some 1
          else
            bo_ (X12_tells (M.1 45 i) M) fun v16 =>
            if v16 < (M.1 47 i) then some 0 else some 1) = some A ∧ (A = M.1 48 i ↔ oag MX (fun j => L.getD j 0) i) := by
          unfold oag
          rw [m3, otells_c h h51 hL m1, bo_s, bo_s, e48, m2]
          rcases q2 with ⟨w1, w2⟩ | ⟨w, w1, w2, w3⟩
          · rw [w2, if_neg (by decide), if_pos w1, q3]
            exact ⟨_, ifs _, Iff.rfl⟩
          · rw [w3, if_pos (show (0 : Int32) ≤ nI w from nI_le (a := 0) (b := w) (by omega) (by omega)), otells_c h h51 hL w1, bo_s, w2, if_neg (nI_nm1 (by omega))]
            exact ⟨_, ifs _, Iff.rfl⟩
        rw [hA1, b1_s] at hst
        by_cases z3 : oag MX (fun j => L.getD j 0) i
        · left
          rw [if_pos (hA2.mpr z3)] at hst
          refine ⟨nI (i + 1), ⟨rfl, fun i' h' k' => ?_⟩, hst⟩
          by_cases y : i' = i
          · rw [y]; exact z3
          · exact q i' (by omega) k'
        · right
          rw [if_neg (fun y => z3 (hA2.mp y))] at hst
          refine ⟨false, hst, ?_⟩
          have : ¬ ofit MX x ns L = true := fun y => z3 (ofit_iff.mp y i hi z2)
          exact (Bool.eq_false_iff.mpr this).symm
      · left
        have : ¬ (if (M.1 50 i) < 0 then true else if x < (M.1 50 i) then true else false) = true := fun y => z2 ⟨by rw [q8]; exact z1, ht.mp y⟩
        rw [Bool.eq_false_iff.mpr this, l1_s, if_neg Bool.false_ne_true] at hst
        exact ⟨nI (i + 1), ⟨rfl, skip z2⟩, hst⟩
