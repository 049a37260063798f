/-! ===== phase 2: the best row ===== -/
theorem t3_0 (a b c : Nat) : t3 a b c 0 = a := rfl
theorem t3_1 (a b c : Nat) : t3 a b c 1 = b := rfl
theorem t3_2 (a b c : Nat) : t3 a b c 2 = c := rfl
theorem three {P : Nat → Prop} (h0 : P 0) (h1 : P 1) (h2 : P 2) : ∀ k, k < 3 → P k := fun k hk => by
  rcases (by omega : k = 0 ∨ k = 1 ∨ k = 2) with rfl | rfl | rfl <;> assumption
theorem noRow_c {M : Mem} : ∃ M', X12_noRow M = some M' ∧ Fr S35 M M' ∧ ∀ k, k < 3 → M'.1 35 k = nI 0 := by
  unfold X12_noRow
  obtain ⟨n, hn⟩ := zFU_s 4 (by omega)
  rw [hn, show n + 4 = n + 3 + 1 from rfl, X12_noRow_L1, if_neg (by decide), show (0 : Int32) = nI 0 from rfl, gd_in (by omega) (by omega), nI_clamp (by omega), lt_e, show n + 3 = n + 2 + 1 from rfl, X12_noRow_L1, if_neg (by decide), show nI 0 + 1 = nI 1 from rfl, gd_in (by omega) (by omega), nI_clamp (by omega), lt_e, show n + 2 = n + 1 + 1 from rfl, X12_noRow_L1, if_neg (by decide), show nI 1 + 1 = nI 2 from rfl, gd_in (by omega) (by omega), nI_clamp (by omega), lt_e, X12_noRow_L1, if_pos (by decide), b1_s]
  refine ⟨_, rfl, ((Fr.rf.up _ ⟨rfl, by omega⟩).up _ ⟨rfl, by omega⟩).up _ ⟨rfl, by omega⟩, three ?_ ?_ ?_⟩
  · rfl
  · rfl
  · rfl
theorem copy36_2 {M : Mem} : ∃ M', X12_layBest_L2 zFU 0 M = some M' ∧ Fr (fun a _ => a = 36) M M' ∧ ∀ k, k < 3 → M'.1 36 k = M.1 35 k := by
  obtain ⟨n, hn⟩ := zFU_s 4 (by omega)
  rw [hn, show n + 4 = n + 3 + 1 from rfl, X12_layBest_L2, if_neg (by decide), show (0 : Int32) = nI 0 from rfl, gd_in (by omega) (by omega), gd_in (by omega) (by omega), nI_clamp (by omega), lt_e, show n + 3 = n + 2 + 1 from rfl, X12_layBest_L2, if_neg (by decide), show nI 0 + 1 = nI 1 from rfl, gd_in (by omega) (by omega), gd_in (by omega) (by omega), nI_clamp (by omega), lt_e, show n + 2 = n + 1 + 1 from rfl, X12_layBest_L2, if_neg (by decide), show nI 1 + 1 = nI 2 from rfl, gd_in (by omega) (by omega), gd_in (by omega) (by omega), nI_clamp (by omega), lt_e, X12_layBest_L2, if_pos (by decide)]
  refine ⟨_, rfl, (((Fr.rf (S := fun a _ => a = 36)).up _ rfl).up _ rfl).up _ rfl, three ?_ ?_ ?_⟩
  · rfl
  · rfl
  · rfl
theorem copy36_3 {M : Mem} : ∃ M', X12_layBest_L3 zFU 0 M = some M' ∧ Fr (fun a _ => a = 36) M M' ∧ ∀ k, k < 3 → M'.1 36 k = M.1 35 k := by
  obtain ⟨n, hn⟩ := zFU_s 4 (by omega)
  rw [hn, show n + 4 = n + 3 + 1 from rfl, X12_layBest_L3, if_neg (by decide), show (0 : Int32) = nI 0 from rfl, gd_in (by omega) (by omega), gd_in (by omega) (by omega), nI_clamp (by omega), lt_e, show n + 3 = n + 2 + 1 from rfl, X12_layBest_L3, if_neg (by decide), show nI 0 + 1 = nI 1 from rfl, gd_in (by omega) (by omega), gd_in (by omega) (by omega), nI_clamp (by omega), lt_e, show n + 2 = n + 1 + 1 from rfl, X12_layBest_L3, if_neg (by decide), show nI 1 + 1 = nI 2 from rfl, gd_in (by omega) (by omega), gd_in (by omega) (by omega), nI_clamp (by omega), lt_e, X12_layBest_L3, if_pos (by decide)]
  refine ⟨_, rfl, (((Fr.rf (S := fun a _ => a = 36)).up _ rfl).up _ rfl).up _ rfl, three ?_ ?_ ?_⟩
  · rfl
  · rfl
  · rfl
/-- the best row so far, on both sides -/
def BQ (M1 M2 : Mem) (m : Nat) (l : Nat → Nat) (rx : Nat → Nat → Int32) : Prop := M1.1 41 8 = 1 ∧ M1.1 41 9 = M2.1 0 57 ∧ ∃ w : Nat → Nat, M1.1 41 10 = nI (w 0 + w 1 + w 2) ∧ M2.1 0 56 = nI (w 0 + w 1 + w 2) ∧ w 0 + w 1 + w 2 ≤ 8 ∧ (∀ k, k < 3 → w k ≤ l k) ∧ (∀ p k, p < 5 → k < 3 → M1.1 47 (3 * p + k) = if p = m then nI (w k) else rx p k) ∧ ∀ k, k < 3 → M2.1 36 k = nI (w k)
noncomputable def mCons (y11 y14 : Int32) (M13 : Mem) : Option Mem :=
      l1_ (α := Bool) (
        if (M13.1 0 56) < 0 then
          true
        else
        if (M13.1 0 57) < y11 then
          true
        else
        false) fun t17 =>
      if t17 = true then
        lt_ (uI M13 0 57 y11) fun M19 =>
        lt_ (uI M19 0 56 y14) fun M20 =>
        b1_ (α := Mem) (X12_layBest_L2 zFU 0 M20) fun M25 =>
        some M25
      else
      if y11 = (M13.1 0 57) then
        if (M13.1 0 56) ≤ y14 then
          some M13
        else
        lt_ (uI M13 0 57 y11) fun M28 =>
        lt_ (uI M28 0 56 y14) fun M29 =>
        b1_ (α := Mem) (X12_layBest_L3 zFU 0 M29) fun M34 =>
        some M34
      else
      some M13
theorem layBest_st {x1 x2 : Int32} {n : Nat} {M : Mem} : X12_layBest_L1 x1 x2 (n + 1) 1 M = (bo_ (X12_layRow x1 1 M) fun M5 =>
    b2_ (α := Int32) (β := Mem) (
      if x2 = 0 then
        bp_ (X12_growthOf x1 M5) fun v9 M10 =>
        some (v9, M10)
      else
      bp_ (X12_growths M5) fun v7 M8 =>
      some (v7, M8)) fun y11 M12 =>
    bo_ (X12_layRow x1 (-1) M12) fun M13 =>
    b1_ (α := Mem) (mCons y11 (((M13.1 35 0) + (M13.1 35 1)) + (M13.1 35 2)) M13) fun M35 =>
    bo_ (X12_leftOf x1 M35) fun v36 =>
    bp_ (X12_nextRow 38 v36 M35) fun b37 M38 =>
    X12_layBest_L1 x1 x2 n (b2i (b37)) M38) := by
  rw [X12_layBest_L1, if_neg (by decide)]
  rfl
def SBx (a i : Nat) : Prop := (a = 41 ∧ (i = 8 ∨ i = 9 ∨ i = 10)) ∨ a = 47
def SBm (a i : Nat) : Prop := (a = 0 ∧ (i = 56 ∨ i = 57)) ∨ a = 36
section CONS
variable {M1 M2 : Mem} {m a bb c : Nat} {l : Nat → Nat} {rx : Nat → Nat → Int32} {v : Int32}
theorem set_x (h : (M1.1 41 8 = 0 ∨ M1.1 41 9 < v) ∨ (v = M1.1 41 9 ∧ ¬ M1.1 41 10 ≤ nI (a + bb + c))) : X5_consider v (nI (a + bb + c)) M1 = some (uC (uI (uI (uI M1 41 8 1) 41 9 v) 41 10 (nI (a + bb + c))) 46 47 0 0 15) := by
  unfold X5_consider
  by_cases h1 : M1.1 41 8 = 0
  · rw [if_pos h1, l1_s, if_pos rfl, lt_e, lt_e, lt_e, cpI zlX_46 zlX_47 (by omega), bo_s]
  · rw [if_neg h1]
    by_cases h2 : M1.1 41 9 < v
    · rw [if_pos h2, l1_s, if_pos rfl, lt_e, lt_e, lt_e, cpI zlX_46 zlX_47 (by omega), bo_s]
    · rcases h with h | ⟨h3, h4⟩
      · exact absurd h (fun z => z.elim h1 h2)
      · rw [if_neg h2, l1_s, if_neg (by decide), if_pos h3, if_neg h4, lt_e, lt_e, lt_e, cpI zlX_46 zlX_47 (by omega), bo_s]
theorem keep_x (h1 : ¬ M1.1 41 8 = 0) (h2 : ¬ M1.1 41 9 < v) (h3 : v = M1.1 41 9 → M1.1 41 10 ≤ nI (a + bb + c)) : X5_consider v (nI (a + bb + c)) M1 = some M1 := by
  unfold X5_consider
  rw [if_neg h1, if_neg h2, l1_s, if_neg (by decide)]
  by_cases h4 : v = M1.1 41 9
  · rw [if_pos h4, if_pos (h3 h4)]
  · rw [if_neg h4]
theorem set_m (h : (M2.1 0 56 < 0 ∨ M2.1 0 57 < v) ∨ (v = M2.1 0 57 ∧ ¬ M2.1 0 56 ≤ nI (a + bb + c))) : ∃ M', mCons v (nI (a + bb + c)) M2 = some M' ∧ Fr SBm M2 M' ∧ M'.1 0 57 = v ∧ M'.1 0 56 = nI (a + bb + c) ∧ ∀ k, k < 3 → M'.1 36 k = M2.1 35 k := by
  have fin : ∀ M', Fr (fun a _ => a = 36) (uI (uI M2 0 57 v) 0 56 (nI (a + bb + c))) M' → (∀ k, k < 3 → M'.1 36 k = (uI (uI M2 0 57 v) 0 56 (nI (a + bb + c))).1 35 k) → Fr SBm M2 M' ∧ M'.1 0 57 = v ∧ M'.1 0 56 = nI (a + bb + c) ∧ ∀ k, k < 3 → M'.1 36 k = M2.1 35 k := fun M' f g =>
    ⟨((Fr.rf.up _ (Or.inl ⟨rfl, Or.inr rfl⟩)).up _ (Or.inl ⟨rfl, Or.inl rfl⟩)).tr (f.wk (fun a i h => Or.inr h)), (f.2 0 57 (by omega)).trans rfl, (f.2 0 56 (by omega)).trans rfl, fun k hk => (g k hk).trans rfl⟩
  unfold mCons
  by_cases h1 : M2.1 0 56 < 0
  · obtain ⟨M', e, f, g⟩ := copy36_2 (M := uI (uI M2 0 57 v) 0 56 (nI (a + bb + c)))
    refine ⟨M', ?_, fin M' f g⟩
    rw [if_pos h1, l1_s, if_pos rfl, lt_e, lt_e, e, b1_s]
  · rw [if_neg h1]
    by_cases h2 : M2.1 0 57 < v
    · obtain ⟨M', e, f, g⟩ := copy36_2 (M := uI (uI M2 0 57 v) 0 56 (nI (a + bb + c)))
      refine ⟨M', ?_, fin M' f g⟩
      rw [if_pos h2, l1_s, if_pos rfl, lt_e, lt_e, e, b1_s]
    · rcases h with h | ⟨h3, h4⟩
      · exact absurd h (fun z => z.elim h1 h2)
      · obtain ⟨M', e, f, g⟩ := copy36_3 (M := uI (uI M2 0 57 v) 0 56 (nI (a + bb + c)))
        refine ⟨M', ?_, fin M' f g⟩
        rw [if_neg h2, l1_s, if_neg (by decide), if_pos h3, if_neg h4, lt_e, lt_e, e, b1_s]
theorem keep_m (h1 : ¬ M2.1 0 56 < 0) (h2 : ¬ M2.1 0 57 < v) (h3 : v = M2.1 0 57 → M2.1 0 56 ≤ nI (a + bb + c)) : mCons v (nI (a + bb + c)) M2 = some M2 := by
  unfold mCons
  rw [if_neg h1, if_neg h2, l1_s, if_neg (by decide)]
  by_cases h4 : v = M2.1 0 57
  · rw [if_pos h4, if_pos (h3 h4)]
  · rw [if_neg h4]
theorem consider_c (hB : (M1.1 41 8 = 0 ∧ M2.1 0 56 = -1) ∨ BQ M1 M2 m l rx) (hrows : ∀ p k, p < 5 → k < 3 → M1.1 46 (3 * p + k) = if p = m then nI (t3 a bb c k) else rx p k) (h35 : ∀ k, k < 3 → M2.1 35 k = nI (t3 a bb c k)) (hs : a + bb + c ≤ 8) (hle : ∀ k, k < 3 → t3 a bb c k ≤ l k) :
    ∃ M1' M2', X5_consider v (nI (a + bb + c)) M1 = some M1' ∧ mCons v (nI (a + bb + c)) M2 = some M2' ∧ Fr SBx M1 M1' ∧ Fr SBm M2 M2' ∧ BQ M1' M2' m l rx := by
  have set : ((M1.1 41 8 = 0 ∨ M1.1 41 9 < v) ∨ (v = M1.1 41 9 ∧ ¬ M1.1 41 10 ≤ nI (a + bb + c))) → ((M2.1 0 56 < 0 ∨ M2.1 0 57 < v) ∨ (v = M2.1 0 57 ∧ ¬ M2.1 0 56 ≤ nI (a + bb + c))) → ∃ M1' M2', X5_consider v (nI (a + bb + c)) M1 = some M1' ∧ mCons v (nI (a + bb + c)) M2 = some M2' ∧ Fr SBx M1 M1' ∧ Fr SBm M2 M2' ∧ BQ M1' M2' m l rx := fun q1 q2 => by
    obtain ⟨M', e, f, g1, g2, g3⟩ := set_m q2
    refine ⟨_, M', set_x q1, e, ?_, f, ?_⟩
    · exact (((Fr.rf.up _ (Or.inl ⟨rfl, Or.inl rfl⟩)).up _ (Or.inl ⟨rfl, Or.inr (Or.inl rfl)⟩)).up _ (Or.inl ⟨rfl, Or.inr (Or.inr rfl)⟩)).cp (fun b _ _ => Or.inr rfl)
    · refine ⟨?_, ?_, t3 a bb c, ?_, ?_, hs, hle, fun p k hp hk => ?_, fun k hk => (g3 k hk).trans (h35 k hk)⟩
      · rw [uC_g, if_neg (by omega)]; rfl
      · rw [uC_g, if_neg (by omega), g1]; rfl
      · rw [uC_g, if_neg (by omega)]; rfl
      · rw [g2]; rfl
      · rw [uC_g, if_pos ⟨rfl, by omega⟩, uI_ne (by omega), uI_ne (by omega), uI_ne (by omega), hrows p k hp hk]
  rcases hB with ⟨q1, q2⟩ | hB
  · exact set (Or.inl (Or.inl q1)) (Or.inl (Or.inl (by rw [q2]; decide)))
  · obtain ⟨q1, q2, w, q3, q4, q5, _⟩ := id hB
    by_cases c1 : M1.1 41 9 < v
    · exact set (Or.inl (Or.inr c1)) (Or.inl (Or.inr (q2 ▸ c1)))
    · by_cases c2 : v = M1.1 41 9 ∧ ¬ M1.1 41 10 ≤ nI (a + bb + c)
      · exact set (Or.inr c2) (Or.inr ⟨c2.1.trans q2, by rw [q4, ← q3]; exact c2.2⟩)
      · have c3 : v = M1.1 41 9 → M1.1 41 10 ≤ nI (a + bb + c) := fun h => Decidable.byContradiction fun z => c2 ⟨h, z⟩
        refine ⟨M1, M2, keep_x (by rw [q1]; decide) c1 c3, keep_m (by rw [q4]; exact nI_pos (by omega)) (by rw [← q2]; exact c1) (fun h => ?_), Fr.rf, Fr.rf, hB⟩
        rw [q4, ← q3]
        exact c3 (h.trans q2.symm)
end CONS
