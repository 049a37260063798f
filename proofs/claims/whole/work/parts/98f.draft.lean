/-! ===== phase 2: the draft and its bank, while lines are read ===== -/
/-- marks: the reference's mask against the class's row -/
def MK (X : Nat → Int32) (v : Int32) (len top : Nat) : Prop := ∃ mask, mask < top ∧ v = nI mask ∧ ∀ k, k < len → X k = nI (mask / 2 ^ k % 2)
def DR (MX MM : Mem) (w mn kd bn hr : Nat) : Prop :=
  (MM.1 0 42 = nI w ∧ w ≤ 1) ∧ RM MX.1 4 MM.1 w mn kd bn hr ∧ NS MX MM 18 26 (3 * w) kd ∧ NS MX MM 19 27 (5 * w) mn ∧
  (∀ m, m < mn → MK (fun k => MX.1 20 (3 * m + k)) (MM.1 16 (5 * w + m)) 3 8 ∧ MK (fun k => MX.1 21 (3 * m + k)) (MM.1 17 (5 * w + m)) 3 8) ∧
  (∀ j, j < 15 → 3 * mn ≤ j → MX.1 20 j = 0 ∧ MX.1 21 j = 0 ∧ MX.1 8 j = 0 ∧ MX.1 9 j = 0) ∧
  MK (fun k => MX.1 22 k) (MM.1 11 w) 5 32 ∧
  (∃ g, g ≤ 1 ∧ MX.1 3 8 = nI g ∧ MM.1 23 w = nI g) ∧ (∃ g, g ≤ 1 ∧ MX.1 3 9 = nI g ∧ MM.1 24 w = nI g) ∧ (∃ g, g ≤ 1 ∧ MX.1 3 10 = nI g ∧ MM.1 25 w = nI g) ∧
  (∀ i, i < 5 → mn ≤ i → MX.1 6 i = 0 ∧ MX.1 7 i = 10) ∧ (∃ mask, mask < 2 ^ mn ∧ MM.1 10 w = nI mask) ∧
  (MX.1 3 8 = nI 0 → MM.1 0 43 = nI (560 * w) ∧ MX.1 13 2 = nI 0 ∧ MX.1 13 3 = nI 0 ∧ MM.1 7 w = nI 0)
theorem NS.fr {MX MM MX' MM' : Mem} {a a2 base cnt : Nat} (h : NS MX MM a a2 base cnt) (hx : ∀ i, MX'.2 a i = MX.2 a i) (hm : ∀ i, MM'.2 a2 i = MM.2 a2 i) : NS MX' MM' a a2 base cnt := by
  obtain ⟨h1, h2, h3, h4, h5⟩ := h
  exact ⟨h1, h2, h3, h4, fun k hk => by rw [hx, hm]; exact h5 k hk⟩
theorem DR.fr {MX MM MX' MM' : Mem} {w mn kd bn hr : Nat} (h : DR MX MM w mn kd bn hr) (f : FXr MX MX') (g : FMr MM MM') : DR MX' MM' w mn kd bn hr := by
  obtain ⟨⟨h1, h1'⟩, h2, h3, h4, h5, h6, h7, h8, h9, h10, h11, h12, h13⟩ := h
  refine ⟨⟨(g.1 0 42 (by omega)).trans h1, h1'⟩, h2.cg (fun a i z1 z2 => f.1 a i (by omega)) (fun a i z1 z2 => g.1 a i (by omega)), h3.fr (fun i => f.2 18 i (by omega)) (fun i => g.2 26 i (by omega)), h4.fr (fun i => f.2 19 i (by omega)) (fun i => g.2 27 i (by omega)), fun m hm => ?_, fun j h1 h2 => ?_, ?_, ?_, ?_, ?_, fun i h1 h2 => ?_, ?_, ?_⟩
  · rw [g.1 16 _ (by omega), g.1 17 _ (by omega)]
    simp only [fun i => f.1 20 i (by omega), fun i => f.1 21 i (by omega)]
    exact h5 m hm
  · rw [f.1 20 j (by omega), f.1 21 j (by omega), f.1 8 j (by omega), f.1 9 j (by omega)]; exact h6 j h1 h2
  · rw [g.1 11 _ (by omega)]
    simp only [fun i => f.1 22 i (by omega)]
    exact h7
  · rw [f.1 3 8 (by omega), g.1 23 _ (by omega)]; exact h8
  · rw [f.1 3 9 (by omega), g.1 24 _ (by omega)]; exact h9
  · rw [f.1 3 10 (by omega), g.1 25 _ (by omega)]; exact h10
  · rw [f.1 6 i (by omega), f.1 7 i (by omega)]; exact h11 i h1 h2
  · rw [g.1 10 _ (by omega)]; exact h12
  · rw [f.1 3 8 (by omega), g.1 0 43 (by omega), f.1 13 2 (by omega), f.1 13 3 (by omega), g.1 7 _ (by omega)]; exact h13
/-- what the reading of lines may change: the class; the reference, with bank w -/
def XF (M M' : Mem) : Prop := ∀ a i, ¬ (a = 16 ∨ (3 ≤ a ∧ a ≤ 14) ∨ (18 ≤ a ∧ a ≤ 22)) → M'.1 a i = M.1 a i
def MF (w : Nat) (M M' : Mem) : Prop := ∀ a i, ¬ ((a = 0 ∧ ((3 ≤ i ∧ i ≤ 10) ∨ (42 ≤ i ∧ i ≤ 46))) ∨ (((3 ≤ a ∧ a ≤ 11) ∨ (21 ≤ a ∧ a ≤ 25)) ∧ i = w) ∨ ((a = 12 ∨ a = 13 ∨ a = 16 ∨ a = 17 ∨ a = 20) ∧ 5 * w ≤ i ∧ i < 5 * w + 5) ∨ ((a = 14 ∨ a = 15) ∧ 15 * w ≤ i ∧ i < 15 * w + 15) ∨ ((a = 18 ∨ a = 19) ∧ 9 * w ≤ i ∧ i < 9 * w + 9) ∨ ((a = 28 ∨ a = 29) ∧ 560 * w ≤ i ∧ i < 560 * w + 560) ∨ a = 30 ∨ a = 31 ∨ a = 2) → M'.1 a i = M.1 a i
theorem XF.rf {M : Mem} : XF M M := fun _ _ _ => rfl
theorem MF.rf {w : Nat} {M : Mem} : MF w M M := fun _ _ _ => rfl
theorem XF.tr {M M1 M2 : Mem} (h : XF M M1) (k : XF M1 M2) : XF M M2 := fun a i z => (k a i z).trans (h a i z)
theorem MF.tr {w : Nat} {M M1 M2 : Mem} (h : MF w M M1) (k : MF w M1 M2) : MF w M M2 := fun a i z => (k a i z).trans (h a i z)
theorem FXr.x {M M' : Mem} (h : FXr M M') : XF M M' := fun a i z => h.1 a i (by omega)
theorem FMr.m {w : Nat} {M M' : Mem} (h : FMr M M') : MF w M M' := fun a i z => h.1 a i (by omega)
/-- the other bank's mill stands -/
theorem RM.bk {X X' : Nat → Nat → Int32} {o b w : Nat} {M M' : Mem} {mn kd bn hr : Nat} (h : RM X o M.1 b mn kd bn hr) (hX : ∀ a i, o ≤ a → a ≤ o + 10 → X' a i = X a i) (hM : MF w M M') (hb : b ≤ 1) (hw : w ≤ 1) (hbw : b ≠ w) : RM X' o M'.1 b mn kd bn hr := by
  obtain ⟨⟨h1, h2, h3, h4, h5⟩, ⟨m1, m2, m3, m4, m5, m6, m7, m8, m9⟩, d, k, ⟨mask, q1, q2, q3⟩, hd, r1, r2, r3, r4, r5, u, len, F, D, f1, f2, f3, f4, f5, ⟨f6, f7⟩, f8, f9, f10⟩ := h
  have c : ∀ a, (3 ≤ a ∧ a ≤ 11) ∨ (21 ≤ a ∧ a ≤ 25) → M'.1 a b = M.1 a b := fun a ha => hM a b (by omega)
  refine RM.cg (X := X) (V := M'.1) (V' := M'.1) ?_ hX (fun _ _ _ _ => rfl)
  refine ⟨⟨h1, h2, h3, h4, h5⟩, ⟨m1, (c 4 (by omega)).trans m2, m3, (c 3 (by omega)).trans m4, m5, (c 5 (by omega)).trans m6, m7.trans (c 6 (by omega)).symm, m8, (c 8 (by omega)).trans m9⟩, ?_, fun i hi => ?_, ⟨mask, q1, (c 10 (by omega)).trans q2, q3⟩, fun i hi => ?_, fun i k hi hk => ?_, r2, fun i k hi hk => ?_, fun r hr => ?_, fun i hi => ?_, u, len, F, D, f1, f2, (c 7 (by omega)).trans f3, f4, f5, ⟨f6, f7⟩, f8, ?_, fun i hi => ?_⟩
  · rw [c 9 (by omega)]; exact d
  · rw [hM 12 _ (by omega)]; exact k i hi
  · rw [hM 13 _ (by omega)]; exact hd i hi
  · rw [hM 14 _ (by omega)]; exact r1 i k hi hk
  · rw [hM 15 _ (by omega)]; exact r3 i k hi hk
  · rw [hM 18 _ (by omega), hM 19 _ (by omega)]; exact r4 r hr
  · rw [hM 20 _ (by omega)]; exact r5 i hi
  · rw [c 23 (by omega), c 21 (by omega), c 22 (by omega)]; exact f9
  · rw [hM 28 _ (by omega), hM 29 _ (by omega)]; exact f10 i hi
