/-! ===== phase 2: pieces of a line ===== -/
def FXr (M M' : Mem) : Prop := (∀ a i, a ≠ 16 → M'.1 a i = M.1 a i) ∧ ∀ a i, a ≠ 16 → M'.2 a i = M.2 a i
def FMr (M M' : Mem) : Prop := (∀ a i, a ≠ 0 ∨ i < 4 ∨ 9 < i → M'.1 a i = M.1 a i) ∧ ∀ a i, a ≠ 0 → M'.2 a i = M.2 a i
theorem FXr.rf {M : Mem} : FXr M M := ⟨fun _ _ _ => rfl, fun _ _ _ => rfl⟩
theorem FMr.rf {M : Mem} : FMr M M := ⟨fun _ _ _ => rfl, fun _ _ _ => rfl⟩
theorem FXr.tr {M M1 M2 : Mem} (h : FXr M M1) (k : FXr M1 M2) : FXr M M2 := ⟨fun a i z => (k.1 a i z).trans (h.1 a i z), fun a i z => (k.2 a i z).trans (h.2 a i z)⟩
theorem FMr.tr {M M1 M2 : Mem} (h : FMr M M1) (k : FMr M1 M2) : FMr M M2 := ⟨fun a i z => (k.1 a i z).trans (h.1 a i z), fun a i z => (k.2 a i z).trans (h.2 a i z)⟩
theorem FX.r {M M' : Mem} (h : FX M M') : FXr M M' := ⟨fun a i z => h.1 a i (Or.inl z), h.2⟩
theorem FM.r {M M' : Mem} (h : FM M M') : FMr M M' := ⟨fun a i z => h.1 a i (by omega), h.2⟩
theorem FXr.up {M M1 : Mem} (h : FXr M M1) (j : Nat) (v : Int32) : FXr M (uI M1 16 j v) := ⟨fun a i z => by rw [uI_ne (by omega)]; exact h.1 a i z, h.2⟩
theorem FMr.up {M M1 : Mem} (h : FMr M M1) {j : Nat} (v : Int32) (hj : 4 ≤ j ∧ j ≤ 9) : FMr M (uI M1 0 j v) := ⟨fun a i z => by rw [uI_ne (by omega)]; exact h.1 a i z, h.2⟩
/-- both sides read on, no fault so far -/
def GD (MX MM : Mem) (n : Nat) (tx : Nat → Nat) (p q : Nat) : Prop := AT MX MM n tx p q ∧ MX.1 16 5 = 0 ∧ MX.1 16 6 = -1 ∧ MM.1 0 4 = 0 ∧ MM.1 0 5 = -1
/-- both have met the same fault at the same place -/
def BD (MX MM : Mem) : Prop := ∃ f p : Nat, 1 ≤ f ∧ f ≤ 5 ∧ MX.1 16 5 = nI f ∧ MX.1 16 6 = nI p ∧ MM.1 0 4 = nI f ∧ MM.1 0 5 = nI p ∧ MM.1 0 6 = nI p ∧ p ≤ 1600 ∧ ∃ n : Nat, n ≤ 1600 ∧ MM.1 0 3 = nI n
def OUT (n : Nat) (tx : Nat → Nat) (q : Nat) (MX MM : Mem) (ok : Bool) (MX' MM' : Mem) : Prop := FXr MX MX' ∧ FMr MM MM' ∧ ((ok = true ∧ ∃ p' q', GD MX' MM' n tx p' q' ∧ q ≤ p') ∨ (ok = false ∧ BD MX' MM'))
theorem isGood_l {M : Mem} : X12_isGood M = true ↔ M.1 0 4 = 0 := by unfold X12_isGood; exact ite_b
theorem GD.good {MX MM : Mem} {n : Nat} {tx : Nat → Nat} {p q : Nat} (h : GD MX MM n tx p q) : X12_isGood MM = true := isGood_l.mpr h.2.2.2.1
theorem BD.bad {MX MM : Mem} (h : BD MX MM) : X12_isGood MM = false := by
  obtain ⟨f, p, h1, h2, h3, h4, h5, h6⟩ := h
  refine Bool.eq_false_iff.mpr fun z => ?_
  have := isGood_l.mp z
  rw [h5] at this
  have := (nI_eq (a := f) (b := 0) (by omega) (by omega)).mp this
  omega
theorem BD.fr {MX MM MX' MM' : Mem} (h : BD MX MM) (h1 : MX'.1 16 5 = MX.1 16 5) (h2 : MX'.1 16 6 = MX.1 16 6) (h3 : MM'.1 0 4 = MM.1 0 4) (h4 : MM'.1 0 5 = MM.1 0 5) (h5 : MM'.1 0 6 = MM.1 0 6) (h6 : MM'.1 0 3 = MM.1 0 3) : BD MX' MM' := by
  unfold BD
  rw [h1, h2, h3, h4, h5, h6]
  exact h
section PIECE
variable {MX MM : Mem} {n : Nat} {tx : Nat → Nat} {p q : Nat}
theorem GD.fail (h : GD MX MM n tx p q) {f : Nat} (h1 : 1 ≤ f) (h2 : f ≤ 5) : X12_fails (nI f) (MM.1 0 6) MM = uI (uI MM 0 4 (nI f)) 0 5 (nI p) ∧ BD (uI (uI MX 16 5 (nI f)) 16 6 (nI p)) (uI (uI MM 0 4 (nI f)) 0 5 (nI p)) := by
  have hle := h.1.2.2.2.2.2.le
  have hn := h.1.2.2.2.2.1
  refine ⟨?_, f, p, h1, h2, ?_, ?_, ?_, ?_, ?_, by have := hn.1; omega, n, hn.1, hn.2.2.1⟩
  · unfold X12_fails
    rw [h.2.2.2.1, if_pos (by decide), lt_e, lt_e, h.1.2.1]
  · rw [uI_ne (by omega), uI_eq]
  · rw [uI_eq]
  · rw [uI_ne (by omega), uI_eq]
  · rw [uI_eq]
  · rw [uI_ne (by omega), uI_ne (by omega)]; exact h.1.2.1
theorem GD.sort1 (h : GD MX MM n tx p q) : MX.1 16 1 = 1 ↔ MM.1 0 8 = 1 := by
  have h5 := h.1.2.2.2.2.1
  rcases h.1.2.2.2.2.2 with ⟨_, _, a, b⟩ | ⟨_, _, a, b⟩ | ⟨hW, a, _, b, c⟩ | ⟨_, _, a, b, _⟩ | ⟨a0, _, s, a, b⟩
  · rw [a, b]
  · rw [a, b]
  · rw [a]
    rcases c with ⟨_, c⟩ | ⟨_, c⟩ <;> rw [c] <;> exact ⟨fun y => absurd y (by decide), fun y => absurd y (by decide)⟩
  · rw [a, b]; exact ⟨fun y => absurd y (by decide), fun y => absurd y (by decide)⟩
  · rw [a, b]
    refine ⟨fun y => ?_, fun y => absurd y (by decide)⟩
    have := (nI_eq (a := tx p) (b := 1) (by have := (h5.2.2.2 p a0).1; omega) (by omega)).mp y
    unfold SGN at s
    omega
/-- neither side takes what stands here -/
theorem misplaced_c (h : GD MX MM n tx p q) : ∃ MX' MM', X6_refuse 2 MX = (false, MX') ∧ X12_misplaced MM = MM' ∧ OUT n tx q MX MM false MX' MM' := by
  have go : ∀ f : Nat, 1 ≤ f → f ≤ 5 → OUT n tx q MX MM false (uI (uI MX 16 5 (nI f)) 16 6 (nI p)) (uI (uI MM 0 4 (nI f)) 0 5 (nI p)) := fun f h1 h2 => ⟨(FXr.rf.up _ _).up _ _, (FMr.rf.up _ (by omega)).up _ (by omega), Or.inr ⟨rfl, (h.fail h1 h2).2⟩⟩
  by_cases z : MX.1 16 1 = 1
  · refine ⟨_, _, ?_, ?_, go 1 (by omega) (by omega)⟩
    · unfold X6_refuse
      rw [if_pos z, l1_s, lt_e, lt_e, uI_ne (by omega), h.1.1]
      rfl
    · unfold X12_misplaced
      rw [if_pos (h.sort1.mp z), l1_s, show (1 : Int32) = nI 1 from rfl, (h.fail (f := 1) (by omega) (by omega)).1, lt_e]
  · refine ⟨_, _, ?_, ?_, go 2 (by omega) (by omega)⟩
    · unfold X6_refuse
      rw [if_neg z, l1_s, lt_e, lt_e, uI_ne (by omega), h.1.1]
      rfl
    · unfold X12_misplaced
      rw [if_neg (fun y => z (h.sort1.mpr y)), l1_s, show (2 : Int32) = nI 2 from rfl, (h.fail (f := 2) (by omega) (by omega)).1, lt_e]
theorem refuse_c (h : GD MX MM n tx p q) {f : Nat} (h1 : 1 ≤ f) (h2 : f ≤ 5) (hs : ¬ MX.1 16 1 = 1) : ∃ MX' MM', X6_refuse (nI f) MX = (false, MX') ∧ X12_fails (nI f) (MM.1 0 6) MM = MM' ∧ OUT n tx q MX MM false MX' MM' := by
  refine ⟨_, _, ?_, (h.fail h1 h2).1, (FXr.rf.up 5 (nI f)).up 6 (nI p), (FMr.rf.up _ (by omega)).up _ (by omega), Or.inr ⟨rfl, (h.fail h1 h2).2⟩⟩
  unfold X6_refuse
  rw [if_neg hs, l1_s, lt_e, lt_e, uI_ne (by omega), h.1.1]
theorem stepG_c (h : GD MX MM n tx p q) : ∃ MX' MM' p' q', X6_step MX = some MX' ∧ X12_goOn MM = some MM' ∧ FX MX MX' ∧ FM MM MM' ∧ GD MX' MM' n tx p' q' ∧ q ≤ p' ∧ (p' < q' ∨ p' = n) := by
  obtain ⟨⟨h1, h2, h3, h4, h5, h6⟩, k1, k2, k3, k4⟩ := h
  obtain ⟨MX', MM', p', q', e1, e2, f, g, a, r1, r2⟩ := step_c h5 h6.le.2 h3 h4
  exact ⟨MX', MM', p', q', e1, e2, f, g, ⟨a, (f.1 16 5 (by omega)).trans k1, (f.1 16 6 (by omega)).trans k2, (g.1 0 4 (by omega)).trans k3, (g.1 0 5 (by omega)).trans k4⟩, r1, r2⟩
theorem must_c (h : GD MX MM n tx p q) (b : Bool) : ∃ MX' MM', (if b = true then bo_ (X6_step MX) fun M2 => some (true, M2) else lp_ (X6_refuse 2 MX) fun b3 M4 => some (b3, M4)) = some (b, MX') ∧ X12_must (b2i b) MM = some MM' ∧ OUT n tx q MX MM b MX' MM' := by
  unfold X12_must
  rw [h.good, if_pos rfl]
  cases b with
  | true =>
    obtain ⟨MX', MM', p', q', e1, e2, f, g, a, r1, r2⟩ := stepG_c h
    refine ⟨MX', MM', ?_, ?_, f.r, g.r, Or.inl ⟨rfl, p', q', a, r1⟩⟩
    · rw [if_pos rfl, e1, bo_s]
    · rw [if_neg (by decide), e2, bo_s]
  | false =>
    obtain ⟨MX', MM', e1, e2, o⟩ := misplaced_c h
    refine ⟨MX', MM', ?_, ?_, o⟩
    · rw [if_neg Bool.false_ne_true, e1, lp_s]
    · rw [if_pos (by decide), e2, lt_e]
theorem takesSign_c (h : GD MX MM n tx p q) {c : Nat} (hc : SGN c) : ∃ ok MX' MM', X6_takesSign (nI c) MX = some (ok, MX') ∧ (bo_ (X12_isSignHere (nI c) MM) fun b => X12_must (b2i b) MM) = some MM' ∧ OUT n tx q MX MM ok MX' MM' := by
  obtain ⟨MX', MM', e1, e2, o⟩ := must_c h (decide (MX.1 16 1 = nI c))
  refine ⟨_, MX', MM', ?_, by rw [sgn_c h.1 hc, bo_s]; exact e2, o⟩
  rw [← e1]
  unfold X6_takesSign
  by_cases z : MX.1 16 1 = nI c
  · rw [if_pos z, if_pos (decide_eq_true z)]
  · rw [if_neg z, if_neg (fun y => z (of_decide_eq_true y))]
theorem takesWord_c (h : GD MX MM n tx p q) {w : Nat} (hw : w < 43) : ∃ ok MX' MM', X6_takesWord w MX = some (ok, MX') ∧ X12_must (b2i (X12_isWord (WC w) MM)) MM = some MM' ∧ OUT n tx q MX MM ok MX' MM' := by
  obtain ⟨MX', MM', e1, e2, o⟩ := must_c h (X12_isWord (WC w) MM)
  refine ⟨_, MX', MM', ?_, e2, o⟩
  rw [← e1]
  unfold X6_takesWord
  rw [word_c h.1 hw, bo_s]
end PIECE
