/-! ===== phase 2: the end of a line; the short lines ===== -/
theorem BD.sign {MX MM : Mem} (h : BD MX MM) (c : Int32) : ∃ b, X12_isSignHere c MM = some b := by
  obtain ⟨f, p, _, _, _, _, _, _, h6, hp, n, hn, h3⟩ := h
  unfold X12_isSignHere
  by_cases z : MM.1 0 8 = 5
  · rw [if_pos z]
    unfold X12_sign
    rw [h3, h6]
    by_cases y : n ≤ p
    · rw [if_pos (nI_le y (by omega)), bo_s]
      split
      · exact ⟨_, rfl⟩
      · exact ⟨_, rfl⟩
    · rw [if_neg (nI_ge (by omega) (by omega)), gd_in (by omega) (by omega), bo_s]
      split
      · exact ⟨_, rfl⟩
      · exact ⟨_, rfl⟩
  · rw [if_neg z]
    exact ⟨_, rfl⟩
/-- a line read: on both sides, or the same fault -/
def LO (n : Nat) (tx : Nat → Nat) (q w : Nat) (MX MM : Mem) (ok : Bool) (MX' MM' : Mem) : Prop := XF MX MX' ∧ MF w MM MM' ∧ ((ok = true ∧ ∃ p' q' mn kd bn hr, GD MX' MM' n tx p' q' ∧ q ≤ p' ∧ DR MX' MM' w mn kd bn hr) ∨ (ok = false ∧ BD MX' MM'))
/-- the reference's end of a line -/
noncomputable def mEnd (M65 : Mem) : Option Mem :=
    bo_ (X12_isSignHere 59 M65) fun b66 =>
    bo_ (X12_must (b2i (b66)) M65) fun M67 =>
    some M67
theorem end_c {MX MM : Mem} {n : Nat} {tx : Nat → Nat} {p q w mn kd bn hr : Nat} (h : GD MX MM n tx p q) (hD : DR MX MM w mn kd bn hr) : ∃ ok MX' MM', X6_takesSign 59 MX = some (ok, MX') ∧ mEnd MM = some MM' ∧ LO n tx q w MX MM ok MX' MM' := by
  obtain ⟨ok, MX', MM', e1, e2, f, g, o⟩ := takesSign_c h (c := 59) (by unfold SGN; omega)
  refine ⟨ok, MX', MM', e1, ?_, f.x, g.m, ?_⟩
  · unfold mEnd
    have e2 : (bo_ (X12_isSignHere 59 MM) fun b => X12_must (b2i b) MM) = some MM' := e2
    cases hs : X12_isSignHere 59 MM with
    | none => rw [hs] at e2; exact absurd e2 (by intro z; cases z)
    | some b =>
      rw [hs, bo_s] at e2
      rw [bo_s, e2, bo_s]
  · rcases o with ⟨rfl, p', q', gd, r⟩ | ⟨rfl, bd⟩
    · exact Or.inl ⟨rfl, p', q', mn, kd, bn, hr, gd, r, hD.fr f g⟩
    · exact Or.inr ⟨rfl, bd⟩
theorem end_bad {MX MM : Mem} (h : BD MX MM) : mEnd MM = some MM := by
  unfold mEnd
  obtain ⟨b, e⟩ := h.sign 59
  rw [e, bo_s, bad_must h, bo_s]
