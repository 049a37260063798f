/-! ===== phase 2: numbers and names of a line ===== -/
/-- a name, base 27 and base 256 -/
def NM (x y : Int64) : Prop := ∃ (len : Nat) (f : Nat → Nat), len ≤ 8 ∧ (∀ i, i < len → 97 ≤ f i ∧ f i ≤ 122) ∧ x = nL (bb 27 (fun i => f i - 96) len) ∧ y = nL (bb 256 f len)
theorem NM.eq {x y x' y' : Int64} (h : NM x y) (h' : NM x' y') : x = x' ↔ y = y' := by
  obtain ⟨l, f, l8, hf, rfl, rfl⟩ := h
  obtain ⟨l', f', l8', hf', rfl, rfl⟩ := h'
  have b1 : ∀ (l : Nat) (f : Nat → Nat), l ≤ 8 → (∀ i, i < l → 97 ≤ f i ∧ f i ≤ 122) → bb 27 (fun i => f i - 96) l < 2 ^ 63 ∧ bb 256 f l < 2 ^ 63 := fun l f hl hf => by
    have a1 : bb 27 (fun i => f i - 96) l < 27 ^ l := bb_27 _ (fun i hi => by have := hf i hi; omega)
    have a2 : 27 ^ l ≤ 27 ^ 8 := Nat.pow_le_pow_right (by omega) hl
    have a3 : 2 * bb 256 f l < 256 ^ l := bb_256 _ (fun i hi => by have := hf i hi; omega)
    have a4 : 256 ^ l ≤ 256 ^ 8 := Nat.pow_le_pow_right (by omega) hl
    exact ⟨by omega, by omega⟩
  obtain ⟨p1, p2⟩ := b1 l f l8 hf
  obtain ⟨p3, p4⟩ := b1 l' f' l8' hf'
  rw [nL_inj p1 p3, nL_inj p2 p4]
  constructor
  · intro h
    obtain ⟨r1, r2⟩ := bb_inj _ _ (fun i hi => by have := hf i hi; omega) (fun i hi => by have := hf' i hi; omega) h
    subst r1
    exact bb_cg _ (fun i hi => by have := r2 i hi; have := hf i hi; have := hf' i hi; omega)
  · intro h
    obtain ⟨r1, r2⟩ := bb_inj _ _ (fun i hi => by have := hf i hi; omega) (fun i hi => by have := hf' i hi; omega) h
    subst r1
    exact bb_cg _ (fun i hi => by rw [r2 i hi])
section PIECE
variable {MX MM : Mem} {n : Nat} {tx : Nat → Nat} {p q : Nat}
theorem GD.num (h : GD MX MM n tx p q) : (MX.1 16 1 = 3 ∧ MM.1 0 8 = 4 ∧ ∃ v, v ≤ 9999 ∧ MX.1 16 3 = nI v ∧ MM.1 0 9 = nI v) ∨ (¬ MX.1 16 1 = 3 ∧ ¬ MM.1 0 8 = 4) := by
  have h5 := h.1.2.2.2.2.1
  rcases h.1.2.2.2.2.2 with ⟨_, _, a, b⟩ | ⟨_, _, a, b⟩ | ⟨hW, a, _, b, c⟩ | ⟨_, _, a, b, v⟩ | ⟨a0, _, s, a, b⟩
  · right; rw [a, b]; decide
  · right; rw [a, b]; decide
  · right
    rw [a]
    rcases c with ⟨_, c⟩ | ⟨_, c⟩ <;> rw [c] <;> decide
  · left; exact ⟨a, b, v⟩
  · right
    rw [a, b]
    refine ⟨fun y => ?_, by decide⟩
    have := (nI_eq (a := tx p) (b := 3) (by have := (h5.2.2.2 p a0).1; omega) (by omega)).mp y
    unfold SGN at s
    omega
theorem number_c (h : GD MX MM n tx p q) {lo hi : Nat} (hl : lo ≤ hi) (hh : hi ≤ 999) : ∃ ok v MX' MM', X6_takesNumber (nI lo) (nI hi) MX = some (ok, MX') ∧ X12_numeral (nI lo) (nI hi) MM = some (v, MM') ∧ OUT n tx q MX MM ok MX' MM' ∧ (ok = true → ∃ k, lo ≤ k ∧ k ≤ hi ∧ v = nI k ∧ MX'.1 16 4 = nI k) := by
  rcases h.num with ⟨a, b, k, k1, k2, k3⟩ | ⟨a, b⟩
  · have hs : ¬ MX.1 16 1 = 1 := by rw [a]; decide
    by_cases z : lo ≤ k ∧ k ≤ hi
    · have h' : GD (uI MX 16 4 (nI k)) MM n tx p q := h
      obtain ⟨MX', MM', p', q', e1, e2, f, g, gd, r1, r2⟩ := stepG_c h'
      refine ⟨true, nI k, MX', MM', ?_, ?_, ⟨(FXr.rf.up 4 (nI k)).tr f.r, g.r, Or.inl ⟨rfl, p', q', gd, r1⟩⟩, fun _ => ⟨k, z.1, z.2, rfl, (f.1 16 4 (by omega)).trans (uI_eq _ _ _ _)⟩⟩
      · unfold X6_takesNumber
        rw [if_pos a, k2, if_neg (nI_nlt z.1 (by omega)), if_pos (nI_le z.2 (by omega)), l1_s, if_neg Bool.false_ne_true, lt_e (uI MX 16 4 (nI k)), e1, bo_s]
      · unfold X12_numeral
        rw [h.good, if_pos rfl, if_pos b, l1_s, h.good, if_pos rfl, k3, if_neg (nI_nlt z.1 (by omega)), if_pos (nI_le z.2 (by omega)), l1_s, l1_s, if_neg Bool.false_ne_true, k3, lt_e (nI k), h.good, if_pos rfl, e2, bo_s, b1_s, gd.good, if_pos rfl]
    · obtain ⟨MX', MM', e1, e2, o⟩ := refuse_c h (f := 4) (by omega) (by omega) hs
      have hbd : BD MX' MM' := by
        rcases o.2.2 with ⟨y, _⟩ | ⟨_, y⟩
        · exact absurd y Bool.false_ne_true
        · exact y
      have ht : ∀ x y : Int32, x = nI k → (if x < nI lo then true else if x ≤ nI hi then false else true) = true := fun x y hx => by
        rw [hx]
        by_cases w : k < lo
        · rw [if_pos (nI_lt w (by omega))]
        · rw [if_neg (nI_nlt (by omega) (by omega)), if_neg (nI_ge (by omega) (by omega))]
      refine ⟨false, nI lo, MX', MM', ?_, ?_, o, fun y => absurd y Bool.false_ne_true⟩
      · unfold X6_takesNumber
        rw [if_pos a, ht _ 0 k2, l1_s, if_pos rfl, show (4 : Int32) = nI 4 from rfl, e1, lp_s]
      · unfold X12_numeral
        rw [h.good, if_pos rfl, if_pos b, l1_s, h.good, if_pos rfl, ht _ 0 k3, l1_s, l1_s, if_pos rfl, show (4 : Int32) = nI 4 from rfl, e2, lt_e MM', lt_e (MM'.1 0 9), hbd.bad, if_neg Bool.false_ne_true, b1_s, hbd.bad, if_neg Bool.false_ne_true]
  · obtain ⟨MX', MM', e1, e2, o⟩ := misplaced_c h
    have hbd : BD MX' MM' := by
      rcases o.2.2 with ⟨y, _⟩ | ⟨_, y⟩
      · exact absurd y Bool.false_ne_true
      · exact y
    refine ⟨false, nI lo, MX', MM', ?_, ?_, o, fun y => absurd y Bool.false_ne_true⟩
    · unfold X6_takesNumber
      rw [if_neg a, e1, lp_s]
    · unfold X12_numeral
      rw [h.good, if_pos rfl, if_neg b, e2, lt_e MM', l1_s, hbd.bad, if_neg Bool.false_ne_true, l1_s, l1_s, if_neg Bool.false_ne_true, lt_e (MM'.1 0 9), hbd.bad, if_neg Bool.false_ne_true, b1_s, hbd.bad, if_neg Bool.false_ne_true]
theorem bad_numeral {lo hi : Int32} (h : BD MX MM) : X12_numeral lo hi MM = some (lo, MM) := by
  unfold X12_numeral
  rw [h.bad, if_neg Bool.false_ne_true]
theorem bad_known {x : Int32} (h : BD MX MM) : X12_known x MM = some (0, MM) := by
  unfold X12_known
  rw [h.bad, if_neg Bool.false_ne_true]
theorem bad_must {x : Int32} (h : BD MX MM) : X12_must x MM = some MM := by
  unfold X12_must
  rw [h.bad, if_neg Bool.false_ne_true]
theorem bad_fresh {x : Int32} (h : BD MX MM) : X12_fresh x MM = some (0, MM) := by
  unfold X12_fresh
  rw [h.bad, if_neg Bool.false_ne_true]
/-- where a name stands, both have the same -/
theorem GD.name (h : GD MX MM n tx p q) (hn : MM.1 0 8 = 2) : MX.1 16 1 = 2 ∧ NM (MX.2 16 2) (MM.2 0 10) := by
  rcases h.1.2.2.2.2.2 with ⟨_, _, a, b⟩ | ⟨_, _, a, b⟩ | ⟨hW, a, a2, b, c⟩ | ⟨_, _, a, b, v⟩ | ⟨a0, _, s, a, b⟩
  · rw [b] at hn; exact absurd hn (by decide)
  · rw [b] at hn; exact absurd hn (by decide)
  · exact ⟨a, q - p, fun i => tx (p + i), hW.2.2.1, hW.2.2.2, a2, b⟩
  · rw [b] at hn; exact absurd hn (by decide)
  · rw [b] at hn; exact absurd hn (by decide)
end PIECE
