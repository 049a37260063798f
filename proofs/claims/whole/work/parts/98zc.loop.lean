/-! ===== phase 2: the lines one after the other ===== -/
theorem tok_some {MX MM : Mem} {n : Nat} {tx : Nat → Nat} {p q : Nat} (h : GD MX MM n tx p q) : (p = n ∧ MX.1 16 1 = 0 ∧ MM.1 0 8 = 0) ∨ (p < q ∧ ¬ MX.1 16 1 = 0 ∧ ¬ MM.1 0 8 = 0) := by
  have h5 := h.1.2.2.2.2.1
  rcases h.1.2.2.2.2.2 with ⟨z, _, a, b⟩ | ⟨z, _, a, b⟩ | ⟨hW, a, _, b, c⟩ | ⟨z, _, a, b, _⟩ | ⟨a0, z, s, a, b⟩
  · exact Or.inl ⟨z, a, b⟩
  · exact Or.inr ⟨z, by rw [a]; decide, by rw [b]; decide⟩
  · refine Or.inr ⟨hW.1, by rw [a]; decide, ?_⟩
    rcases c with ⟨_, c⟩ | ⟨_, c⟩ <;> rw [c] <;> decide
  · exact Or.inr ⟨z, by rw [a]; decide, by rw [b]; decide⟩
  · refine Or.inr ⟨by omega, ?_, by rw [b]; decide⟩
    rw [a]
    intro y
    have := (nI_eq (a := tx p) (b := 0) (by have := (h5.2.2.2 p a0).1; omega) (by omega)).mp y
    unfold SGN at s
    omega
theorem lines_c {X0 M0 : Mem} {n w : Nat} {tx : Nat → Nat} : ∀ m N N' c MX MM p q mn kd bn hr, n - p ≤ m → m + 2 < N → m + 2 < N' → c ≤ p → GD MX MM n tx p q → DR MX MM w mn kd bn hr → XF X0 MX → MF w M0 MM →
    ∃ ok MX' MM', X4_readMill_L1 N 1 (nI c) MX = some (b2i ok, MX') ∧ X12_mill_L2 N' MM = some MM' ∧ XF X0 MX' ∧ MF w M0 MM' ∧ ((ok = true ∧ ∃ p' q' mn kd bn hr, GD MX' MM' n tx p' q' ∧ DR MX' MM' w mn kd bn hr) ∨ (ok = false ∧ BD MX' MM')) := by
  intro m
  induction m with
  | zero =>
    intro N N' c MX MM p q mn kd bn hr hm hN hN' hc gd hD fX fM
    obtain ⟨N, rfl⟩ : ∃ k, N = k + 1 := ⟨N - 1, by omega⟩
    obtain ⟨N', rfl⟩ : ∃ k, N' = k + 1 := ⟨N' - 1, by omega⟩
    have hle := gd.1.2.2.2.2.2.le
    rcases tok_some gd with ⟨z, a, b⟩ | ⟨z, _⟩
    · refine ⟨true, MX, MM, ?_, ?_, fX, fM, Or.inl ⟨rfl, p, q, mn, kd, bn, hr, gd, hD⟩⟩
      · rw [X4_readMill_L1, if_neg (show ¬ (1 : Int32) = 0 by decide), if_pos a]
        split <;> rfl
      · rw [X12_mill_L2, if_pos gd.good, if_pos b]
    · omega
  | succ m ih =>
    intro N N' c MX MM p q mn kd bn hr hm hN hN' hc gd hD fX fM
    obtain ⟨N, rfl⟩ : ∃ k, N = k + 1 := ⟨N - 1, by omega⟩
    obtain ⟨N', rfl⟩ : ∃ k, N' = k + 1 := ⟨N' - 1, by omega⟩
    have hle := gd.1.2.2.2.2.2.le
    have hn := gd.1.2.2.2.2.1.1
    rcases tok_some gd with ⟨z, a, b⟩ | ⟨z, a, b⟩
    · refine ⟨true, MX, MM, ?_, ?_, fX, fM, Or.inl ⟨rfl, p, q, mn, kd, bn, hr, gd, hD⟩⟩
      · rw [X4_readMill_L1, if_neg (show ¬ (1 : Int32) = 0 by decide), if_pos a]
        split <;> rfl
      · rw [X12_mill_L2, if_pos gd.good, if_pos b]
    · obtain ⟨ok, MX1, MM1, e1, e2, g1, g2, o⟩ := line_c gd hD z
      have hx : X4_readMill_L1 (N + 1) 1 (nI c) MX = X4_readMill_L1 N (b2i ok) (nI (c + 1)) MX1 := by
        rw [X4_readMill_L1, if_neg (show ¬ (1600 : Int32) ≤ nI c from nI_ge (b := 1600) (by omega) (by omega)), if_neg (show ¬ (1 : Int32) = 0 by decide), if_neg a, e1, bp_s, show nI c + 1 = nI (c + 1) from nI_add c 1]
      have hm' : X12_mill_L2 (N' + 1) MM = X12_mill_L2 N' MM1 := by
        rw [X12_mill_L2, if_pos gd.good, if_neg b, e2, bo_s]
      rw [hx, hm']
      rcases o with ⟨rfl, p', q', mn', kd', bn', hr', gd1, hp, hD1⟩ | ⟨rfl, bd⟩
      · exact ih N N' (c + 1) MX1 MM1 p' q' mn' kd' bn' hr' (by omega) (by omega) (by omega) (by omega) gd1 hD1 (fX.tr g1) (fM.tr g2)
      · obtain ⟨N, rfl⟩ : ∃ k, N = k + 1 := ⟨N - 1, by omega⟩
        obtain ⟨N', rfl⟩ : ∃ k, N' = k + 1 := ⟨N' - 1, by omega⟩
        refine ⟨false, MX1, MM1, ?_, ?_, fX.tr g1, fM.tr g2, Or.inr ⟨rfl, bd⟩⟩
        · rw [X4_readMill_L1, if_pos (show b2i false = 0 from rfl)]
          split <;> rfl
        · rw [X12_mill_L2, bd.bad, if_neg Bool.false_ne_true]
