/-! ===== phase 2: one token on ===== -/
def FX (M M' : Mem) : Prop := (∀ a i, a ≠ 16 ∨ i = 4 ∨ i = 5 ∨ i = 6 → M'.1 a i = M.1 a i) ∧ ∀ a i, a ≠ 16 → M'.2 a i = M.2 a i
def FM (M M' : Mem) : Prop := (∀ a i, a ≠ 0 ∨ (i ≠ 6 ∧ i ≠ 7 ∧ i ≠ 8 ∧ i ≠ 9) → M'.1 a i = M.1 a i) ∧ ∀ a i, a ≠ 0 → M'.2 a i = M.2 a i
theorem FX.rf {M : Mem} : FX M M := ⟨fun _ _ _ => rfl, fun _ _ _ => rfl⟩
theorem FM.rf {M : Mem} : FM M M := ⟨fun _ _ _ => rfl, fun _ _ _ => rfl⟩
theorem FX.tr {M M1 M2 : Mem} (h : FX M M1) (k : FX M1 M2) : FX M M2 := ⟨fun a i z => (k.1 a i z).trans (h.1 a i z), fun a i z => (k.2 a i z).trans (h.2 a i z)⟩
theorem FM.tr {M M1 M2 : Mem} (h : FM M M1) (k : FM M1 M2) : FM M M2 := ⟨fun a i z => (k.1 a i z).trans (h.1 a i z), fun a i z => (k.2 a i z).trans (h.2 a i z)⟩
theorem FX.up {M M1 : Mem} (h : FX M M1) {j : Nat} (v : Int32) (hj : j ≠ 4 ∧ j ≠ 5 ∧ j ≠ 6) : FX M (uI M1 16 j v) := ⟨fun a i z => by rw [uI_ne (by omega)]; exact h.1 a i z, h.2⟩
theorem FM.up {M M1 : Mem} (h : FM M M1) {j : Nat} (v : Int32) (hj : j = 6 ∨ j = 7 ∨ j = 8 ∨ j = 9) : FM M (uI M1 0 j v) := ⟨fun a i z => by rw [uI_ne (by omega)]; exact h.1 a i z, h.2⟩
theorem uL_g (M : Mem) (k i a j : Nat) (x : Int64) : (uL M k i x).2 a j = if a = k ∧ j = i then x else M.2 a j := rfl
theorem FX.uL {M M1 : Mem} (h : FX M M1) {j : Nat} (v : Int64) : FX M (uL M1 16 j v) := ⟨h.1, fun a i z => by rw [uL_g, if_neg (by omega)]; exact h.2 a i z⟩
theorem FM.uL {M M1 : Mem} (h : FM M M1) {j : Nat} (v : Int64) : FM M (uL M1 0 j v) := ⟨h.1, fun a i z => by rw [uL_g, if_neg (by omega)]; exact h.2 a i z⟩
theorem TX.fr {MX MM MX' MM' : Mem} {n : Nat} {tx : Nat → Nat} (h : TX MX MM n tx) (f : FX MX MX') (g : FM MM MM') : TX MX' MM' n tx := by
  obtain ⟨h1, h2, h3, h4⟩ := h
  refine ⟨h1, (f.1 1 1 (by omega)).trans h2, (g.1 0 3 (by omega)).trans h3, fun i hi => ?_⟩
  rw [f.1 2 i (by omega), g.1 2 i (by omega)]
  exact h4 i hi
theorem run_ex (P : Nat → Prop) (n : Nat) : ∀ d p, p + d = n → ∃ q, p ≤ q ∧ q ≤ n ∧ (∀ i, p ≤ i → i < q → P i) ∧ (q = n ∨ (q < n ∧ ¬ P q))
  | 0, p, h => ⟨p, by omega, by omega, fun i h1 h2 => by omega, Or.inl (by omega)⟩
  | d + 1, p, h => by
    rcases Classical.em (P p) with z | z
    · obtain ⟨q, q1, q2, q3, q4⟩ := run_ex P n d (p + 1) (by omega)
      refine ⟨q, by omega, q2, fun i h1 h2 => ?_, q4⟩
      by_cases y : i = p
      · rw [y]; exact z
      · exact q3 i (by omega) h2
    · exact ⟨p, by omega, by omega, fun i h1 h2 => by omega, Or.inr ⟨by omega, z⟩⟩
section STEP
variable {MX MM : Mem} {n : Nat} {tx : Nat → Nat}
theorem blanks_c {q p : Nat} (h : TX MX MM n tx) (hqp : q ≤ p) (hp : p ≤ n) (hB : ∀ i, q ≤ i → i < p → tx i = 32 ∨ tx i = 10) (hE : p = n ∨ (p < n ∧ ¬ (tx p = 32 ∨ tx p = 10))) (hX : MX.1 16 8 = nI q) (hM : MM.1 0 6 = nI q) :
    ∃ MX' MM', X6_step_L1 zFU MX = some MX' ∧ X12_goOn_L1 zFU MM = some MM' ∧ FX MX MX' ∧ FM MM MM' ∧ MX'.1 16 8 = nI p ∧ MM'.1 0 6 = nI p := by
  have hn := h.1
  have key := two_zFU (σ := Mem) (σ' := Mem) (fun N s => X6_step_L1 N s) (fun N s => X12_goOn_L1 N s) (fun d s s' => ∃ i, q ≤ i ∧ i + d = p ∧ FX MX s ∧ FM MM s' ∧ s.1 16 8 = nI i ∧ s'.1 0 6 = nI i) (fun t t' => FX MX t ∧ FM MM t' ∧ t.1 16 8 = nI p ∧ t'.1 0 6 = nI p) ?_ (p - q) MX MM (by omega) ⟨q, by omega, by omega, FX.rf, FM.rf, hX, hM⟩
  · obtain ⟨t, t', e1, e2, r⟩ := key
    exact ⟨t, t', e1, e2, r⟩
  · rintro N N' d s s' ⟨i, hi, hd, f, g, a, b⟩
    have hT := h.fr f g
    have sx : X6_step_L1 (N + 1) s = if i < n ∧ (tx i = 32 ∨ tx i = 10) then X6_step_L1 N (uI s 16 8 (nI (i + 1))) else some s := by
      rw [X6_step_L1, a, hT.2.1]
      by_cases z : i < n
      · rw [if_neg (nI_ge z (by omega)), byteAt_c hT (by omega), if_pos z, (letter_fin ⟨tx i, (hT.2.2.2 i z).1⟩).2.2.2.2.1]
        by_cases y : tx i = 32 ∨ tx i = 10
        · rw [if_pos (decide_eq_true y), if_pos ⟨z, y⟩, show nI i + 1 = nI (i + 1) from nI_add i 1, lt_e]
        · rw [if_neg (fun w => y (of_decide_eq_true w)), if_neg (fun w => y w.2)]
      · rw [if_pos (nI_le (by omega) (by omega)), if_neg (fun w => z w.1)]
    have sm : X12_goOn_L1 (N' + 1) s' = if i < n ∧ (tx i = 32 ∨ tx i = 10) then X12_goOn_L1 N' (uI s' 0 6 (nI (i + 1))) else some s' := by
      rw [X12_goOn_L1, b, hT.2.2.1]
      by_cases z : i < n
      · have hb := (hT.2.2.2 i z).1
        rw [if_neg (nI_ge z (by omega)), sign_c hT (by omega), if_pos z, bo_s, bo_s]
        by_cases y : tx i = 32
        · rw [if_pos (show nI (tx i) = 32 by rw [y]; rfl), b1_s, if_pos rfl, if_pos ⟨z, Or.inl y⟩, show nI i + 1 = nI (i + 1) from nI_add i 1, lt_e]
        · rw [if_neg (show ¬ nI (tx i) = 32 from fun w => y ((nI_eq (b := 32) (by omega) (by omega)).mp w))]
          by_cases y2 : tx i = 10
          · rw [if_pos (show nI (tx i) = 10 by rw [y2]; rfl), b1_s, if_pos rfl, if_pos ⟨z, Or.inr y2⟩, show nI i + 1 = nI (i + 1) from nI_add i 1, lt_e]
          · rw [if_neg (show ¬ nI (tx i) = 10 from fun w => y2 ((nI_eq (b := 10) (by omega) (by omega)).mp w)), b1_s, if_neg Bool.false_ne_true, if_neg (fun w => w.2.elim y y2)]
      · rw [if_pos (nI_le (by omega) (by omega)), b1_s, if_neg Bool.false_ne_true, if_neg (fun w => z w.1)]
    by_cases z : i = p
    · left
      have : ¬ (i < n ∧ (tx i = 32 ∨ tx i = 10)) := by
        rintro ⟨w1, w2⟩
        rw [z] at w1 w2
        rcases hE with hE | hE
        · omega
        · exact hE.2 w2
      exact ⟨s, s', by show X6_step_L1 (N + 1) s = some s; rw [sx, if_neg this], by show X12_goOn_L1 (N' + 1) s' = some s'; rw [sm, if_neg this], f, g, z ▸ a, z ▸ b⟩
    · right
      have : i < n ∧ (tx i = 32 ∨ tx i = 10) := ⟨by omega, hB i hi (by omega)⟩
      exact ⟨d - 1, uI s 16 8 (nI (i + 1)), uI s' 0 6 (nI (i + 1)), by omega, ⟨i + 1, by omega, by omega, f.up _ (by omega), g.up _ (by omega), uI_eq _ _ _ _, uI_eq _ _ _ _⟩, by show X6_step_L1 (N + 1) s = _; rw [sx, if_pos this], by show X12_goOn_L1 (N' + 1) s' = _; rw [sm, if_pos this]⟩
/-- letters from p to q -/
theorem lettersX_c {p q : Nat} (h : TX MX MM n tx) (hpq : p ≤ q) (hq : q ≤ n) (hB : ∀ i, p ≤ i → i < q → 97 ≤ tx i ∧ tx i ≤ 122) (hE : q = n ∨ (q < n ∧ ¬ (97 ≤ tx q ∧ tx q ≤ 122))) (hX : MX.1 16 8 = nI p) (h2 : MX.2 16 2 = nL 0) :
    ∃ MX', X6_stepWord_L1 zFU MX = some MX' ∧ FX MX MX' ∧ MX'.1 16 8 = nI q ∧ MX'.1 16 7 = MX.1 16 7 ∧ MX'.2 16 2 = nL (bb 27 (fun i => tx (p + i) - 96) (q - p)) := by
  have hn := h.1
  have key := up_zFU (σ := Mem) (fun N s => X6_stepWord_L1 N s) (fun k s => FX MX s ∧ s.1 16 8 = nI (p + k) ∧ s.1 16 7 = MX.1 16 7 ∧ s.2 16 2 = nL (bb 27 (fun i => tx (p + i) - 96) k)) (fun t => FX MX t ∧ t.1 16 8 = nI q ∧ t.1 16 7 = MX.1 16 7 ∧ t.2 16 2 = nL (bb 27 (fun i => tx (p + i) - 96) (q - p))) (q - p) (by omega) (by
    rintro N s ⟨f, a, a2, b⟩
    rw [show p + (q - p) = q by omega] at a
    refine ⟨s, ?_, f, a, a2, b⟩
    have hT := h.fr f FM.rf
    show X6_stepWord_L1 (N + 1) s = some s
    rw [X6_stepWord_L1, a, hT.2.1]
    rcases hE with hE | ⟨hE1, hE2⟩
    · rw [if_pos (nI_le (by omega) (by omega))]
    · rw [if_neg (nI_ge hE1 (by omega)), byteAt_c hT (by omega), if_pos hE1, (letter_fin ⟨tx q, (hT.2.2.2 q hE1).1⟩).1, if_neg (fun w => hE2 (of_decide_eq_true w))]) (by
    rintro N k s hk ⟨f, a, a2, b⟩
    left
    have hT := h.fr f FM.rf
    have hc := hB (p + k) (by omega) (by omega)
    refine ⟨uI (uL s 16 2 (nL (bb 27 (fun i => tx (p + i) - 96) (k + 1)))) 16 8 (nI (p + (k + 1))), ⟨(f.uL _).up _ (by omega), uI_eq _ _ _ _, a2, ?_⟩, ?_⟩
    · show (uL s 16 2 (nL (bb 27 (fun i => tx (p + i) - 96) (k + 1)))).2 16 2 = _
      rw [uL_g, if_pos ⟨rfl, rfl⟩]
    · show X6_stepWord_L1 (N + 1) s = _
      rw [X6_stepWord_L1, a, hT.2.1, if_neg (nI_ge (show p + k < n by omega) (by omega)), byteAt_c hT (by omega), if_pos (show p + k < n by omega), (letter_fin ⟨tx (p + k), (hT.2.2.2 (p + k) (by omega)).1⟩).1, if_pos (decide_eq_true hc), b, nL_27 hc.1 (by omega), lt_e, show (uL s 16 2 (nL (bb 27 (fun i => tx (p + i) - 96) k * 27 + (tx (p + k) - 96)))).1 16 8 = nI (p + k) from a, show nI (p + k) + 1 = nI (p + (k + 1)) from nI_add (p + k) 1, lt_e]
      rfl) MX 0 (by omega) ⟨FX.rf, hX, rfl, h2⟩
  obtain ⟨t, e, r⟩ := key
  exact ⟨t, e, r⟩
theorem lettersM_c {p q : Nat} (h : TX MX MM n tx) (hpq : p ≤ q) (hq : q ≤ n) (hB : ∀ i, p ≤ i → i < q → 97 ≤ tx i ∧ tx i ≤ 122) (hE : q = n ∨ (q < n ∧ ¬ (97 ≤ tx q ∧ tx q ≤ 122))) (hM : MM.1 0 7 = nI p) :
    ∃ MM', X12_goOn_L3 zFU MM = some MM' ∧ FM MM MM' ∧ MM'.1 0 7 = nI q ∧ MM'.1 0 6 = MM.1 0 6 := by
  have hn := h.1
  have key := up_zFU (σ := Mem) (fun N s => X12_goOn_L3 N s) (fun k s => FM MM s ∧ s.1 0 7 = nI (p + k) ∧ s.1 0 6 = MM.1 0 6) (fun t => FM MM t ∧ t.1 0 7 = nI q ∧ t.1 0 6 = MM.1 0 6) (q - p) (by omega) (by
    rintro N s ⟨f, a, a2⟩
    rw [show p + (q - p) = q by omega] at a
    refine ⟨s, ?_, f, a, a2⟩
    have hT := h.fr FX.rf f
    show X12_goOn_L3 (N + 1) s = some s
    rw [X12_goOn_L3, a, sign_c hT (by omega), bo_s]
    rcases hE with hE | ⟨hE1, hE2⟩
    · rw [if_neg (show ¬ q < n by omega), letter_m1.2.1, if_neg Bool.false_ne_true]
    · rw [if_pos hE1, (letter_fin ⟨tx q, (hT.2.2.2 q hE1).1⟩).2.1, if_neg (fun w => hE2 (of_decide_eq_true w))]) (by
    rintro N k s hk ⟨f, a, a2⟩
    left
    have hT := h.fr FX.rf f
    have hc := hB (p + k) (by omega) (by omega)
    refine ⟨uI s 0 7 (nI (p + (k + 1))), ⟨f.up _ (by omega), uI_eq _ _ _ _, a2⟩, ?_⟩
    show X12_goOn_L3 (N + 1) s = _
    rw [X12_goOn_L3, a, sign_c hT (by omega), if_pos (show p + k < n by omega), bo_s, (letter_fin ⟨tx (p + k), (hT.2.2.2 (p + k) (by omega)).1⟩).2.1, if_pos (decide_eq_true hc), show nI (p + k) + 1 = nI (p + (k + 1)) from nI_add (p + k) 1, lt_e]) MM 0 (by omega) ⟨FM.rf, hM, rfl⟩
  obtain ⟨t, e, r⟩ := key
  exact ⟨t, e, r⟩
theorem packM_c {p q : Nat} (h : TX MX MM n tx) (hpq : p ≤ q) (hq : q ≤ n) (hB : ∀ i, p ≤ i → i < q → 97 ≤ tx i ∧ tx i ≤ 122) (h6 : MM.1 0 6 = nI p) (h7 : MM.1 0 7 = nI q) (h10 : MM.2 0 10 = nL 0) :
    ∃ MM', X12_goOn_L4 zFU (nI p) MM = some MM' ∧ FM MM MM' ∧ MM'.1 0 7 = nI q ∧ MM'.1 0 6 = nI p ∧ (q - p ≤ 8 → MM'.2 0 10 = nL (bb 256 (fun i => tx (p + i)) (q - p))) := by
  have hn := h.1
  have key := up_zFU (σ := Int32 × Mem) (fun N s => X12_goOn_L4 N s.1 s.2) (fun k s => ∃ M1, s = (nI (p + k), M1) ∧ FM MM M1 ∧ M1.1 0 7 = nI q ∧ M1.1 0 6 = nI p ∧ M1.2 0 10 = nL (bb 256 (fun i => tx (p + i)) k)) (fun t => FM MM t ∧ t.1 0 7 = nI q ∧ t.1 0 6 = nI p ∧ (q - p ≤ 8 → t.2 0 10 = nL (bb 256 (fun i => tx (p + i)) (q - p)))) (min (q - p) 8) (by omega) (by
    rintro N s ⟨M1, rfl, f, a, a2, b⟩
    refine ⟨M1, ?_, f, a, a2, fun hle => by rw [b, Nat.min_eq_left hle]⟩
    show X12_goOn_L4 (N + 1) (nI (p + min (q - p) 8)) M1 = some M1
    rw [X12_goOn_L4, a, a2, show nI p + 8 = nI (p + 8) from nI_add p 8]
    by_cases z : q ≤ p + min (q - p) 8
    · rw [if_pos (nI_le z (by omega))]
    · rw [if_neg (nI_ge (by omega) (by omega)), if_pos (nI_le (by omega) (by omega))]) (by
    rintro N k s hk ⟨M1, rfl, f, a, a2, b⟩
    left
    have hT := h.fr FX.rf f
    have hc := hB (p + k) (by omega) (by omega)
    have hz : 2 * bb 256 (fun i => tx (p + i)) k < 256 ^ k := bb_256 _ (fun i hi => by have := hB (p + i) (by omega) (by omega); omega)
    have hz2 : 256 ^ k ≤ 256 ^ 7 := Nat.pow_le_pow_right (by omega) (by omega)
    refine ⟨(nI (p + (k + 1)), uL M1 0 10 (nL (bb 256 (fun i => tx (p + i)) (k + 1)))), ⟨_, rfl, f.uL _, a, a2, ?_⟩, ?_⟩
    · rw [uL_g, if_pos ⟨rfl, rfl⟩]
    · show X12_goOn_L4 (N + 1) (nI (p + k)) M1 = X12_goOn_L4 N (nI (p + (k + 1))) (uL M1 0 10 (nL (bb 256 (fun i => tx (p + i)) (k + 1))))
      rw [X12_goOn_L4, a, a2, show nI p + 8 = nI (p + 8) from nI_add p 8, if_neg (nI_ge (by omega) (by omega)), if_neg (nI_ge (by omega) (by omega)), sign_c hT (by omega), if_pos (show p + k < n by omega), bo_s, b, nL_push (by omega) (by omega), lt_e, show nI (p + k) + 1 = nI (p + (k + 1)) from nI_add (p + k) 1]
      rfl) (nI p, MM) 0 (by omega) ⟨MM, rfl, FM.rf, h7, h6, h10⟩
  obtain ⟨t, e, r⟩ := key
  exact ⟨t, e, r⟩
end STEP
