/-! ===== phase 2: gain ===== -/
/-- the rates of round r, by their places among nine -/
def rnd (r : Nat) : Nat × Nat × Option Nat := [(1, 3, none), (2, 6, none), (5, 7, none), (1, 5, some 6), (2, 7, some 3)].getD r (0, 0, none)
def prd (g : Nat → Nat) (r : Nat) : Nat := g (rnd r).1 * g (rnd r).2.1 * (match (rnd r).2.2 with | none => 1 | some t => g t)
def kdr (r : Nat) : Nat := [1, 2, 12, 12, 21].getD r 0
/-- the best round so far -/
def nbr (G Q : Nat → Nat) (β : Option Nat) (r : Nat) : Option Nat := if prd G r = 0 then β else match β with
  | none => some r
  | some c => if prd Q c * prd G r < prd Q r * prd G c then some r else some c
def encr (β : Option Nat) : Int32 := match β with
  | none => -1
  | some c => nI c
theorem prd_b {g : Nat → Nat} (hg : ∀ r, r < 9 → g r ≤ 9) {r : Nat} (hr : r < 5) : prd g r ≤ 729 := by
  have m2 : ∀ a b : Nat, a ≤ 9 → b ≤ 9 → a * b ≤ 81 := fun a b h1 h2 => Nat.mul_le_mul h1 h2
  have m3 : ∀ a b c : Nat, a ≤ 9 → b ≤ 9 → c ≤ 9 → a * b * c ≤ 729 := fun a b c h1 h2 h3 => Nat.mul_le_mul (m2 a b h1 h2) h3
  rcases (by omega : r = 0 ∨ r = 1 ∨ r = 2 ∨ r = 3 ∨ r = 4) with rfl | rfl | rfl | rfl | rfl
  · exact m3 (g 1) (g 3) 1 (hg 1 (by omega)) (hg 3 (by omega)) (by omega)
  · exact m3 (g 2) (g 6) 1 (hg 2 (by omega)) (hg 6 (by omega)) (by omega)
  · exact m3 (g 5) (g 7) 1 (hg 5 (by omega)) (hg 7 (by omega)) (by omega)
  · exact m3 (g 1) (g 5) (g 6) (hg 1 (by omega)) (hg 5 (by omega)) (hg 6 (by omega))
  · exact m3 (g 2) (g 7) (g 3) (hg 2 (by omega)) (hg 7 (by omega)) (hg 3 (by omega))
section GN
variable {MX MM : Mem} {b : Nat} {G Q : Nat → Nat}
/-- G: what is given by each rate, 0 of one that isn't told; Q: what is got -/
def GQr (MX MM : Mem) (b : Nat) (G Q : Nat → Nat) : Prop := ∀ r, r < 9 → G r ≤ 9 ∧ MX.1 29 r = nI (G r) ∧ MM.1 18 (9 * b + r) = nI (G r) ∧ Q r ≤ 9 ∧ (G r ≠ 0 → MX.1 30 r = nI (Q r) ∧ MM.1 19 (9 * b + r) = nI (Q r) ∧ 1 ≤ Q r)
theorem around_c {a : Nat} (ha : a = 29 ∨ a = 30) {r : Nat} (hr : r < 5) : X3_aroundOf a (nI r) MX = MX.1 a (rnd r).1 * MX.1 a (rnd r).2.1 * (match (rnd r).2.2 with | none => 1 | some t => MX.1 a t) := by
  have hz : zlen zTX a = 9 := by rcases ha with rfl | rfl <;> first | exact zlX_29 | exact zlX_30
  have c : ∀ i : Nat, i < 9 → X11_cell a (nI i) MX = MX.1 a i := fun i hi => xc_in (by omega)
  unfold X3_aroundOf
  rw [lt_e, lt_e]
  rcases (by omega : r = 0 ∨ r = 1 ∨ r = 2 ∨ r = 3 ∨ r = 4) with rfl | rfl | rfl | rfl | rfl
  · rw [show X11_cellR (nI 0 * 3 + 2) = -1 by decide +kernel, if_pos rfl, show X11_cellR (nI 0 * 3) * 3 + X11_cellR (nI 0 * 3 + 1) = nI 1 by decide +kernel, show X11_cellR (nI 0 * 3 + 1) * 3 + X11_cellR (nI 0 * 3) = nI 3 by decide +kernel, c 1 (by omega), c 3 (by omega)]
    show MX.1 a 1 * MX.1 a 3 = MX.1 a 1 * MX.1 a 3 * 1
    rw [Int32.mul_one]
  · rw [show X11_cellR (nI 1 * 3 + 2) = -1 by decide +kernel, if_pos rfl, show X11_cellR (nI 1 * 3) * 3 + X11_cellR (nI 1 * 3 + 1) = nI 2 by decide +kernel, show X11_cellR (nI 1 * 3 + 1) * 3 + X11_cellR (nI 1 * 3) = nI 6 by decide +kernel, c 2 (by omega), c 6 (by omega)]
    show MX.1 a 2 * MX.1 a 6 = MX.1 a 2 * MX.1 a 6 * 1
    rw [Int32.mul_one]
  · rw [show X11_cellR (nI 2 * 3 + 2) = -1 by decide +kernel, if_pos rfl, show X11_cellR (nI 2 * 3) * 3 + X11_cellR (nI 2 * 3 + 1) = nI 5 by decide +kernel, show X11_cellR (nI 2 * 3 + 1) * 3 + X11_cellR (nI 2 * 3) = nI 7 by decide +kernel, c 5 (by omega), c 7 (by omega)]
    show MX.1 a 5 * MX.1 a 7 = MX.1 a 5 * MX.1 a 7 * 1
    rw [Int32.mul_one]
  · rw [if_neg (show ¬ X11_cellR (nI 3 * 3 + 2) = -1 by decide +kernel), show X11_cellR (nI 3 * 3) * 3 + X11_cellR (nI 3 * 3 + 1) = nI 1 by decide +kernel, show X11_cellR (nI 3 * 3 + 1) * 3 + X11_cellR (nI 3 * 3 + 2) = nI 5 by decide +kernel, show X11_cellR (nI 3 * 3 + 2) * 3 + X11_cellR (nI 3 * 3) = nI 6 by decide +kernel, c 1 (by omega), c 5 (by omega), c 6 (by omega)]
    rfl
  · rw [if_neg (show ¬ X11_cellR (nI 4 * 3 + 2) = -1 by decide +kernel), show X11_cellR (nI 4 * 3) * 3 + X11_cellR (nI 4 * 3 + 1) = nI 2 by decide +kernel, show X11_cellR (nI 4 * 3 + 1) * 3 + X11_cellR (nI 4 * 3 + 2) = nI 7 by decide +kernel, show X11_cellR (nI 4 * 3 + 2) * 3 + X11_cellR (nI 4 * 3) = nI 3 by decide +kernel, c 2 (by omega), c 7 (by omega), c 3 (by omega)]
    rfl
theorem given_c (h : GQr MX MM b G Q) {r : Nat} (hr : r < 5) : X3_roundGiven 23 (nI r) MX = nI (prd G r) := by
  unfold X3_roundGiven
  rw [show 23 + 6 = 29 from rfl, around_c (Or.inl rfl) hr]
  unfold prd
  rcases (by omega : r = 0 ∨ r = 1 ∨ r = 2 ∨ r = 3 ∨ r = 4) with rfl | rfl | rfl | rfl | rfl
  · show MX.1 29 1 * MX.1 29 3 * nI 1 = nI (G 1 * G 3 * 1)
    rw [(h 1 (by omega)).2.1, (h 3 (by omega)).2.1, nI_mul, nI_mul]
  · show MX.1 29 2 * MX.1 29 6 * nI 1 = nI (G 2 * G 6 * 1)
    rw [(h 2 (by omega)).2.1, (h 6 (by omega)).2.1, nI_mul, nI_mul]
  · show MX.1 29 5 * MX.1 29 7 * nI 1 = nI (G 5 * G 7 * 1)
    rw [(h 5 (by omega)).2.1, (h 7 (by omega)).2.1, nI_mul, nI_mul]
  · show MX.1 29 1 * MX.1 29 5 * MX.1 29 6 = nI (G 1 * G 5 * G 6)
    rw [(h 1 (by omega)).2.1, (h 5 (by omega)).2.1, (h 6 (by omega)).2.1, nI_mul, nI_mul]
  · show MX.1 29 2 * MX.1 29 7 * MX.1 29 3 = nI (G 2 * G 7 * G 3)
    rw [(h 2 (by omega)).2.1, (h 7 (by omega)).2.1, (h 3 (by omega)).2.1, nI_mul, nI_mul]
theorem nz3 {a b c : Nat} (h : a * b * c ≠ 0) : a ≠ 0 ∧ b ≠ 0 ∧ c ≠ 0 := by
  refine ⟨fun z => h ?_, fun z => h ?_, fun z => h ?_⟩
  · rw [z, Nat.zero_mul, Nat.zero_mul]
  · rw [z, Nat.mul_zero, Nat.zero_mul]
  · rw [z, Nat.mul_zero]
theorem got_c (h : GQr MX MM b G Q) {r : Nat} (hr : r < 5) (hn : prd G r ≠ 0) : X3_roundGot 23 (nI r) MX = nI (prd Q r) ∧ 1 ≤ prd Q r := by
  unfold X3_roundGot
  rw [show 23 + 7 = 30 from rfl, around_c (Or.inr rfl) hr]
  unfold prd at hn ⊢
  have pos : ∀ a b c : Nat, 1 ≤ a → 1 ≤ b → 1 ≤ c → 1 ≤ a * b * c := fun a b c h1 h2 h3 => Nat.mul_pos (Nat.mul_pos h1 h2) h3
  rcases (by omega : r = 0 ∨ r = 1 ∨ r = 2 ∨ r = 3 ∨ r = 4) with rfl | rfl | rfl | rfl | rfl
  · obtain ⟨z1, z2, _⟩ := nz3 hn
    obtain ⟨x1, _, p1⟩ := (h 1 (by omega)).2.2.2.2 z1
    obtain ⟨x2, _, p2⟩ := (h 3 (by omega)).2.2.2.2 z2
    refine ⟨?_, pos _ _ _ p1 p2 (Nat.le_refl 1)⟩
    show MX.1 30 1 * MX.1 30 3 * nI 1 = nI (Q 1 * Q 3 * 1)
    rw [x1, x2, nI_mul, nI_mul]
  · obtain ⟨z1, z2, _⟩ := nz3 hn
    obtain ⟨x1, _, p1⟩ := (h 2 (by omega)).2.2.2.2 z1
    obtain ⟨x2, _, p2⟩ := (h 6 (by omega)).2.2.2.2 z2
    refine ⟨?_, pos _ _ _ p1 p2 (Nat.le_refl 1)⟩
    show MX.1 30 2 * MX.1 30 6 * nI 1 = nI (Q 2 * Q 6 * 1)
    rw [x1, x2, nI_mul, nI_mul]
  · obtain ⟨z1, z2, _⟩ := nz3 hn
    obtain ⟨x1, _, p1⟩ := (h 5 (by omega)).2.2.2.2 z1
    obtain ⟨x2, _, p2⟩ := (h 7 (by omega)).2.2.2.2 z2
    refine ⟨?_, pos _ _ _ p1 p2 (Nat.le_refl 1)⟩
    show MX.1 30 5 * MX.1 30 7 * nI 1 = nI (Q 5 * Q 7 * 1)
    rw [x1, x2, nI_mul, nI_mul]
  · obtain ⟨z1, z2, z3⟩ := nz3 hn
    obtain ⟨x1, _, p1⟩ := (h 1 (by omega)).2.2.2.2 z1
    obtain ⟨x2, _, p2⟩ := (h 5 (by omega)).2.2.2.2 z2
    obtain ⟨x3, _, p3⟩ := (h 6 (by omega)).2.2.2.2 z3
    refine ⟨?_, pos _ _ _ p1 p2 p3⟩
    show MX.1 30 1 * MX.1 30 5 * MX.1 30 6 = nI (Q 1 * Q 5 * Q 6)
    rw [x1, x2, x3, nI_mul, nI_mul]
  · obtain ⟨z1, z2, z3⟩ := nz3 hn
    obtain ⟨x1, _, p1⟩ := (h 2 (by omega)).2.2.2.2 z1
    obtain ⟨x2, _, p2⟩ := (h 7 (by omega)).2.2.2.2 z2
    obtain ⟨x3, _, p3⟩ := (h 3 (by omega)).2.2.2.2 z3
    refine ⟨?_, pos _ _ _ p1 p2 p3⟩
    show MX.1 30 2 * MX.1 30 7 * MX.1 30 3 = nI (Q 2 * Q 7 * Q 3)
    rw [x1, x2, x3, nI_mul, nI_mul]
/-- a round that is best so far is one of the five, and told -/
def okr (G : Nat → Nat) (β : Option Nat) : Prop := ∀ c, β = some c → c < 5 ∧ prd G c ≠ 0
theorem okr_nbr {β : Option Nat} {r : Nat} (h : okr G β) (hr : r < 5) : okr G (nbr G Q β r) := by
  intro c hc
  unfold nbr at hc
  by_cases z : prd G r = 0
  · rw [if_pos z] at hc; exact h c hc
  · rw [if_neg z] at hc
    cases β with
    | none => cases hc; exact ⟨hr, z⟩
    | some c0 =>
      simp only at hc
      split at hc
      · cases hc; exact ⟨hr, z⟩
      · cases hc; exact h _ rfl
theorem bestx_c (h : GQr MX MM b G Q) {β : Option Nat} {r n : Nat} (hβ : okr G β) (hr : r < 5) : X3_bestRound_L1 23 MX (n + 1) (encr β) (nI r) = X3_bestRound_L1 23 MX n (encr (nbr G Q β r)) (nI (r + 1)) := by
  have hG : ∀ r, r < 9 → G r ≤ 9 := fun r hr => (h r hr).1
  have hQ : ∀ r, r < 9 → Q r ≤ 9 := fun r hr => (h r hr).2.2.2.1
  have b1 := prd_b hG hr
  have b2 := prd_b hQ hr
  rw [X3_bestRound_L1, if_neg (show ¬ (5 : Int32) ≤ nI r from nI_ge (b := 5) hr (by omega)), given_c h hr, show nI r + 1 = nI (r + 1) from nI_add r 1]
  unfold nbr
  by_cases z : prd G r = 0
  · rw [z, if_pos (show nI 0 = 0 from rfl), if_pos rfl, l1_s, l1_s, if_neg Bool.false_ne_true]
  · rw [if_neg (nI_ne0 (by omega) (by omega)), if_neg z]
    cases β with
    | none => rw [if_pos (show encr none = -1 from rfl), l1_s, l1_s, if_pos rfl]; rfl
    | some c =>
      obtain ⟨hc, hcn⟩ := hβ c rfl
      have b3 := prd_b hG hc
      have b4 := prd_b hQ hc
      have m1 : prd Q c * prd G r ≤ 729 * 729 := Nat.mul_le_mul b4 b1
      have m2 : prd Q r * prd G c ≤ 729 * 729 := Nat.mul_le_mul b2 b3
      have e : encr (some c) = nI c := rfl
      unfold X3_isGreater
      rw [e, if_neg (nI_nm1 (by omega)), (got_c h hr z).1, given_c h hc, (got_c h hc hcn).1, given_c h hr, nI_mul, nI_mul]
      show _ = X3_bestRound_L1 23 MX n (encr (if prd Q c * prd G r < prd Q r * prd G c then some r else some c)) (nI (r + 1))
      by_cases w : prd Q c * prd G r < prd Q r * prd G c
      · rw [if_pos w, if_neg (nI_ge w (by omega)), if_pos rfl, l1_s, l1_s, if_pos rfl]; rfl
      · rw [if_neg w, if_pos (nI_le (by omega) (by omega)), if_neg Bool.false_ne_true, l1_s, l1_s, if_neg Bool.false_ne_true]; rfl
theorem bestx (h : GQr MX MM b G Q) : ∃ β, X3_bestRound 23 MX = some (encr β) ∧ okr G β ∧ β = nbr G Q (nbr G Q (nbr G Q (nbr G Q (nbr G Q none 0) 1) 2) 3) 4 := by
  have o0 : okr G none := fun c hc => by cases hc
  have o1 := okr_nbr (Q := Q) o0 (show 0 < 5 by omega)
  have o2 := okr_nbr (Q := Q) o1 (show 1 < 5 by omega)
  have o3 := okr_nbr (Q := Q) o2 (show 2 < 5 by omega)
  have o4 := okr_nbr (Q := Q) o3 (show 3 < 5 by omega)
  have o5 := okr_nbr (Q := Q) o4 (show 4 < 5 by omega)
  refine ⟨_, ?_, o5, rfl⟩
  unfold X3_bestRound
  obtain ⟨f, hf⟩ := zFU_s 6 (by omega)
  rw [hf, show f + 6 = f + 5 + 1 from rfl, show (-1 : Int32) = encr none from rfl, show (0 : Int32) = nI 0 from rfl, bestx_c h o0 (by omega), show f + 5 = f + 4 + 1 from rfl, bestx_c h o1 (by omega), show f + 4 = f + 3 + 1 from rfl, bestx_c h o2 (by omega), show f + 3 = f + 2 + 1 from rfl, bestx_c h o3 (by omega), show f + 2 = f + 1 + 1 from rfl, bestx_c h o4 (by omega), X3_bestRound_L1, if_pos (by decide), b1_s]
noncomputable def mTail (x1 x2 x3 y21 y26 : Int32) (M : Mem) : Option Mem :=
  l1_ (α := Bool) (
    if (M.1 0 68) ≤ 0 then
      true
    else
    if ((M.1 0 67) * y26) < (y21 * (M.1 0 68)) then
      true
    else
    false) fun t29 =>
  if t29 = true then
    lt_ (uI M 0 67 y21) fun M31 =>
    lt_ (uI M31 0 68 y26) fun M32 =>
    l1_ (α := Int32) (
      if 0 ≤ x3 then
        ((100 * x1) + (10 * x2)) + x3
      else
      (10 * x1) + x2) fun y34 =>
    lt_ (uI M32 0 69 y34) fun M35 =>
    some M35
  else
  some M
/-- the reference's best round so far -/
def Mst (M : Mem) (G Q : Nat → Nat) (β : Option Nat) : Prop := match β with
  | none => M.1 0 68 = nI 0
  | some c => M.1 0 67 = nI (prd Q c) ∧ M.1 0 68 = nI (prd G c) ∧ M.1 0 69 = nI (kdr c)
def Sg (a i : Nat) : Prop := a = 0 ∧ (i = 67 ∨ i = 68 ∨ i = 69)
theorem tail_c {M : Mem} {x1 x2 x3 : Int32} {β : Option Nat} {r : Nat} (hG : ∀ r, r < 9 → G r ≤ 9) (hQ : ∀ r, r < 9 → Q r ≤ 9) (hβ : okr G β) (hr : r < 5) (hn : prd G r ≠ 0) (hk : (if 0 ≤ x3 then ((100 * x1) + (10 * x2)) + x3 else (10 * x1) + x2) = nI (kdr r)) (hM : Mst M G Q β) : ∃ M', mTail x1 x2 x3 (nI (prd Q r)) (nI (prd G r)) M = some M' ∧ Fr Sg M M' ∧ Mst M' G Q (nbr G Q β r) := by
  have b1 := prd_b hG hr
  have b2 := prd_b hQ hr
  have fr : Fr Sg M (uI (uI (uI M 0 67 (nI (prd Q r))) 0 68 (nI (prd G r))) 0 69 (nI (kdr r))) := ((Fr.rf.up _ ⟨rfl, by omega⟩).up _ ⟨rfl, by omega⟩).up _ ⟨rfl, by omega⟩
  unfold mTail nbr
  rw [if_neg hn, hk]
  cases β with
  | none =>
    have hM : M.1 0 68 = nI 0 := hM
    rw [hM, if_pos (show nI 0 ≤ 0 by decide), l1_s, if_pos rfl, lt_e, lt_e, l1_s, lt_e]
    exact ⟨_, rfl, fr, rfl, rfl, rfl⟩
  | some c =>
    obtain ⟨h67, h68, h69⟩ := hM
    obtain ⟨hc, hcn⟩ := hβ c rfl
    have b3 := prd_b hG hc
    have b4 := prd_b hQ hc
    have m1 : prd Q c * prd G r ≤ 729 * 729 := Nat.mul_le_mul b4 b1
    have m2 : prd Q r * prd G c ≤ 729 * 729 := Nat.mul_le_mul b2 b3
    rw [h67, h68, if_neg (nI_nle (by omega) (by omega)), nI_mul, nI_mul]
    show ∃ M', _ ∧ _ ∧ Mst M' G Q (if prd Q c * prd G r < prd Q r * prd G c then some r else some c)
    by_cases w : prd Q c * prd G r < prd Q r * prd G c
    · rw [if_pos w, if_pos (nI_lt w (by omega)), l1_s, if_pos rfl, lt_e, lt_e, l1_s, lt_e]
      exact ⟨_, rfl, fr, rfl, rfl, rfl⟩
    · rw [if_neg w, if_neg (nI_nlt (by omega) (by omega)), l1_s, if_neg Bool.false_ne_true]
      exact ⟨M, rfl, Fr.rf, h67, h68, h69⟩
theorem try2 {M : Mem} {x1 x2 : Int32} {β : Option Nat} {r i j : Nat} (hb : M.1 0 41 = nI b) (b1 : b ≤ 1) (h : GQr MX M b G Q) (hβ : okr G β) (hr : r < 5) (hi : i < 9) (hj : j < 9) (er : rnd r = (i, j, none)) (y1 : (9 * nI b + 3 * x1) + x2 = nI (9 * b + i)) (y4 : (9 * nI b + 3 * x2) + x1 = nI (9 * b + j)) (hk : (10 * x1) + x2 = nI (kdr r)) (hM : Mst M G Q β) : ∃ M', X12_tryRound x1 x2 (-1) M = some M' ∧ Fr Sg M M' ∧ Mst M' G Q (nbr G Q β r) := by
  have hG : ∀ r, r < 9 → G r ≤ 9 := fun r hr => (h r hr).1
  have hQ : ∀ r, r < 9 → Q r ≤ 9 := fun r hr => (h r hr).2.2.2.1
  have eG : prd G r = G i * G j * 1 := by unfold prd; rw [er]
  have eQ : prd Q r = Q i * Q j * 1 := by unfold prd; rw [er]
  obtain ⟨i1, _, i2, _, i3⟩ := h i hi
  obtain ⟨j1, _, j2, _, j3⟩ := h j hj
  have n0 : ¬ (0 : Int32) ≤ -1 := by decide
  unfold X12_tryRound
  rw [hb, if_neg n0, if_neg n0, y1, lt_e, l1_s, y4, lt_e, l1_s, gd_in (by omega) (by omega), nI_clamp (by omega), i2]
  by_cases zi : G i = 0
  · rw [zi, if_pos (show nI 0 = 0 from rfl), b1_s, if_pos rfl]
    refine ⟨M, rfl, Fr.rf, ?_⟩
    unfold nbr
    rw [eG, zi, Nat.zero_mul, Nat.zero_mul, if_pos rfl]
    exact hM
  · rw [if_neg (nI_ne0 (by omega) (by omega)), gd_in (by omega) (by omega), nI_clamp (by omega), j2]
    by_cases zj : G j = 0
    · rw [zj, if_pos (show nI 0 = 0 from rfl), b1_s, if_pos rfl]
      refine ⟨M, rfl, Fr.rf, ?_⟩
      unfold nbr
      rw [eG, zj, Nat.mul_zero, Nat.zero_mul, if_pos rfl]
      exact hM
    · obtain ⟨_, i4, i5⟩ := i3 zi
      obtain ⟨_, j4, j5⟩ := j3 zj
      have hn : prd G r ≠ 0 := by
        rw [eG]
        have := Nat.mul_pos (Nat.mul_pos (Nat.pos_of_ne_zero zi) (Nat.pos_of_ne_zero zj)) (show 0 < 1 by omega)
        omega
      rw [if_neg (nI_ne0 (by omega) (by omega)), if_pos (show (-1 : Int32) < 0 by decide), b1_s, if_neg Bool.false_ne_true, gd_in (by omega) (by omega), gd_in (by omega) (by omega), if_neg n0, b1_s, i4, j4, show nI (Q i) * nI (Q j) * 1 = nI (Q i * Q j * 1) by rw [Int32.mul_one, nI_mul, Nat.mul_one], lt_e, gd_in (by omega) (by omega), if_neg n0, b1_s, show nI (G i) * nI (G j) * 1 = nI (G i * G j * 1) by rw [Int32.mul_one, nI_mul, Nat.mul_one], lt_e, ← eG, ← eQ]
      exact tail_c (x3 := -1) hG hQ hβ hr hn (by rw [if_neg n0]; exact hk) hM
theorem try3 {M : Mem} {x1 x2 x3 : Int32} {β : Option Nat} {r i j k : Nat} (hb : M.1 0 41 = nI b) (b1 : b ≤ 1) (h : GQr MX M b G Q) (hβ : okr G β) (hr : r < 5) (hi : i < 9) (hj : j < 9) (hk9 : k < 9) (er : rnd r = (i, j, some k)) (n0 : (0 : Int32) ≤ x3) (y1 : (9 * nI b + 3 * x1) + x2 = nI (9 * b + i)) (y4 : (9 * nI b + 3 * x2) + x3 = nI (9 * b + j)) (y6 : (9 * nI b + 3 * x3) + x1 = nI (9 * b + k)) (hk : ((100 * x1) + (10 * x2)) + x3 = nI (kdr r)) (hM : Mst M G Q β) : ∃ M', X12_tryRound x1 x2 x3 M = some M' ∧ Fr Sg M M' ∧ Mst M' G Q (nbr G Q β r) := by
  have hG : ∀ r, r < 9 → G r ≤ 9 := fun r hr => (h r hr).1
  have hQ : ∀ r, r < 9 → Q r ≤ 9 := fun r hr => (h r hr).2.2.2.1
  have eG : prd G r = G i * G j * G k := by unfold prd; rw [er]
  have eQ : prd Q r = Q i * Q j * Q k := by unfold prd; rw [er]
  obtain ⟨i1, _, i2, _, i3⟩ := h i hi
  obtain ⟨j1, _, j2, _, j3⟩ := h j hj
  obtain ⟨k1, _, k2, _, k3⟩ := h k hk9
  unfold X12_tryRound
  rw [hb, if_pos n0, if_pos n0, y1, lt_e, l1_s, y4, lt_e, y6, l1_s, gd_in (by omega) (by omega), nI_clamp (by omega), i2]
  by_cases zi : G i = 0
  · rw [zi, if_pos (show nI 0 = 0 from rfl), b1_s, if_pos rfl]
    refine ⟨M, rfl, Fr.rf, ?_⟩
    unfold nbr
    rw [eG, zi, Nat.zero_mul, Nat.zero_mul, if_pos rfl]
    exact hM
  · rw [if_neg (nI_ne0 (by omega) (by omega)), gd_in (by omega) (by omega), nI_clamp (by omega), j2]
    by_cases zj : G j = 0
    · rw [zj, if_pos (show nI 0 = 0 from rfl), b1_s, if_pos rfl]
      refine ⟨M, rfl, Fr.rf, ?_⟩
      unfold nbr
      rw [eG, zj, Nat.mul_zero, Nat.zero_mul, if_pos rfl]
      exact hM
    · rw [if_neg (nI_ne0 (by omega) (by omega)), if_neg (show ¬ nI (9 * b + k) < 0 from nI_pos (by omega)), gd_in (by omega) (by omega), nI_clamp (by omega), k2]
      by_cases zk : G k = 0
      · rw [zk, if_pos (show nI 0 = 0 from rfl), b1_s, if_pos rfl]
        refine ⟨M, rfl, Fr.rf, ?_⟩
        unfold nbr
        rw [eG, zk, Nat.mul_zero, if_pos rfl]
        exact hM
      · obtain ⟨_, i4, i5⟩ := i3 zi
        obtain ⟨_, j4, j5⟩ := j3 zj
        obtain ⟨_, k4, k5⟩ := k3 zk
        have n6 : (0 : Int32) ≤ nI (9 * b + k) := nI_pos' (by omega)
        have hn : prd G r ≠ 0 := by
          rw [eG]
          have := Nat.mul_pos (Nat.mul_pos (Nat.pos_of_ne_zero zi) (Nat.pos_of_ne_zero zj)) (Nat.pos_of_ne_zero zk)
          omega
        rw [if_neg (nI_ne0 (by omega) (by omega)), b1_s, if_neg Bool.false_ne_true, gd_in (by omega) (by omega), gd_in (by omega) (by omega), if_pos n6, gd_in (by omega) (by omega), b1_s, i4, j4, k4, nI_mul, nI_mul, lt_e, gd_in (by omega) (by omega), if_pos n6, gd_in (by omega) (by omega), b1_s, nI_mul, nI_mul, lt_e, ← eG, ← eQ]
        exact tail_c (x3 := x3) hG hQ hβ hr hn (by rw [if_pos n0]; exact hk) hM
end GN
theorem p2_gain (a1 : Int32) : zStep RR (fun M => (dO (dI M)) (X11_gain a1 M)) (fun M => (dO dIM) (X12_gain a1 M)) := zs_OM fun MX MM hR => by
  obtain ⟨b, mn, kd, bn, hr, h⟩ := hR
  obtain ⟨c1, ha1, ha2, a3, a4, a5, c2, _⟩ := h.k
  -- the rates as numbers
  have hr9 := h.1.2.2.2.2.2.2.2.2.2.1
  obtain ⟨G, hG⟩ : ∃ G : Nat → Nat, ∀ r, r < 9 → G r ≤ 9 ∧ MX.1 29 r = nI (G r) ∧ MM.1 18 (9 * b + r) = nI (G r) ∧ (G r ≠ 0 → ∃ q, 1 ≤ q ∧ q ≤ 9 ∧ MX.1 30 r = nI q ∧ MM.1 19 (9 * b + r) = nI q) := by
    refine ⟨fun r => if hr : r < 9 then (hr9 r hr).choose else 0, fun r hr => ?_⟩
    have e : (fun r => if hr : r < 9 then (hr9 r hr).choose else 0) r = (hr9 r hr).choose := dif_pos hr
    rw [e]
    exact (hr9 r hr).choose_spec
  obtain ⟨Q, hQ⟩ : ∃ Q : Nat → Nat, ∀ r, r < 9 → Q r ≤ 9 ∧ (G r ≠ 0 → MX.1 30 r = nI (Q r) ∧ MM.1 19 (9 * b + r) = nI (Q r) ∧ 1 ≤ Q r) := by
    refine ⟨fun r => if hr : r < 9 ∧ G r ≠ 0 then ((hG r hr.1).2.2.2 hr.2).choose else 0, fun r hr => ?_⟩
    by_cases z : G r ≠ 0
    · have e : (fun r => if hr : r < 9 ∧ G r ≠ 0 then ((hG r hr.1).2.2.2 hr.2).choose else 0) r = ((hG r hr).2.2.2 z).choose := dif_pos ⟨hr, z⟩
      rw [e]
      obtain ⟨y1, y2, y3, y4⟩ := ((hG r hr).2.2.2 z).choose_spec
      exact ⟨y2, fun _ => ⟨y3, y4, y1⟩⟩
    · have e : (fun r => if hr : r < 9 ∧ G r ≠ 0 then ((hG r hr.1).2.2.2 hr.2).choose else 0) r = 0 := dif_neg (fun y => z y.2)
      rw [e]
      exact ⟨by omega, fun y => absurd y z⟩
  have hGQ : ∀ M' : Mem, Fr Sg MM M' → GQr MX M' b G Q := fun M' f r hr => ⟨(hG r hr).1, (hG r hr).2.1, by rw [f.2 18 _ (by unfold Sg; omega)]; exact (hG r hr).2.2.1, (hQ r hr).1, fun z => ⟨((hQ r hr).2 z).1, by rw [f.2 19 _ (by unfold Sg; omega)]; exact ((hQ r hr).2 z).2.1, ((hQ r hr).2 z).2.2⟩⟩
  obtain ⟨β, x1, x2, x3⟩ := bestx (hGQ MM Fr.rf)
  have hb : ∀ M' : Mem, Fr Sg MM M' → M'.1 0 41 = nI b := fun M' f => (f.2 0 41 (by unfold Sg; omega)).trans c2
  -- the reference's five rounds
  have f0 : Fr Sg MM (uI MM 0 68 0) := Fr.rf.up _ ⟨rfl, by omega⟩
  have o0 : okr G none := fun c hc => by cases hc
  have o1 := okr_nbr (Q := Q) o0 (show 0 < 5 by omega)
  have o2 := okr_nbr (Q := Q) o1 (show 1 < 5 by omega)
  have o3 := okr_nbr (Q := Q) o2 (show 2 < 5 by omega)
  have o4 := okr_nbr (Q := Q) o3 (show 3 < 5 by omega)
  obtain ⟨M3, t1, g1, s1⟩ := try2 (x1 := 0) (x2 := 1) (r := 0) (i := 1) (j := 3) (hb _ f0) c1 (hGQ _ f0) o0 (by omega) (by omega) (by omega) rfl (by simp only [nlit, nI_mul, nI_add]) (by simp only [nlit, nI_mul, nI_add]) (by decide) (show Mst (uI MM 0 68 0) G Q none from rfl)
  have f1 := f0.tr g1
  obtain ⟨M4, t2, g2, s2⟩ := try2 (x1 := 0) (x2 := 2) (r := 1) (i := 2) (j := 6) (hb _ f1) c1 (hGQ _ f1) o1 (by omega) (by omega) (by omega) rfl (by simp only [nlit, nI_mul, nI_add]) (by simp only [nlit, nI_mul, nI_add]) (by decide) s1
  have f2 := f1.tr g2
  obtain ⟨M5, t3, g3, s3⟩ := try2 (x1 := 1) (x2 := 2) (r := 2) (i := 5) (j := 7) (hb _ f2) c1 (hGQ _ f2) o2 (by omega) (by omega) (by omega) rfl (by simp only [nlit, nI_mul, nI_add]) (by simp only [nlit, nI_mul, nI_add]) (by decide) s2
  have f3 := f2.tr g3
  obtain ⟨M6, t4, g4, s4⟩ := try3 (x1 := 0) (x2 := 1) (x3 := 2) (r := 3) (i := 1) (j := 5) (k := 6) (hb _ f3) c1 (hGQ _ f3) o3 (by omega) (by omega) (by omega) (by omega) rfl (by decide) (by simp only [nlit, nI_mul, nI_add]) (by simp only [nlit, nI_mul, nI_add]) (by simp only [nlit, nI_mul, nI_add]) (by decide) s3
  have f4 := f3.tr g4
  obtain ⟨M7, t5, g5, s5⟩ := try3 (x1 := 0) (x2 := 2) (x3 := 1) (r := 4) (i := 2) (j := 7) (k := 3) (hb _ f4) c1 (hGQ _ f4) o4 (by omega) (by omega) (by omega) (by omega) rfl (by decide) (by simp only [nlit, nI_mul, nI_add]) (by simp only [nlit, nI_mul, nI_add]) (by simp only [nlit, nI_mul, nI_add]) (by decide) s4
  have f5 := f4.tr g5
  rw [← x3] at s5
  have hend : RP MX.1 M7.1 b mn kd bn hr := h.fr Fr.rf (f5.wk (fun a i z => by unfold Sg at z; unfold SM; omega))
  unfold X11_gain X12_gain
  rw [x1, bo_s]
  by_cases ci : X12_isIn a1 0 2 = true
  · rw [if_pos ci, lt_e (uI MM 0 68 0), t1, bo_s, t2, bo_s, t3, bo_s, t4, bo_s, t5, bo_s]
    cases β with
    | none =>
      have s5 : M7.1 0 68 = nI 0 := s5
      rw [if_pos (show encr none = -1 from rfl), s5, if_pos (show nI 0 = 0 from rfl)]
      exact ⟨_, _, rfl, rfl, b, mn, kd, bn, hr, hend⟩
    | some c =>
      obtain ⟨h67, h68, h69⟩ := s5
      obtain ⟨hc, hcn⟩ := x2 c rfl
      have gG : ∀ r, r < 9 → G r ≤ 9 := fun r hr => (hG r hr).1
      have gQ : ∀ r, r < 9 → Q r ≤ 9 := fun r hr => (hQ r hr).1
      have bG := prd_b gG hc
      have bQ := prd_b gQ hc
      obtain ⟨y1, y2⟩ := got_c (hGQ MM Fr.rf) hc hcn
      obtain ⟨d1, d2⟩ := common_c (a := prd Q c) (c := prd G c) (by omega) (by omega) (by omega)
      obtain ⟨d3, d4⟩ := gcd_b (a := prd Q c) (c := prd G c) (by omega)
      have e : encr (some c) = nI c := rfl
      have dz : ¬ nI (Nat.gcd (prd Q c) (prd G c)) = 0 := nI_ne0 (by omega) (by omega)
      rw [e, if_neg (nI_nm1 (by omega)), y1, given_c (hGQ MM Fr.rf) hc, lt_e, lt_e, d1, bo_s, h67, h68, h69, if_neg (nI_ne0 (by omega) (by omega)), d2, bo_s]
      by_cases w0 : a1 = 0
      · rw [if_pos w0, if_pos w0, gd_p dz, gd_p dz]
        exact ⟨_, _, rfl, rfl, b, mn, kd, bn, hr, hend⟩
      · rw [if_neg w0, if_neg w0]
        by_cases w1 : a1 = 1
        · rw [if_pos w1, if_pos w1, gd_p dz, gd_p dz]
          exact ⟨_, _, rfl, rfl, b, mn, kd, bn, hr, hend⟩
        · rw [if_neg w1, if_neg w1]
          have w2 : a1 = 2 := by
            by_cases q1 : a1 < 0
            · rw [isIn_neg q1] at ci; cases ci
            · obtain ⟨j, hj, rfl⟩ := nI_of q1
              rw [show X12_isIn (nI j) 0 2 = decide (j ≤ 2) from isIn_le (n := 2) hj (by omega)] at ci
              have : j ≤ 2 := of_decide_eq_true ci
              rcases (by omega : j = 0 ∨ j = 1 ∨ j = 2) with rfl | rfl | rfl
              · exact absurd rfl w0
              · exact absurd rfl w1
              · rfl
          have ek : X3_roundKinds 23 (nI c) = nI (kdr c) := by
            rcases (by omega : c = 0 ∨ c = 1 ∨ c = 2 ∨ c = 3 ∨ c = 4) with rfl | rfl | rfl | rfl | rfl <;> decide +kernel
          rw [if_pos w2, ek]
          exact ⟨_, _, rfl, rfl, b, mn, kd, bn, hr, hend⟩
  · rw [if_neg ci]
    have w : a1 ≠ 0 ∧ a1 ≠ 1 ∧ a1 ≠ 2 := by
      refine ⟨fun z => ci ?_, fun z => ci ?_, fun z => ci ?_⟩ <;> (rw [z]; decide +kernel)
    cases β with
    | none =>
      rw [if_pos (show encr none = -1 from rfl)]
      exact ⟨_, _, rfl, rfl, b, mn, kd, bn, hr, h⟩
    | some c =>
      obtain ⟨hc, hcn⟩ := x2 c rfl
      have gG : ∀ r, r < 9 → G r ≤ 9 := fun r hr => (hG r hr).1
      have gQ : ∀ r, r < 9 → Q r ≤ 9 := fun r hr => (hQ r hr).1
      have bG := prd_b gG hc
      have bQ := prd_b gQ hc
      obtain ⟨y1, y2⟩ := got_c (hGQ MM Fr.rf) hc hcn
      obtain ⟨d1, d2⟩ := common_c (a := prd Q c) (c := prd G c) (by omega) (by omega) (by omega)
      have e : encr (some c) = nI c := rfl
      rw [e, if_neg (nI_nm1 (by omega)), y1, given_c (hGQ MM Fr.rf) hc, lt_e, lt_e, d1, bo_s, if_neg w.1, if_neg w.2.1, if_neg w.2.2]
      exact ⟨_, _, rfl, rfl, b, mn, kd, bn, hr, h⟩
