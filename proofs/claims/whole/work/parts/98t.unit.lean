/-! ===== phase 2: the formula: what a piece of it asks and gives ===== -/
theorem GD.mm {MX MM MM' : Mem} {n p q : Nat} {tx : Nat → Nat} (h : GD MX MM n tx p q) (v0 : ∀ i, i < 10 → MM'.1 0 i = MM.1 0 i) (v2 : ∀ i, MM'.1 2 i = MM.1 2 i) (vl : MM'.2 0 10 = MM.2 0 10) : GD MX MM' n tx p q := by
  obtain ⟨⟨g1, g2, g3, g4, g5, g6⟩, g7, g8, g9, g10⟩ := h
  refine ⟨⟨g1, (v0 6 (by omega)).trans g2, g3, (v0 7 (by omega)).trans g4, ?_, ?_⟩, g7, g8, (v0 4 (by omega)).trans g9, (v0 5 (by omega)).trans g10⟩
  · obtain ⟨t1, t2, t3, t4⟩ := g5
    exact ⟨t1, t2, (v0 3 (by omega)).trans t3, fun i hi => by rw [v2 i]; exact t4 i hi⟩
  · unfold TOK at g6 ⊢
    rw [v0 8 (by omega), v0 9 (by omega), vl]
    exact g6
theorem GD.pf {MX MM MM' : Mem} {n p q w : Nat} {tx : Nat → Nat} (h : GD MX MM n tx p q) (f : Pf w MM MM') : GD MX MM' n tx p q := h.mm (fun i hi => f.1 0 i (by omega) (by omega)) (fun i => f.1 2 i (by omega) (by omega)) (by rw [f.2])
def ENT (l c n : Nat) (tx : Nat → Nat) (w B L u d : Nat) (D : Nat → Nat) (p q : Nat) (MX MM : Mem) : Prop :=
  GD MX MM n tx p q ∧ ES w B 0 L u d D MX MM ∧ 1 ≤ B ∧ (∃ t, MM.1 30 (B - 1) = nI t ∧ t ≤ 8 ∧ (t < l ∨ 6 < t)) ∧ d ≤ 7 ∧ u ≤ 30 ∧ L ≤ 9 * u ∧ D L ≤ u ∧ B ≤ c + 6 * d
def NX (l : Nat) (MM : Mem) : Prop := ∀ v, X12_rankHere MM = some (nI v) → v ≤ 6 → l ≤ v → v = 4 ∧ X12_isCompared MM = some true
def FINT (l s n : Nat) (tx : Nat → Nat) (w B L u d D0 p : Nat) (MM : Mem) (MX' : Mem) (MM' : Mem) (p' q' k r u' : Nat) (D' : Nat → Nat) (j : Nat) : Prop :=
  j + p ≤ p' ∧ (∀ N, X12_e_L1 (N + j) 1 MM = X12_e_L1 N 0 MM') ∧ FMf w MM MM' ∧ GD MX' MM' n tx p' q' ∧ ES w B k r u' d D' MX' MM' ∧ (∀ i, i < k → ∃ t, l ≤ t ∧ t ≤ 6 ∧ MM'.1 30 (B + i) = nI t) ∧ NX l MM' ∧ (∀ i, i < B → MM'.1 30 i = MM.1 30 i ∧ MM'.1 31 i = MM.1 31 i) ∧ u < u' ∧ u' ≤ 30 ∧ r + k + s + 9 * u ≤ L + 9 * u' ∧ D' (r + k) = D0 + 1 ∧ B + k ≤ 48
def FINF (n w p : Nat) (MM MX' : Mem) : Prop := ∃ (MM' : Mem) (j : Nat), j + p ≤ n + 2 ∧ (∀ N, X12_e_L1 (N + j) 1 MM = some MM') ∧ FMf w MM MM' ∧ BD MX' MM'
def FIN (l s n : Nat) (tx : Nat → Nat) (w B L u d D0 p : Nat) (MX MM : Mem) (ok : Bool) (MX' : Mem) : Prop :=
  FXf MX MX' ∧ ((ok = true ∧ ∃ MM' p' q' k r u' D' j, FINT l s n tx w B L u d D0 p MM MX' MM' p' q' k r u' D' j) ∨ (ok = false ∧ FINF n w p MM MX'))
def NOK (B : Nat) (MM : Mem) : Prop := X12_isWord 7237492 MM = true → ∃ t, 4 ≤ t ∧ t ≤ 6 ∧ MM.1 30 (B - 1) = nI t
def SPN (l c lf s : Nat) (f : Mem → Option (Bool × Mem)) (d : Nat) : Prop := ∀ (n : Nat) (tx : Nat → Nat) (w B L u : Nat) (D : Nat → Nat) (p q : Nat) (MX MM : Mem), ENT l c n tx w B L u d D p q MX MM → (5 ≤ l → NOK B MM) → ∃ ok MX', f MX = some (ok, MX') ∧ FIN lf s n tx w B L u d (D L) p MX MM ok MX'
theorem write_c {M : Mem} {L : Nat} (x : Int32) (h : M.1 13 2 = nI L) (hL : L < 300) : X1_write 13 x M = uI (uI M 14 L x) 13 2 (nI (L + 1)) := by
  unfold X1_write
  rw [h, if_neg (nI_pos (by omega)), if_neg (show ¬ (300 : Int32) ≤ nI L from nI_ge (b := 300) hL (by omega)), nI_clamp (by omega), lt_e (uI M (13 + 1) L x), show (uI M (13 + 1) L x).1 13 2 = nI L from h, show nI L + 1 = nI (L + 1) from nI_add L 1, lt_e]
theorem FXf.w {M M1 : Mem} (h : FXf M M1) (L : Nat) (x y : Int32) : FXf M (uI (uI M1 14 L x) 13 2 y) := ⟨fun a i z1 z2 z3 => by rw [uI_ne (by omega), uI_ne (by omega)]; exact h.1 a i z1 z2 z3, h.2⟩
theorem bC {M : Mem} (h : X12_rankHere M = some (nI 4)) (hc : X12_isCompared M = some true) : X12_behindUnit M = some (true, X12_misplaced M) := by
  unfold X12_behindUnit
  rw [h, bo_s, if_pos (show nI 4 = 4 from rfl), hc, bo_s, if_pos rfl, b1_s, if_neg Bool.false_ne_true, lt_e]
theorem bV {M M17 : Mem} {v s : Nat} (h : X12_rankHere M = some (nI v)) (h1 : 1 ≤ v) (h6 : v ≤ 6) (hc : v = 4 → X12_isCompared M = some false) (hp : X12_behindUnit_L1 (nI v) zFU M = some M17) (hs : (v = 2 ∧ s = 38) ∨ (v = 1 ∧ s = 124) ∨ (4 ≤ v ∧ X12_sign (M17.1 0 6) M17 = some (nI s))) : X12_behindUnit M = bo_ (X12_pushE (nI v) (nI s) M17) fun M29 => bo_ (X12_goOn M29) fun M30 => some (true, M30) := by
  have e1 : b1_ (α := Bool) (if nI v = 4 then bo_ (X12_isCompared M) fun b3 => if b3 = true then some false else some true else some true) = b1_ (some true) (ρ := Bool × Mem) := by
    by_cases z : v = 4
    · rw [if_pos (show nI v = 4 by rw [z]; rfl), hc z, bo_s, if_neg Bool.false_ne_true]
    · rw [if_neg (show ¬ nI v = 4 from fun y => z ((nI_eq (b := 4) (by omega) (by omega)).mp y))]
  have e2 : (if nI v = 2 then some 38 else if nI v = 1 then some 124 else bo_ (X12_sign (M17.1 0 6) M17) fun v27 => some v27) = some (nI s) := by
    rcases hs with ⟨rfl, rfl⟩ | ⟨rfl, rfl⟩ | ⟨y, e⟩
    · rfl
    · rfl
    · rw [if_neg (show ¬ nI v = 2 from fun y => by have := (nI_eq (b := 2) (by omega) (by omega)).mp y; omega), if_neg (show ¬ nI v = 1 from fun y => by have := (nI_eq (b := 1) (by omega) (by omega)).mp y; omega), e, bo_s]
  unfold X12_behindUnit
  rw [h, bo_s, e1, b1_s, if_pos rfl, hp, b1_s, if_neg (show ¬ nI v ≤ 0 from nI_ge (a := 0) h1 (by omega)), e2, b1_s]
/-- an operator is taken -/
theorem op_c {MX MM : Mem} {n w B k r u d v s p q : Nat} {tx D : Nat → Nat} (gd : GD MX MM n tx p q) (es : ES w B k r u d D MX MM) (hv : RKA MX MM p q v) (hv1 : 1 ≤ v) (hc : v = 4 → X12_isCompared MM = some false) (hB1 : 1 ≤ B) (hB : B + k ≤ 48) (hr : r + k ≤ 560) (hrk : ∀ i, i < k → ∃ t, v ≤ t ∧ t ≤ 6 ∧ MM.1 30 (B + i) = nI t) (hbot : ∃ t, MM.1 30 (B - 1) = nI t ∧ t ≤ 8 ∧ (t < v ∨ 6 < t)) (hs : (v = 2 ∧ s = 38) ∨ (v = 1 ∧ s = 124) ∨ (4 ≤ v ∧ MX.1 16 1 = nI s ∧ s < 256)) :
    ∃ MX' MM' p' q', X6_step MX = some MX' ∧ FXr MX MX' ∧ (∀ N, X12_e_L1 (N + 1) 0 MM = X12_e_L1 N 1 MM') ∧ FMf w MM MM' ∧ GD MX' MM' n tx p' q' ∧ p < p' ∧ ES w (B + 1) 0 (r + k) u d D MX' MM' ∧ MM'.1 30 B = nI v ∧ MM'.1 31 B = nI s ∧ ∀ i, i < B → MM'.1 30 i = MM.1 30 i ∧ MM'.1 31 i = MM.1 31 i := by
  obtain ⟨M17, e1, es1, f1⟩ := pop_c es hB1 (by omega) hr hrk hbot hv.2.1
  have gd1 := gd.pf f1
  obtain ⟨M29, hM29⟩ : ∃ M29, M29 = uI (uI (uI M17 30 B (nI v)) 31 B (nI s)) 0 45 (nI (B + 1)) := ⟨_, rfl⟩
  have gd2 : GD MX M29 n tx p q := by rw [hM29]; exact gd1
  obtain ⟨MX', MM', p', q', s1, s2, fs, gs, gd3, r3, _⟩ := stepG_c gd2
  have f2 : ∀ a i, ¬ (a = 0 ∧ i = 45) → ¬ ((a = 30 ∨ a = 31) ∧ i = B) → M29.1 a i = M17.1 a i := fun a i z1 z2 => by rw [hM29, uI_ne (by omega), uI_ne (by omega), uI_ne (by omega)]
  have hb : X12_behindUnit MM = some (true, MM') := by
    rw [bV (s := s) hv.1 hv1 hv.2.1 hc e1 (by
      rcases hs with z | z | ⟨z1, z2, z3⟩
      · exact Or.inl z
      · exact Or.inr (Or.inl z)
      · refine Or.inr (Or.inr ⟨z1, ?_⟩)
        obtain ⟨s', y1, y2, y3⟩ := hv.2.2.2.2.2.2.2.2.2 z1
        have : s = s' := (nI_eq (by omega) (by
          simp only [List.mem_cons, List.not_mem_nil, or_false] at y3
          omega)).mp (z2.symm.trans y1)
        unfold X12_sign at y2 ⊢
        rw [f1.1 0 6 (by omega) (by omega), f1.1 0 3 (by omega) (by omega), f1.1 2 _ (by omega) (by omega), this]
        exact y2), pushE_c _ _ (by rw [es1.2.2.2.2.2.2.2.1, Nat.add_zero]) (by omega), bo_s, ← hM29, s2, bo_s]
  have hpq := (hv.2.2.2.2.2.2.2.2.1 (by omega)).1
  refine ⟨MX', MM', p', q', s1, fs.r, fun N => by rw [eB N gd.good es.2.2.2.2.2.2.2.1 (by omega) (by omega) hb]; rfl, (f1.f.tr ⟨fun a i z => f2 a i (by omega) (by omega), fun a i z => by rw [hM29]; rfl⟩).tr gs.r.f, gd3, by omega, ?_, ?_, ?_, fun i hi => ?_⟩
  · refine ES.fr ?_ fs.r gs.r
    obtain ⟨a1, a2, a3, a4, a5, a6, a7, a8, a9, a10, a11, a12⟩ := es1
    refine ⟨(f2 0 42 (by omega) (by omega)).trans a1, a2, a3, a4, (f2 7 w (by omega) (by omega)).trans a5, (f2 0 46 (by omega) (by omega)).trans a6, (f2 0 43 (by omega) (by omega)).trans a7, by rw [hM29, uI_eq, Nat.add_zero], (f2 0 44 (by omega) (by omega)).trans a9, a10, fun i hi => by rw [f2 28 _ (by omega) (by omega), f2 29 _ (by omega) (by omega)]; exact a11 i hi, fun i hi => by omega⟩
  · rw [gs.r.1 30 B (by omega), hM29, uI_ne (by omega), uI_ne (by omega), uI_eq]
  · rw [gs.r.1 31 B (by omega), hM29, uI_ne (by omega), uI_eq]
  · rw [gs.r.1 30 i (by omega), gs.r.1 31 i (by omega), f2 30 i (by omega) (by omega), f2 31 i (by omega) (by omega), f1.1 30 i (by omega) (by omega), f1.1 31 i (by omega) (by omega)]
    exact ⟨rfl, rfl⟩
/-- the class writes what the reference keeps on its pile -/
theorem ret_c {MX MM : Mem} {w B k r u d d0 : Nat} {D : Nat → Nat} {x : Int32} {e : Nat} (es : ES w (B + 1) k r u d0 D MX MM) (hL : r + k < 300) (hd : d0 = d + (if MM.1 30 B = 3 then 1 else 0)) (hp : PC x (MM.1 31 B) 0 (D (r + k)) e) : ES w B (k + 1) r u d (fun i => if i ≤ r + k then D i else e) (uI (uI MX 14 (r + k) x) 13 2 (nI (r + k + 1))) MM := by
  obtain ⟨a1, a2, a3, a4, a5, a6, a7, a8, a9, a10, a11, a12⟩ := es
  refine ⟨a1, a2, ?_, a4, a5, a6, a7, by rw [a8, show B + 1 + k = B + (k + 1) by omega], ?_, ?_, fun i hi => ?_, fun i hi => ?_⟩
  · rw [uI_eq, Nat.add_assoc]
  · rw [a9, hd, nt_bot, Nat.add_assoc]
  · show (if 0 ≤ r + k then D 0 else e) = 0
    rw [if_pos (by omega), a10]
  · show PC _ _ _ (if i ≤ r + k then D i else e) (if i + 1 ≤ r + k then D (i + 1) else e)
    rw [uI_ne (by omega), uI_ne (by omega), if_pos (by omega), if_pos (by omega)]
    exact a11 i hi
  · show PC _ _ _ (if r + i ≤ r + k then D (r + i) else e) (if r + i + 1 ≤ r + k then D (r + i + 1) else e)
    rw [uI_ne (by omega)]
    by_cases z : i = k
    · rw [z, uI_eq, if_pos (by omega), if_neg (by omega), show B + (k + 1) - 1 - k = B by omega]
      exact hp
    · rw [uI_ne (by omega), if_pos (by omega), if_pos (by omega), show B + (k + 1) - 1 - i = B + 1 + k - 1 - i by omega]
      exact a12 i (by omega)
