/-! ===== phase 2: the relation between the two memories ===== -/
def zLet (j : Nat) : Nat := [102, 115, 116, 99, 119, 112].getD j 0
/-- one piece of the formula: the class's code, the reference's two, how high the pile is ahead and behind -/
def PC (x c n : Int32) (d d' : Nat) : Prop :=
  (x = nI 20033 ∧ c = nI 126 ∧ 1 ≤ d ∧ d' = d) ∨
  (∃ s : Nat, s ∈ [43, 45, 42, 47, 37, 60, 62, 61, 38, 124] ∧ x = nI (20000 + s) ∧ c = nI s ∧ 2 ≤ d ∧ d' + 1 = d) ∨
  (∃ j : Nat, j < 6 ∧ x = nI (10000 + j) ∧ c = nI (zLet j) ∧ d' = d + 1 ∧ d' ≤ 32) ∨
  (∃ v : Nat, v < 10000 ∧ x = nI v ∧ c = nI 110 ∧ n = nI v ∧ d' = d + 1 ∧ d' ≤ 32)
/-- the formula: object o of the class against bank b -/
def RF (X : Nat → Nat → Int32) (o : Nat) (V : Nat → Nat → Int32) (b : Nat) : Prop :=
  ∃ (u len F : Nat) (D : Nat → Nat), u ≤ 30 ∧ X o 3 = nI u ∧ V 7 b = nI u ∧ X o 2 = nI len ∧ len ≤ 300 ∧ (F + len ≤ 1120 ∧ F = 560 * b) ∧ D 0 = 0 ∧
    ((V 23 b = 0 ∧ len = 0) ∨ (V 23 b = 1 ∧ 0 < len ∧ V 21 b = nI F ∧ V 22 b = nI (F + len) ∧ 1 ≤ D len)) ∧
    ∀ i, i < len → PC (X (o + 1) i) (V 28 (F + i)) (V 29 (F + i)) (D i) (D (i + 1))
/-- the mill: object o of the class (arrays behind it) against bank b -/
def RM (X : Nat → Nat → Int32) (o : Nat) (V : Nat → Nat → Int32) (b mn kd bn hr : Nat) : Prop :=
  (mn ≤ 5 ∧ kd ≤ 3 ∧ bn ≤ 5 ∧ 1 ≤ hr ∧ hr ≤ 8) ∧
  (X o 0 = nI mn ∧ V 4 b = nI mn ∧ X o 1 = nI kd ∧ V 3 b = nI kd ∧ X o 2 = nI bn ∧ V 5 b = nI bn ∧ X o 3 = V 6 b ∧ X o 4 = nI hr ∧ V 8 b = nI hr) ∧
  (∃ d, d ≤ 999 ∧ X o 5 = nI d ∧ V 9 b = nI d) ∧
  (∀ i, i < mn → X (o + 1) i = V 12 (5 * b + i)) ∧
  (∃ mask, mask < 32 ∧ V 10 b = nI mask ∧ ∀ i, i < mn → X (o + 2) i = nI (mask / 2 ^ i % 2)) ∧
  (∀ i, i < mn → X (o + 3) i = V 13 (5 * b + i)) ∧
  (∀ i k, i < mn → k < 3 → ∃ n, n ≤ 60 ∧ X (o + 4) (3 * i + k) = nI n ∧ V 14 (3 * (5 * b + i) + k) = nI n ∧ (kd ≤ k → n = 0)) ∧
  (∀ j, j < 15 → 3 * mn ≤ j → X (o + 4) j = 0) ∧
  (∀ i k, i < mn → k < 3 → ∃ n, n ≤ 9 ∧ X (o + 5) (3 * i + k) = nI n ∧ V 15 (3 * (5 * b + i) + k) = nI n ∧ (kd ≤ k → n = 0)) ∧
  (∀ r, r < 9 → ∃ n, n ≤ 9 ∧ X (o + 6) r = nI n ∧ V 18 (9 * b + r) = nI n ∧ (n ≠ 0 → ∃ q, 1 ≤ q ∧ q ≤ 9 ∧ X (o + 7) r = nI q ∧ V 19 (9 * b + r) = nI q)) ∧
  (∀ i, i < bn → X (o + 8) i = V 20 (5 * b + i)) ∧
  RF X (o + 9) V b
/-- what acts change: the class's row c, the reference's row g; W: the latest week -/
def RS (c g : Nat → Int32) (mn kd hr W : Nat) : Prop :=
  (∀ i k, i < 5 → k < 3 → ∃ n, n ≤ 99 ∧ c (3 * i + k) = nI n ∧ g (3 * i + k) = nI n ∧ (mn ≤ i ∨ kd ≤ k → n = 0)) ∧
  (∀ i k, i < 5 → k < 3 → c (15 + (3 * i + k)) = g (20 + (3 * i + k)) ∧ (mn ≤ i ∨ kd ≤ k → g (20 + (3 * i + k)) = 0)) ∧
  (∀ i, i < 5 → c (30 + i) = g (15 + i)) ∧
  (∀ i, i < 5 → ∃ n, n ≤ hr ∧ c (35 + i) = nI n ∧ g (35 + i) = nI n) ∧
  (∃ n, n ≤ W ∧ c 40 = nI n ∧ g 40 = nI n) ∧
  (∃ n, n ≤ 999 ∧ c 41 = nI n ∧ g 41 = nI n)
/-- the acts that are kept -/
def RA (X V : Nat → Nat → Int32) (mn kd hr : Nat) : Prop :=
  ∃ f d e : Nat, f ≤ 40 ∧ d ≤ e ∧ e ≤ 40 ∧ X 39 2 = nI f ∧ X 39 3 = nI d ∧ X 39 4 = nI e ∧ V 0 50 = nI d ∧ V 0 51 = nI (e - d) ∧
    (∀ j, j < 42 → X 40 (42 * ((f + d) % 41) + j) = X 36 j) ∧
    (∀ i, i < d → RS (fun j => X 40 (42 * ((f + i) % 41) + j)) (fun j => V 34 (42 * i + j)) mn kd hr 999) ∧
    (∀ i, d < i → i ≤ e → RS (fun j => X 40 (42 * ((f + i) % 41) + j)) (fun j => V 34 (42 * (i - 1) + j)) mn kd hr 999)
/-- the boxes -/
def RX (X V : Nat → Nat → Int32) (mn kd hr : Nat) : Prop :=
  ∀ x, x < 3 → (X 64 x = 0 ∧ V 54 x = 0) ∨ (X 64 x = 1 ∧ V 54 x = 1 ∧ RS (fun j => X 63 (42 * x + j)) (fun j => V 53 (42 * x + j)) mn kd hr 999)
/-- what lies there -/
def RH (X V : Nat → Nat → Int32) : Prop :=
  ∃ n, n ≤ 6 ∧ X 51 1 = nI n ∧ V 0 55 = nI n ∧ ∀ i, i < n → X 52 i = V 37 i
/-- the sights -/
def RI (X V : Nat → Nat → Int32) (mn bn : Nat) : Prop :=
  ∃ n t, n ≤ 30 ∧ t ≤ 100000 ∧ X 53 7 = nI n ∧ V 0 78 = nI n ∧ X 53 8 = nI t ∧ V 0 79 = nI t ∧
    ∀ i, i < n → (∃ m, m < mn ∧ m < bn ∧ X 54 i = nI m ∧ V 45 i = nI m) ∧
      ((X 55 i = -1 ∧ V 46 i = -1) ∨ ∃ m, m < mn ∧ m < bn ∧ X 55 i = nI m ∧ V 46 i = nI m) ∧
      X 56 i = V 47 i ∧ (∃ q, q ≤ 1 ∧ X 57 i = nI q ∧ V 48 i = nI q) ∧ X 58 i = V 49 i ∧
      ((X 59 i = -1 ∧ V 50 i = -1) ∨ ∃ q, q ≤ 100000 ∧ X 59 i = nI q ∧ V 50 i = nI q)
/-- the tape -/
def RT (X V : Nat → Nat → Int32) : Prop :=
  ∃ n, n ≤ 1600 ∧ X 1 1 = nI n ∧ V 0 2 = nI n ∧ ∀ i, i < n → ∃ z : Int8, X 2 i = z.toInt32 ∧ V 1 i = z.toInt32
/-- fault; rows that stay empty; the bank -/
def RO (X V : Nat → Nat → Int32) (b : Nat) : Prop :=
  X 16 5 = V 0 4 ∧ X 16 6 = V 0 5 ∧ b ≤ 1 ∧ V 0 41 = nI b ∧ ∀ i, i < 15 → X 38 i = 0 ∧ X 45 i = 0
def RP (X V : Nat → Nat → Int32) (b mn kd bn hr : Nat) : Prop :=
  RM X 23 V b mn kd bn hr ∧ RS (X 36) (V 33) mn kd hr 999 ∧ RA X V mn kd hr ∧ RX X V mn kd hr ∧ RH X V ∧ RI X V mn bn ∧ RT X V ∧ RO X V b
def RR (MX MM : Mem) : Prop := ∃ b mn kd bn hr, RP MX.1 MM.1 b mn kd bn hr
/-! what the parts speak of -/
theorem RM.cg {X X' : Nat → Nat → Int32} {o : Nat} {V V' : Nat → Nat → Int32} {b mn kd bn hr : Nat} (h : RM X o V b mn kd bn hr)
    (hX : ∀ a i, o ≤ a → a ≤ o + 10 → X' a i = X a i) (hV : ∀ a i, 3 ≤ a → a ≤ 29 → V' a i = V a i) : RM X' o V' b mn kd bn hr := by
  unfold RM RF at h ⊢
  simp only [hX _ _ (Nat.le_refl o) (by omega : o ≤ o + 10), hX (o + 1) _ (by omega) (by omega), hX (o + 2) _ (by omega) (by omega), hX (o + 3) _ (by omega) (by omega), hX (o + 4) _ (by omega) (by omega), hX (o + 5) _ (by omega) (by omega), hX (o + 6) _ (by omega) (by omega), hX (o + 7) _ (by omega) (by omega), hX (o + 8) _ (by omega) (by omega), hX (o + 9) _ (by omega) (by omega), hX (o + 9 + 1) _ (by omega) (by omega),
    hV 3 _ (by omega) (by omega), hV 4 _ (by omega) (by omega), hV 5 _ (by omega) (by omega), hV 6 _ (by omega) (by omega), hV 7 _ (by omega) (by omega), hV 8 _ (by omega) (by omega), hV 9 _ (by omega) (by omega), hV 10 _ (by omega) (by omega), hV 12 _ (by omega) (by omega), hV 13 _ (by omega) (by omega), hV 14 _ (by omega) (by omega), hV 15 _ (by omega) (by omega), hV 18 _ (by omega) (by omega), hV 19 _ (by omega) (by omega), hV 20 _ (by omega) (by omega), hV 21 _ (by omega) (by omega), hV 22 _ (by omega) (by omega), hV 23 _ (by omega) (by omega), hV 28 _ (by omega) (by omega), hV 29 _ (by omega) (by omega)]
  exact h
theorem RS.cg {c g c' g' : Nat → Int32} {mn kd hr W : Nat} (h : RS c g mn kd hr W) (hc : ∀ j, j < 42 → c' j = c j) (hg : ∀ j, j < 42 → g' j = g j) : RS c' g' mn kd hr W := by
  obtain ⟨h1, h2, h3, h4, h5, h6⟩ := h
  refine ⟨fun i k hi hk => ?_, fun i k hi hk => ?_, fun i hi => ?_, fun i hi => ?_, ?_, ?_⟩
  · rw [hc _ (by omega), hg _ (by omega)]; exact h1 i k hi hk
  · rw [hc _ (by omega), hg _ (by omega)]; exact h2 i k hi hk
  · rw [hc _ (by omega), hg _ (by omega)]; exact h3 i hi
  · rw [hc _ (by omega), hg _ (by omega)]; exact h4 i hi
  · rw [hc _ (by omega), hg _ (by omega)]; exact h5
  · rw [hc _ (by omega), hg _ (by omega)]; exact h6
theorem RS.wk {c g : Nat → Int32} {mn kd hr W W' : Nat} (h : RS c g mn kd hr W) (hW : W ≤ W') : RS c g mn kd hr W' := by
  obtain ⟨h1, h2, h3, h4, ⟨n, h5, h7⟩, h6⟩ := h
  exact ⟨h1, h2, h3, h4, ⟨n, by omega, h7⟩, h6⟩
theorem RA.cg {X X' V V' : Nat → Nat → Int32} {mn kd hr : Nat} (h : RA X V mn kd hr) (hX : ∀ a i, a = 36 ∨ a = 39 ∨ a = 40 → X' a i = X a i) (h1 : V' 0 50 = V 0 50) (h2 : V' 0 51 = V 0 51) (h3 : ∀ i, V' 34 i = V 34 i) : RA X' V' mn kd hr := by
  unfold RA at h ⊢
  simp only [hX 36 _ (by omega), hX 39 _ (by omega), hX 40 _ (by omega), h1, h2, h3]
  exact h
theorem RX.cg {X X' V V' : Nat → Nat → Int32} {mn kd hr : Nat} (h : RX X V mn kd hr) (hX : ∀ a i, a = 63 ∨ a = 64 → X' a i = X a i) (hV : ∀ a i, a = 53 ∨ a = 54 → V' a i = V a i) : RX X' V' mn kd hr := by
  unfold RX at h ⊢
  simp only [hX 63 _ (by omega), hX 64 _ (by omega), hV 53 _ (by omega), hV 54 _ (by omega)]
  exact h
theorem RH.cg {X X' V V' : Nat → Nat → Int32} (h : RH X V) (h1 : X' 51 1 = X 51 1) (h2 : ∀ i, X' 52 i = X 52 i) (h3 : V' 0 55 = V 0 55) (h4 : ∀ i, V' 37 i = V 37 i) : RH X' V' := by
  unfold RH at h ⊢
  simp only [h1, h2, h3, h4]
  exact h
theorem RI.cg {X X' V V' : Nat → Nat → Int32} {mn bn : Nat} (h : RI X V mn bn) (h1 : X' 53 7 = X 53 7) (h2 : X' 53 8 = X 53 8) (h3 : ∀ a i, 54 ≤ a → a ≤ 59 → X' a i = X a i) (h4 : V' 0 78 = V 0 78) (h5 : V' 0 79 = V 0 79) (h6 : ∀ a i, 45 ≤ a → a ≤ 50 → V' a i = V a i) : RI X' V' mn bn := by
  unfold RI at h ⊢
  simp only [h1, h2, h4, h5, h3 54 _ (by omega) (by omega), h3 55 _ (by omega) (by omega), h3 56 _ (by omega) (by omega), h3 57 _ (by omega) (by omega), h3 58 _ (by omega) (by omega), h3 59 _ (by omega) (by omega), h6 45 _ (by omega) (by omega), h6 46 _ (by omega) (by omega), h6 47 _ (by omega) (by omega), h6 48 _ (by omega) (by omega), h6 49 _ (by omega) (by omega), h6 50 _ (by omega) (by omega)]
  exact h
theorem RT.cg {X X' V V' : Nat → Nat → Int32} (h : RT X V) (h1 : X' 1 1 = X 1 1) (h2 : ∀ i, X' 2 i = X 2 i) (h3 : V' 0 2 = V 0 2) (h4 : ∀ i, V' 1 i = V 1 i) : RT X' V' := by
  unfold RT at h ⊢
  simp only [h1, h2, h3, h4]
  exact h
theorem RO.cg {X X' V V' : Nat → Nat → Int32} {b : Nat} (h : RO X V b) (h1 : X' 16 5 = X 16 5) (h2 : X' 16 6 = X 16 6) (h3 : ∀ i, X' 38 i = X 38 i) (h4 : ∀ i, X' 45 i = X 45 i) (h5 : V' 0 4 = V 0 4) (h6 : V' 0 5 = V 0 5) (h7 : V' 0 41 = V 0 41) : RO X' V' b := by
  unfold RO at h ⊢
  simp only [h1, h2, h3, h4, h5, h6, h7]
  exact h
/-- scratch of the class: what R doesn't speak of -/
def SX (a i : Nat) : Prop := a = 34 ∨ a = 37 ∨ a = 41 ∨ a = 43 ∨ a = 44 ∨ a = 46 ∨ a = 47 ∨ a = 48 ∨ a = 49 ∨ a = 50 ∨ a = 60 ∨ a = 61 ∨ a = 62 ∨ (a = 53 ∧ i = 12)
/-- .. and of the reference -/
def SM (a i : Nat) : Prop := (30 ≤ a ∧ a ≤ 32) ∨ a = 35 ∨ a = 36 ∨ (38 ≤ a ∧ a ≤ 44) ∨ a = 51 ∨ a = 52 ∨ (a = 0 ∧ (i = 47 ∨ i = 56 ∨ i = 57 ∨ i = 62 ∨ i = 63 ∨ i = 67 ∨ i = 68 ∨ i = 69 ∨ i = 80))
theorem RP.fr {MX MX' MM MM' : Mem} {b mn kd bn hr : Nat} (h : RP MX.1 MM.1 b mn kd bn hr) (hX : Fr SX MX MX') (hM : Fr SM MM MM') : RP MX'.1 MM'.1 b mn kd bn hr := by
  obtain ⟨h1, h2, h3, h4, h5, h6, h7, h8⟩ := h
  have kX := hX.2
  have kM := hM.2
  refine ⟨h1.cg (fun a i _ _ => kX a i (by unfold SX; omega)) (fun a i _ _ => kM a i (by unfold SM; omega)), h2.cg (fun j _ => kX 36 j (by unfold SX; omega)) (fun j _ => kM 33 j (by unfold SM; omega)),
    h3.cg (fun a i _ => kX a i (by unfold SX; omega)) (kM _ _ (by unfold SM; omega)) (kM _ _ (by unfold SM; omega)) (fun i => kM _ _ (by unfold SM; omega)),
    h4.cg (fun a i _ => kX a i (by unfold SX; omega)) (fun a i _ => kM a i (by unfold SM; omega)),
    h5.cg (kX _ _ (by unfold SX; omega)) (fun i => kX _ _ (by unfold SX; omega)) (kM _ _ (by unfold SM; omega)) (fun i => kM _ _ (by unfold SM; omega)),
    h6.cg (kX _ _ (by unfold SX; omega)) (kX _ _ (by unfold SX; omega)) (fun a i _ _ => kX _ _ (by unfold SX; omega)) (kM _ _ (by unfold SM; omega)) (kM _ _ (by unfold SM; omega)) (fun a i _ _ => kM _ _ (by unfold SM; omega)),
    h7.cg (kX _ _ (by unfold SX; omega)) (fun i => kX _ _ (by unfold SX; omega)) (kM _ _ (by unfold SM; omega)) (fun i => kM _ _ (by unfold SM; omega)),
    h8.cg (kX _ _ (by unfold SX; omega)) (kX _ _ (by unfold SX; omega)) (fun i => kX _ _ (by unfold SX; omega)) (fun i => kX _ _ (by unfold SX; omega)) (kM _ _ (by unfold SM; omega)) (kM _ _ (by unfold SM; omega)) (kM _ _ (by unfold SM; omega))⟩
