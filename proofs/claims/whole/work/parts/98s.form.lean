/-! ===== phase 2: the formula, read: what stands ===== -/
def FXf (M M' : Mem) : Prop := (∀ a i, a ≠ 16 → a ≠ 13 → a ≠ 14 → M'.1 a i = M.1 a i) ∧ ∀ a i, a ≠ 16 → M'.2 a i = M.2 a i
def FMf (w : Nat) (M M' : Mem) : Prop := (∀ a i, ¬ ((a = 0 ∧ ((4 ≤ i ∧ i ≤ 9) ∨ (43 ≤ i ∧ i ≤ 46))) ∨ (a = 7 ∧ i = w) ∨ ((a = 28 ∨ a = 29) ∧ 560 * w ≤ i ∧ i < 560 * w + 560) ∨ a = 30 ∨ a = 31) → M'.1 a i = M.1 a i) ∧ ∀ a i, a ≠ 0 → M'.2 a i = M.2 a i
theorem FXf.rf {M : Mem} : FXf M M := ⟨fun _ _ _ _ _ => rfl, fun _ _ _ => rfl⟩
theorem FMf.rf {w : Nat} {M : Mem} : FMf w M M := ⟨fun _ _ _ => rfl, fun _ _ _ => rfl⟩
theorem FXf.tr {M M1 M2 : Mem} (h : FXf M M1) (k : FXf M1 M2) : FXf M M2 := ⟨fun a i z1 z2 z3 => (k.1 a i z1 z2 z3).trans (h.1 a i z1 z2 z3), fun a i z => (k.2 a i z).trans (h.2 a i z)⟩
theorem FMf.tr {w : Nat} {M M1 M2 : Mem} (h : FMf w M M1) (k : FMf w M1 M2) : FMf w M M2 := ⟨fun a i z => (k.1 a i z).trans (h.1 a i z), fun a i z => (k.2 a i z).trans (h.2 a i z)⟩
theorem FXr.f {M M' : Mem} (h : FXr M M') : FXf M M' := ⟨fun a i z _ _ => h.1 a i z, h.2⟩
theorem FMr.f {w : Nat} {M M' : Mem} (h : FMr M M') : FMf w M M' := ⟨fun a i z => h.1 a i (by omega), h.2⟩
/-- what taking from the pile changes -/
def Pf (w : Nat) (M M' : Mem) : Prop := (∀ a i, ¬ (a = 0 ∧ 43 ≤ i ∧ i ≤ 45) → ¬ ((a = 28 ∨ a = 29) ∧ 560 * w ≤ i ∧ i < 560 * w + 560) → M'.1 a i = M.1 a i) ∧ M'.2 = M.2
theorem Pf.rf {w : Nat} {M : Mem} : Pf w M M := ⟨fun _ _ _ _ => rfl, rfl⟩
theorem Pf.tr {w : Nat} {M M1 M2 : Mem} (h : Pf w M M1) (k : Pf w M1 M2) : Pf w M M2 := ⟨fun a i z1 z2 => (k.1 a i z1 z2).trans (h.1 a i z1 z2), k.2.trans h.2⟩
theorem Pf.f {w : Nat} {M M' : Mem} (h : Pf w M M') : FMf w M M' := ⟨fun a i z => h.1 a i (by omega) (by omega), fun a i _ => by rw [h.2]⟩
/-- nots on the pile from B on -/
def nt (f : Nat → Int32) (B : Nat) : Nat → Nat
  | 0 => 0
  | k + 1 => nt f B k + (if f (B + k) = 3 then 1 else 0)
theorem nt_cg {f g : Nat → Int32} {B : Nat} : ∀ k, (∀ i, i < k → g (B + i) = f (B + i)) → nt g B k = nt f B k
  | 0, _ => rfl
  | k + 1, h => by
    show nt g B k + (if g (B + k) = 3 then 1 else 0) = nt f B k + (if f (B + k) = 3 then 1 else 0)
    rw [nt_cg k (fun i hi => h i (by omega)), h k (by omega)]
theorem nt_bot {f : Nat → Int32} {B : Nat} : ∀ k, nt f B (k + 1) = (if f B = 3 then 1 else 0) + nt f (B + 1) k
  | 0 => by
    show 0 + (if f (B + 0) = 3 then 1 else 0) = (if f B = 3 then 1 else 0) + 0
    rw [Nat.zero_add, Nat.add_zero, Nat.add_zero]
  | k + 1 => by
    show nt f B (k + 1) + (if f (B + (k + 1)) = 3 then 1 else 0) = (if f B = 3 then 1 else 0) + (nt f (B + 1) k + (if f (B + 1 + k) = 3 then 1 else 0))
    rw [nt_bot k, show B + (k + 1) = B + 1 + k by omega, Nat.add_assoc]
theorem nt_le {f : Nat → Int32} {B : Nat} : ∀ k, nt f B k ≤ k
  | 0 => Nat.le_refl 0
  | k + 1 => by
    have := nt_le (f := f) (B := B) k
    show nt f B k + (if f (B + k) = 3 then 1 else 0) ≤ k + 1
    split <;> omega
/-- the code so far: the class has it all, the reference r pieces and k more on its pile over B -/
def ES (w B k r u dep : Nat) (D : Nat → Nat) (MX MM : Mem) : Prop :=
  MM.1 0 42 = nI w ∧ w ≤ 1 ∧ MX.1 13 2 = nI (r + k) ∧ MX.1 13 3 = nI u ∧ MM.1 7 w = nI u ∧ MM.1 0 46 = nI u ∧ MM.1 0 43 = nI (560 * w + r) ∧ MM.1 0 45 = nI (B + k) ∧
  MM.1 0 44 = nI (dep + nt (MM.1 30) B k) ∧ D 0 = 0 ∧ (∀ i, i < r → PC (MX.1 14 i) (MM.1 28 (560 * w + i)) (MM.1 29 (560 * w + i)) (D i) (D (i + 1))) ∧
  (∀ i, i < k → PC (MX.1 14 (r + i)) (MM.1 31 (B + k - 1 - i)) 0 (D (r + i)) (D (r + i + 1)))
theorem ES.fr {w B k r u dep : Nat} {D : Nat → Nat} {MX MM MX' MM' : Mem} (h : ES w B k r u dep D MX MM) (f : FXr MX MX') (g : FMr MM MM') : ES w B k r u dep D MX' MM' := by
  obtain ⟨a1, a2, a3, a4, a5, a6, a7, a8, a9, a10, a11, a12⟩ := h
  refine ⟨(g.1 0 42 (by omega)).trans a1, a2, (f.1 13 2 (by omega)).trans a3, (f.1 13 3 (by omega)).trans a4, (g.1 7 w (by omega)).trans a5, (g.1 0 46 (by omega)).trans a6, (g.1 0 43 (by omega)).trans a7, (g.1 0 45 (by omega)).trans a8, ?_, a10, fun i hi => ?_, fun i hi => ?_⟩
  · rw [g.1 0 44 (by omega), nt_cg (f := MM.1 30) (g := MM'.1 30) k (fun i _ => g.1 30 _ (by omega))]; exact a9
  · rw [f.1 14 i (by omega), g.1 28 _ (by omega), g.1 29 _ (by omega)]; exact a11 i hi
  · rw [f.1 14 _ (by omega), g.1 31 _ (by omega)]; exact a12 i hi
theorem emit_c {M : Mem} {e : Nat} (c n : Int32) (h : M.1 0 43 = nI e) (he : e < 1120) : X12_emit c n M = some (uI (uI (uI M 28 e c) 29 e n) 0 43 (nI (e + 1))) := by
  unfold X12_emit
  rw [h, gd_in he (by omega), nI_clamp (by omega), lt_e (uI M 28 e c), show (uI M 28 e c).1 0 43 = nI e from h, gd_in he (by omega), nI_clamp (by omega), lt_e (uI (uI M 28 e c) 29 e n), show (uI (uI M 28 e c) 29 e n).1 0 43 = nI e from h, show nI e + 1 = nI (e + 1) from nI_add e 1, lt_e]
theorem pushE_c {M : Mem} {e : Nat} (c n : Int32) (h : M.1 0 45 = nI e) (he : e < 90) : X12_pushE c n M = some (uI (uI (uI M 30 e c) 31 e n) 0 45 (nI (e + 1))) := by
  unfold X12_pushE
  rw [h, gd_in he (by omega), nI_clamp (by omega), lt_e (uI M 30 e c), show (uI M 30 e c).1 0 45 = nI e from h, gd_in he (by omega), nI_clamp (by omega), lt_e (uI (uI M 30 e c) 31 e n), show (uI (uI M 30 e c) 31 e n).1 0 45 = nI e from h, show nI e + 1 = nI (e + 1) from nI_add e 1, lt_e]
theorem pop1_c {w B m r u dep t v : Nat} {D : Nat → Nat} {MX M : Mem} (h : ES w B (m + 1) r u dep D MX M) (hB : B + m < 90) (hr : r < 560) (ht : M.1 30 (B + m) = nI t) (h1 : v ≤ t) (h2 : t ≤ 6) (N : Nat) : ∃ M', X12_behindUnit_L1 (nI v) (N + 1) M = X12_behindUnit_L1 (nI v) N M' ∧ ES w B m (r + 1) u dep D MX M' ∧ Pf w M M' := by
  obtain ⟨a1, a2, a3, a4, a5, a6, a7, a8, a9, a10, a11, a12⟩ := h
  obtain ⟨MA, hMA⟩ : ∃ MA, MA = uI M 0 45 (nI (B + m)) := ⟨_, rfl⟩
  have nte : nt (M.1 30) B (m + 1) = nt (M.1 30) B m + (if M.1 30 (B + m) = 3 then 1 else 0) := rfl
  have hA30 : MA.1 30 (B + m) = M.1 30 (B + m) := by rw [hMA, uI_ne (by omega)]
  have hA44 : MA.1 0 44 = M.1 0 44 := by rw [hMA, uI_ne (by omega)]
  have hA45 : MA.1 0 45 = nI (B + m) := by rw [hMA, uI_eq]
  have fA : Pf w M MA := ⟨fun a i z1 z2 => by rw [hMA, uI_ne (by omega)], by rw [hMA]; rfl⟩
  obtain ⟨M14, q1, q2, q3, q4⟩ : ∃ M14 : Mem, (if MA.1 30 (B + m) = 3 then lt_ (uI MA 0 44 (MA.1 0 44 - 1)) fun M13 => M13 else MA) = M14 ∧ Pf w M M14 ∧ M14.1 0 45 = nI (B + m) ∧ M14.1 0 44 = nI (dep + nt (M.1 30) B m) := by
    by_cases z : M.1 30 (B + m) = 3
    · refine ⟨uI MA 0 44 (nI (dep + nt (M.1 30) B m)), ?_, fA.tr ⟨fun a i z1 z2 => uI_ne (by omega), rfl⟩, by rw [uI_ne (by omega), hA45], uI_eq _ _ _ _⟩
      rw [hA30, if_pos z, hA44, a9, nte, if_pos z, show nI (dep + (nt (M.1 30) B m + 1)) - 1 = nI (dep + (nt (M.1 30) B m + 1) - 1) from nI_sub (b := 1) (by omega), show dep + (nt (M.1 30) B m + 1) - 1 = dep + nt (M.1 30) B m by omega, lt_e]
    · refine ⟨MA, ?_, fA, hA45, ?_⟩
      · rw [hA30, if_neg z]
      · rw [hA44, a9, nte, if_neg z, Nat.add_zero]
  have e43 : M14.1 0 43 = nI (560 * w + r) := by
    have : MA.1 0 43 = nI (560 * w + r) := by rw [hMA, uI_ne (by omega)]; exact a7
    rw [← q1]
    split
    · rw [lt_e, uI_ne (by omega)]; exact this
    · exact this
  obtain ⟨M', hM'⟩ : ∃ M', M' = uI (uI (uI M14 28 (560 * w + r) (M14.1 31 (B + m))) 29 (560 * w + r) 0) 0 43 (nI (560 * w + r + 1)) := ⟨_, rfl⟩
  have m31 : M14.1 31 (B + m) = M.1 31 (B + m) := q2.1 31 _ (by omega) (by omega)
  have f' : Pf w M M' := q2.tr ⟨fun a i z1 z2 => by rw [hM', uI_ne (by omega), uI_ne (by omega), uI_ne (by omega)], by rw [hM']; rfl⟩
  refine ⟨M', ?_, ⟨(f'.1 0 42 (by omega) (by omega)).trans a1, a2, ?_, a4, (f'.1 7 w (by omega) (by omega)).trans a5, (f'.1 0 46 (by omega) (by omega)).trans a6, ?_, ?_, ?_, a10, fun i hi => ?_, fun i hi => ?_⟩, f'⟩
  · rw [X12_behindUnit_L1, a8, show nI (B + (m + 1)) - 1 = nI (B + (m + 1) - 1) from nI_sub (b := 1) (by omega), show B + (m + 1) - 1 = B + m by omega, gd_in hB (by omega), nI_clamp (by omega), ht, if_neg (show ¬ (6 : Int32) < nI t from nI_nlt (a := 6) (by omega) (by omega)), if_neg (nI_nlt (by omega) (by omega)), ← hMA, lt_e MA, hA45, gd_in hB (by omega), nI_clamp (by omega), q1, l1_s, q3, gd_in hB (by omega), nI_clamp (by omega), emit_c _ _ e43 (by omega), bo_s, ← hM']
  · rw [a3, show r + (m + 1) = r + 1 + m by omega]
  · rw [hM', uI_eq, Nat.add_assoc]
  · rw [hM', uI_ne (by omega), uI_ne (by omega), uI_ne (by omega), q3]
  · rw [nt_cg (f := M.1 30) (g := M'.1 30) m (fun i _ => f'.1 30 _ (by omega) (by omega)), hM', uI_ne (by omega), uI_ne (by omega), uI_ne (by omega), q4]
  · by_cases z : i = r
    · have := a12 0 (by omega)
      rw [show r + 0 = r from rfl, show B + (m + 1) - 1 - 0 = B + m by omega] at this
      rw [z, hM', uI_ne (by omega), uI_ne (by omega), uI_eq, uI_ne (by omega), uI_eq, m31]
      exact this
    · have hi' : i < r := by omega
      have c1 : M'.1 28 (560 * w + i) = M.1 28 (560 * w + i) := by
        rw [hM', uI_ne (by omega), uI_ne (by omega), uI_ne (by omega), ← q1]
        split
        · rw [lt_e, uI_ne (by omega), hMA, uI_ne (by omega)]
        · rw [hMA, uI_ne (by omega)]
      have c2 : M'.1 29 (560 * w + i) = M.1 29 (560 * w + i) := by
        rw [hM', uI_ne (by omega), uI_ne (by omega), uI_ne (by omega), ← q1]
        split
        · rw [lt_e, uI_ne (by omega), hMA, uI_ne (by omega)]
        · rw [hMA, uI_ne (by omega)]
      rw [c1, c2]
      exact a11 i hi'
  · have := a12 (i + 1) (by omega)
    rw [f'.1 31 _ (by omega) (by omega), show r + 1 + i = r + (i + 1) by omega, show B + m - 1 - i = B + (m + 1) - 1 - (i + 1) by omega]
    exact this
/-- all of the pile down to B is taken -/
theorem pop_c {w B k r u dep v : Nat} {D : Nat → Nat} {MX M : Mem} (h : ES w B k r u dep D MX M) (hB1 : 1 ≤ B) (hB : B + k ≤ 90) (hr : r + k ≤ 560) (hrk : ∀ i, i < k → ∃ t, v ≤ t ∧ t ≤ 6 ∧ M.1 30 (B + i) = nI t) (hbot : ∃ t, M.1 30 (B - 1) = nI t ∧ t ≤ 8 ∧ (t < v ∨ 6 < t)) (hv : v ≤ 6) : ∃ M', X12_behindUnit_L1 (nI v) zFU M = some M' ∧ ES w B 0 (r + k) u dep D MX M' ∧ Pf w M M' := by
  have key := up_zFU (σ := Mem) (fun N s => X12_behindUnit_L1 (nI v) N s) (fun j s => ES w B (k - j) (r + j) u dep D MX s ∧ Pf w M s) (fun t => ES w B 0 (r + k) u dep D MX t ∧ Pf w M t) k (by omega) (by
    rintro N s ⟨e, f⟩
    rw [Nat.sub_self] at e
    refine ⟨s, ?_, e, f⟩
    obtain ⟨t, t1, t2, t3⟩ := hbot
    show X12_behindUnit_L1 (nI v) (N + 1) s = some s
    rw [X12_behindUnit_L1, e.2.2.2.2.2.2.2.1, Nat.add_zero, show nI B - 1 = nI (B - 1) from nI_sub (b := 1) hB1, gd_in (by omega) (by omega), nI_clamp (by omega), f.1 30 _ (by omega) (by omega), t1]
    by_cases z : 6 < t
    · rw [if_pos (show (6 : Int32) < nI t from nI_lt (a := 6) z (by omega))]
    · rw [if_neg (show ¬ (6 : Int32) < nI t from nI_nlt (a := 6) (by omega) (by omega)), if_pos (nI_lt (by omega) (by omega))]) (by
    rintro N j s hj ⟨e, f⟩
    left
    obtain ⟨t, t1, t2, t3⟩ := hrk (k - j - 1) (by omega)
    rw [show k - j = (k - j - 1) + 1 by omega] at e
    obtain ⟨M', e1, e2, e3⟩ := pop1_c (t := t) (v := v) e (by omega) (by omega) (by rw [f.1 30 _ (by omega) (by omega)]; exact t3) t1 t2 N
    refine ⟨M', ⟨?_, f.tr e3⟩, e1⟩
    rw [show k - (j + 1) = k - j - 1 by omega, show r + (j + 1) = r + j + 1 by omega]
    exact e2) M 0 (by omega) ⟨by rw [Nat.sub_zero, Nat.add_zero]; exact h, Pf.rf⟩
  obtain ⟨t, e, q⟩ := key
  exact ⟨t, e, q⟩
/-- is a comparison pending -/
theorem cmp_c {M : Mem} {T j : Nat} (h45 : M.1 0 45 = nI T) (hT : T ≤ 90) (hj : j < T) (h1 : ∀ i, j < i → i < T → M.1 30 i = 5 ∨ M.1 30 i = 6) (h2 : ¬ M.1 30 j = 5 ∧ ¬ M.1 30 j = 6) : X12_isCompared M = some (decide (M.1 30 j = 4)) := by
  have key := up_zFU (σ := Int32) (fun N s => X12_isCompared_L1 M N s) (fun i s => s = nI (T - 1 - i)) (fun t => t = nI j) (T - 1 - j) (by omega) (by
    rintro N s rfl
    refine ⟨nI j, ?_, rfl⟩
    show X12_isCompared_L1 M (N + 1) (nI (T - 1 - (T - 1 - j))) = some (nI j)
    rw [show T - 1 - (T - 1 - j) = j by omega, X12_isCompared_L1, gd_in (by omega) (by omega), nI_clamp (by omega), if_neg h2.1, if_neg h2.2, l1_s, if_neg Bool.false_ne_true]) (by
    rintro N i s hi rfl
    left
    refine ⟨nI (T - 1 - (i + 1)), rfl, ?_⟩
    show X12_isCompared_L1 M (N + 1) (nI (T - 1 - i)) = X12_isCompared_L1 M N (nI (T - 1 - (i + 1)))
    have e : (if M.1 30 (T - 1 - i) = 5 then true else if M.1 30 (T - 1 - i) = 6 then true else false) = true := by
      rcases h1 (T - 1 - i) (by omega) (by omega) with z | z
      · rw [if_pos z]
      · rw [z]; rfl
    rw [X12_isCompared_L1, gd_in (by omega) (by omega), nI_clamp (by omega), e, l1_s, if_pos rfl, show nI (T - 1 - i) + (-1) = nI (T - 1 - i - 1) from nI_addm (b := 1) (by omega), show T - 1 - i - 1 = T - 1 - (i + 1) by omega]) (nI (T - 1)) 0 (by omega) (by rw [Nat.sub_zero])
  obtain ⟨t, e, rfl⟩ := key
  unfold X12_isCompared
  rw [h45, show nI T - 1 = nI (T - 1) from nI_sub (b := 1) (by omega), lt_e, e, b1_s, gd_in (by omega) (by omega), nI_clamp (by omega)]
  by_cases z : M.1 30 j = 4
  · rw [if_pos z, decide_eq_true z]
  · rw [if_neg z, decide_eq_false z]
noncomputable def rkS (s : Int32) : Option Int32 := if s = 60 then some 4 else if s = 62 then some 4 else if s = 61 then some 4 else if s = 43 then some 5 else if s = 45 then some 5 else if s = 42 then some 6 else if s = 47 then some 6 else if s = 37 then some 6 else some 0
theorem rank0_c {MX MM : Mem} {n : Nat} {tx : Nat → Nat} {p q : Nat} (h : AT MX MM n tx p q) : X12_rankHere MM = if X12_isWord 6385252 MM = true then some 2 else if X12_isWord 28530 MM = true then some 1 else rkS (MX.1 16 1) := by
  unfold X12_rankHere rkS
  rw [show X12_isSignHere 60 MM = some (decide (MX.1 16 1 = 60)) from sgn_c h (c := 60) (by unfold SGN; omega), show X12_isSignHere 62 MM = some (decide (MX.1 16 1 = 62)) from sgn_c h (c := 62) (by unfold SGN; omega), show X12_isSignHere 61 MM = some (decide (MX.1 16 1 = 61)) from sgn_c h (c := 61) (by unfold SGN; omega), show X12_isSignHere 43 MM = some (decide (MX.1 16 1 = 43)) from sgn_c h (c := 43) (by unfold SGN; omega), show X12_isSignHere 45 MM = some (decide (MX.1 16 1 = 45)) from sgn_c h (c := 45) (by unfold SGN; omega), show X12_isSignHere 42 MM = some (decide (MX.1 16 1 = 42)) from sgn_c h (c := 42) (by unfold SGN; omega), show X12_isSignHere 47 MM = some (decide (MX.1 16 1 = 47)) from sgn_c h (c := 47) (by unfold SGN; omega), show X12_isSignHere 37 MM = some (decide (MX.1 16 1 = 37)) from sgn_c h (c := 37) (by unfold SGN; omega)]
  simp only [bo_s, decide_eq_true_eq]
theorem WC_39 : WC 39 = 6385252 := by decide +kernel
theorem WC_40 : WC 40 = 28530 := by decide +kernel
/-- the rank of the token that stands here -/
def RKA (MX MM : Mem) (p q v : Nat) : Prop := X12_rankHere MM = some (nI v) ∧ v ≤ 6 ∧ v ≠ 3 ∧ X6_says 39 MX = some (decide (v = 2)) ∧ X6_says 40 MX = some (decide (v = 1)) ∧ X2_isSumSign (MX.1 16 1) = decide (v = 5) ∧ X2_isTermSign (MX.1 16 1) = decide (v = 6) ∧ (if MX.1 16 1 = 60 then true else if MX.1 16 1 = 62 then true else if MX.1 16 1 = 61 then true else false) = decide (v = 4) ∧
  (v ≠ 0 → p < q ∧ ¬ MX.1 16 1 = 41 ∧ ¬ MX.1 16 1 = 59) ∧ (4 ≤ v → ∃ s, MX.1 16 1 = nI s ∧ X12_sign (MM.1 0 6) MM = some (nI s) ∧ s ∈ [43, 45, 42, 47, 37, 60, 62, 61])
theorem rank_c {MX MM : Mem} {n : Nat} {tx : Nat → Nat} {p q : Nat} (h : AT MX MM n tx p q) : ∃ v, RKA MX MM p q v := by
  have s39 := word_c h (w := 39) (by omega)
  have s40 := word_c h (w := 40) (by omega)
  rw [WC_39] at s39
  rw [WC_40] at s40
  have r0 := rank0_c h
  have nw : MM.1 0 8 ≠ 3 → X12_isWord 6385252 MM = false ∧ X12_isWord 28530 MM = false := fun z => ⟨Bool.eq_false_iff.mpr fun y => z (isWord_l.mp y).1, Bool.eq_false_iff.mpr fun y => z (isWord_l.mp y).1⟩
  have no : ∀ c : Nat, c ≤ 3 → MX.1 16 1 = nI c → MM.1 0 8 ≠ 3 → ∃ v, RKA MX MM p q v := fun c hc e z => by
    obtain ⟨n1, n2⟩ := nw z
    rw [n1, if_neg Bool.false_ne_true, n2, if_neg Bool.false_ne_true, e] at r0
    rw [n1] at s39
    rw [n2] at s40
    refine ⟨0, ?_, by omega, by omega, s39, s40, ?_, ?_, ?_, fun y => absurd rfl y, fun y => by omega⟩
    · rw [r0]
      rcases (by omega : c = 0 ∨ c = 1 ∨ c = 2 ∨ c = 3) with rfl | rfl | rfl | rfl <;> rfl
    all_goals
      rw [e]
      rcases (by omega : c = 0 ∨ c = 1 ∨ c = 2 ∨ c = 3) with rfl | rfl | rfl | rfl <;> rfl
  obtain ⟨h1, h2, h3, h4, h5, h6⟩ := h
  have hn := h5.1
  rcases h6 with ⟨_, _, a, b⟩ | ⟨_, _, a, b⟩ | ⟨hW, a, _, b, c'⟩ | ⟨_, _, a, b, _⟩ | ⟨a0, aq, s, a, b⟩
  · exact no 0 (by omega) a (by rw [b]; decide)
  · exact no 1 (by omega) a (by rw [b]; decide)
  · have hpq := hW.1
    cases ha : X12_isWord 6385252 MM with
    | true =>
      have hb : X12_isWord 28530 MM = false := Bool.eq_false_iff.mpr fun y => by
        have e1 := (isWord_l.mp ha).2
        have e2 := (isWord_l.mp y).2
        rw [e1] at e2
        exact absurd e2 (by decide)
      rw [ha, if_pos rfl] at r0
      rw [ha] at s39
      rw [hb] at s40
      exact ⟨2, r0, by omega, by omega, s39, s40, by rw [a]; rfl, by rw [a]; rfl, by rw [a]; rfl, fun _ => ⟨hpq, by rw [a]; decide, by rw [a]; decide⟩, fun y => by omega⟩
    | false =>
      rw [ha, if_neg Bool.false_ne_true] at r0
      rw [ha] at s39
      cases hb : X12_isWord 28530 MM with
      | true =>
        rw [hb, if_pos rfl] at r0
        rw [hb] at s40
        exact ⟨1, r0, by omega, by omega, s39, s40, by rw [a]; rfl, by rw [a]; rfl, by rw [a]; rfl, fun _ => ⟨hpq, by rw [a]; decide, by rw [a]; decide⟩, fun y => by omega⟩
      | false =>
        rw [hb, if_neg Bool.false_ne_true, a] at r0
        rw [hb] at s40
        exact ⟨0, r0, by omega, by omega, s39, s40, by rw [a]; rfl, by rw [a]; rfl, by rw [a]; rfl, fun y => absurd rfl y, fun y => by omega⟩
  · exact no 3 (by omega) a (by rw [b]; decide)
  · obtain ⟨n1, n2⟩ := nw (by rw [b]; decide)
    rw [n1, if_neg Bool.false_ne_true, n2, if_neg Bool.false_ne_true] at r0
    rw [n1] at s39
    rw [n2] at s40
    have sg : X12_sign (MM.1 0 6) MM = some (nI (tx p)) := by rw [h2, sign_c h5 (by omega), if_pos a0]
    unfold SGN at s
    rcases s with s | s | s | s | s | s | s | s | s | s | s <;> rw [s] at a sg <;> rw [a] at r0
    · exact ⟨6, r0, by omega, by omega, s39, s40, by rw [a]; rfl, by rw [a]; rfl, by rw [a]; rfl, fun _ => ⟨by omega, by rw [a]; decide, by rw [a]; decide⟩, fun _ => ⟨_, a, sg, by decide⟩⟩
    · exact ⟨0, r0, by omega, by omega, s39, s40, by rw [a]; rfl, by rw [a]; rfl, by rw [a]; rfl, fun y => absurd rfl y, fun y => by omega⟩
    · exact ⟨0, r0, by omega, by omega, s39, s40, by rw [a]; rfl, by rw [a]; rfl, by rw [a]; rfl, fun y => absurd rfl y, fun y => by omega⟩
    · exact ⟨6, r0, by omega, by omega, s39, s40, by rw [a]; rfl, by rw [a]; rfl, by rw [a]; rfl, fun _ => ⟨by omega, by rw [a]; decide, by rw [a]; decide⟩, fun _ => ⟨_, a, sg, by decide⟩⟩
    · exact ⟨5, r0, by omega, by omega, s39, s40, by rw [a]; rfl, by rw [a]; rfl, by rw [a]; rfl, fun _ => ⟨by omega, by rw [a]; decide, by rw [a]; decide⟩, fun _ => ⟨_, a, sg, by decide⟩⟩
    · exact ⟨5, r0, by omega, by omega, s39, s40, by rw [a]; rfl, by rw [a]; rfl, by rw [a]; rfl, fun _ => ⟨by omega, by rw [a]; decide, by rw [a]; decide⟩, fun _ => ⟨_, a, sg, by decide⟩⟩
    · exact ⟨6, r0, by omega, by omega, s39, s40, by rw [a]; rfl, by rw [a]; rfl, by rw [a]; rfl, fun _ => ⟨by omega, by rw [a]; decide, by rw [a]; decide⟩, fun _ => ⟨_, a, sg, by decide⟩⟩
    · exact ⟨0, r0, by omega, by omega, s39, s40, by rw [a]; rfl, by rw [a]; rfl, by rw [a]; rfl, fun y => absurd rfl y, fun y => by omega⟩
    · exact ⟨4, r0, by omega, by omega, s39, s40, by rw [a]; rfl, by rw [a]; rfl, by rw [a]; rfl, fun _ => ⟨by omega, by rw [a]; decide, by rw [a]; decide⟩, fun _ => ⟨_, a, sg, by decide⟩⟩
    · exact ⟨4, r0, by omega, by omega, s39, s40, by rw [a]; rfl, by rw [a]; rfl, by rw [a]; rfl, fun _ => ⟨by omega, by rw [a]; decide, by rw [a]; decide⟩, fun _ => ⟨_, a, sg, by decide⟩⟩
    · exact ⟨4, r0, by omega, by omega, s39, s40, by rw [a]; rfl, by rw [a]; rfl, by rw [a]; rfl, fun _ => ⟨by omega, by rw [a]; decide, by rw [a]; decide⟩, fun _ => ⟨_, a, sg, by decide⟩⟩
/-- turns of the reference's loop -/
theorem eU {M M' : Mem} {b : Bool} {B : Nat} (N : Nat) (hg : X12_isGood M = true) (h45 : M.1 0 45 = nI B) (h1 : 1 ≤ B) (h2 : B ≤ 90) (hu : X12_unit M = some (b, M')) : X12_e_L1 (N + 1) 1 M = X12_e_L1 N (b2i b) M' := by
  rw [X12_e_L1, if_pos hg, h45, if_neg (show ¬ nI B ≤ 0 from nI_ge (a := 0) (by omega) (by omega)), if_neg (show ¬ (1 : Int32) = 0 by decide), hu, bp_s, b2_s]
theorem eB {M M' : Mem} {b : Bool} {B : Nat} (N : Nat) (hg : X12_isGood M = true) (h45 : M.1 0 45 = nI B) (h1 : 1 ≤ B) (h2 : B ≤ 90) (hu : X12_behindUnit M = some (b, M')) : X12_e_L1 (N + 1) 0 M = X12_e_L1 N (b2i b) M' := by
  rw [X12_e_L1, if_pos hg, h45, if_neg (show ¬ nI B ≤ 0 from nI_ge (a := 0) (by omega) (by omega)), if_pos rfl, hu, bp_s, b2_s]
theorem eZ {MX M : Mem} (N : Nat) (c : Int32) (h : BD MX M) : X12_e_L1 (N + 1) c M = some M := by
  rw [X12_e_L1, h.bad, if_neg Bool.false_ne_true]
theorem eE {M : Mem} (N : Nat) (c : Int32) (hg : X12_isGood M = true) (h45 : M.1 0 45 = nI 0) : X12_e_L1 (N + 1) c M = some M := by
  rw [X12_e_L1, if_pos hg, h45, if_pos (by decide)]
