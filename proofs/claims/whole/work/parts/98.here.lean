/-! ===== phase 2: the token that both sides stand at ===== -/
def SGN (c : Nat) : Prop := c = 37 ∨ c = 40 ∨ c = 41 ∨ c = 42 ∨ c = 43 ∨ c = 45 ∨ c = 47 ∨ c = 59 ∨ c = 60 ∨ c = 61 ∨ c = 62
/-- the token from p to q, n bytes of text -/
def TOK (MX MM : Mem) (n : Nat) (tx : Nat → Nat) (p q : Nat) : Prop :=
  (p = n ∧ q = n ∧ MX.1 16 1 = nI 0 ∧ MM.1 0 8 = nI 0) ∨
  (p < q ∧ q ≤ n ∧ MX.1 16 1 = nI 1 ∧ MM.1 0 8 = nI 1) ∨
  (WRD tx n p q ∧ MX.1 16 1 = nI 2 ∧ MX.2 16 2 = nL (bb 27 (fun i => tx (p + i) - 96) (q - p)) ∧ MM.2 0 10 = nL (bb 256 (fun i => tx (p + i)) (q - p)) ∧ ((KEPT tx p q ∧ MM.1 0 8 = nI 3) ∨ (¬ KEPT tx p q ∧ MM.1 0 8 = nI 2))) ∨
  (p < q ∧ q ≤ n ∧ MX.1 16 1 = nI 3 ∧ MM.1 0 8 = nI 4 ∧ ∃ v, v ≤ 9999 ∧ MX.1 16 3 = nI v ∧ MM.1 0 9 = nI v) ∨
  (p < n ∧ q = p + 1 ∧ SGN (tx p) ∧ MX.1 16 1 = nI (tx p) ∧ MM.1 0 8 = nI 5)
/-- where both sides stand -/
def AT (MX MM : Mem) (n : Nat) (tx : Nat → Nat) (p q : Nat) : Prop := MX.1 16 7 = nI p ∧ MM.1 0 6 = nI p ∧ MX.1 16 8 = nI q ∧ MM.1 0 7 = nI q ∧ TX MX MM n tx ∧ TOK MX MM n tx p q
theorem TOK.le {MX MM : Mem} {n : Nat} {tx : Nat → Nat} {p q : Nat} (h : TOK MX MM n tx p q) : p ≤ q ∧ q ≤ n := by
  rcases h with ⟨h1, h2, _⟩ | ⟨h1, h2, _⟩ | ⟨h1, _⟩ | ⟨h1, h2, _⟩ | ⟨h1, h2, _⟩
  · omega
  · omega
  · have := h1.1; have := h1.2.1; omega
  · omega
  · omega
theorem isWord_l {M : Mem} {x : Int64} : X12_isWord x M = true ↔ M.1 0 8 = 3 ∧ M.2 0 10 = x := by
  unfold X12_isWord
  by_cases h : M.1 0 8 = 3
  · rw [if_pos h]
    by_cases z : lg_cmp (M.2 0 10) x = 0
    · rw [if_pos z]; exact ⟨fun _ => ⟨h, lgz.mp z⟩, fun _ => rfl⟩
    · rw [if_neg z]; exact ⟨fun y => absurd y Bool.false_ne_true, fun y => absurd (lgz.mpr y.2) z⟩
  · rw [if_neg h]; exact ⟨fun y => absurd y Bool.false_ne_true, fun y => absurd y.1 h⟩
/-- both sides see the same word -/
theorem word_c {MX MM : Mem} {n : Nat} {tx : Nat → Nat} {p q w : Nat} (h : AT MX MM n tx p q) (hw : w < 43) : X6_says w MX = some (X12_isWord (WC w) MM) := by
  obtain ⟨h1, h2, h3, h4, h5, h6⟩ := h
  have hn := h5.1
  obtain ⟨l1, l2⟩ := h6.le
  obtain ⟨t, e, g⟩ := says_c h5 hw h1 h3 l1 l2
  rw [e]
  congr 1
  rw [Bool.eq_iff_iff, g, isWord_l]
  rcases h6 with ⟨_, _, a, b⟩ | ⟨_, _, a, b⟩ | ⟨hW, a, _, b, c⟩ | ⟨_, _, a, b, _⟩ | ⟨a0, _, s, a, b⟩
  · rw [a, b]; exact ⟨fun y => absurd y.1 (by decide), fun y => absurd y.1 (by decide)⟩
  · rw [a, b]; exact ⟨fun y => absurd y.1 (by decide), fun y => absurd y.1 (by decide)⟩
  · rw [a, b, ← say_L hW hw]
    constructor
    · rintro ⟨_, y⟩
      refine ⟨?_, y⟩
      rcases c with ⟨_, c⟩ | ⟨c1, _⟩
      · rw [c]; rfl
      · exfalso
        obtain ⟨w', k1, k2, k3⟩ := kept_w ⟨w, hw⟩
        simp only at k2 k3
        have hl := (kc_fin ⟨w, hw⟩).1
        simp only at hl
        exact c1 ⟨w'.1, k1, by omega, by rw [y.1, k2], fun i hi => by
          have hi2 : i < slen w := by omega
          have e3 : kc w'.1 i = kc w i := k3 ⟨i, by omega⟩ hi2
          rw [e3]
          exact y.2 i hi2⟩
    · rintro ⟨_, y⟩
      exact ⟨rfl, y⟩
  · rw [a, b]; exact ⟨fun y => absurd y.1 (by decide), fun y => absurd y.1 (by decide)⟩
  · rw [a, b]
    refine ⟨fun y => ?_, fun y => absurd y.1 (by decide)⟩
    have := (nI_eq (a := tx p) (b := 2) (by have := (h5.2.2.2 p a0).1; omega) (by omega)).mp y.1
    unfold SGN at s
    omega
theorem or2n {b c : Bool} {R : Option Int32} : b1_ (if b = true then some true else if c = true then some true else some false) (fun t => if t = true then some 1 else R) = if (b || c) = true then some 1 else R := by cases b <;> cases c <;> rfl
theorem or3n {b c : Bool} {R : Option Int32} : (if b = true then some 1 else if c = true then some 1 else R) = if (b || c) = true then some 1 else R := by cases b <;> cases c <;> rfl
theorem b1if {b : Bool} {f : Int32 → Option Bool} : b1_ (if b = true then some 1 else some 0) f = f (if b = true then 1 else 0) := by cases b <;> rfl
theorem isName_c {MX MM : Mem} {n : Nat} {tx : Nat → Nat} {p q : Nat} (h : AT MX MM n tx p q) : ∃ t : Bool, X6_isName MX = some t ∧ (t = true ↔ MM.1 0 8 = 2) := by
  obtain ⟨h1, h2, h3, h4, h5, h6⟩ := id h
  obtain ⟨l1, l2⟩ := h6.le
  have s : ∀ w, w < 43 → ∃ t : Bool, X6_says w MX = some t ∧ (t = true ↔ MX.1 16 1 = 2 ∧ SAY tx p q w) := fun w hw => says_c h5 hw h1 h3 l1 l2
  obtain ⟨t1, e1, g1⟩ := s 1 (by omega)
  obtain ⟨t2, e2, g2⟩ := s 2 (by omega)
  obtain ⟨t3, e3, g3⟩ := s 3 (by omega)
  obtain ⟨t4, e4, g4⟩ := s 4 (by omega)
  obtain ⟨t5, e5, g5⟩ := s 5 (by omega)
  obtain ⟨t6, e6, g6⟩ := s 6 (by omega)
  obtain ⟨t7, e7, g7⟩ := s 7 (by omega)
  obtain ⟨t8, e8, g8⟩ := s 8 (by omega)
  obtain ⟨t9, e9, g9⟩ := s 9 (by omega)
  obtain ⟨t10, e10, g10⟩ := s 10 (by omega)
  obtain ⟨t11, e11, g11⟩ := s 11 (by omega)
  obtain ⟨t12, e12, g12⟩ := s 12 (by omega)
  obtain ⟨t13, e13, g13⟩ := s 13 (by omega)
  obtain ⟨t14, e14, g14⟩ := s 14 (by omega)
  obtain ⟨t15, e15, g15⟩ := s 15 (by omega)
  obtain ⟨t16, e16, g16⟩ := s 16 (by omega)
  obtain ⟨t17, e17, g17⟩ := s 17 (by omega)
  obtain ⟨t18, e18, g18⟩ := s 18 (by omega)
  obtain ⟨t19, e19, g19⟩ := s 19 (by omega)
  obtain ⟨t20, e20, g20⟩ := s 20 (by omega)
  obtain ⟨t21, e21, g21⟩ := s 21 (by omega)
  have key : X6_isName MX = some (decide (MX.1 16 1 = 2) && !(t1 || t2 || t3 || t4 || t5 || t6 || t7 || t8 || t9 || t10 || t11 || t12 || t13) && !(t14 || t15 || t16 || t17 || t18 || t19 || t20 || t21)) := by
    unfold X6_isName
    simp only [e1, e2, e3, e4, e5, e6, e7, e8, e9, e10, e11, e12, e13, e14, e15, e16, e17, e18, e19, e20, e21, bo_s]
    clear e1 e2 e3 e4 e5 e6 e7 e8 e9 e10 e11 e12 e13 e14 e15 e16 e17 e18 e19 e20 e21 g1 g2 g3 g4 g5 g6 g7 g8 g9 g10 g11 g12 g13 g14 g15 g16 g17 g18 g19 g20 g21 s
    simp only [or2n]
    simp only [or3n, b1if, Bool.or_assoc]
    generalize (t1 || (t2 || (t3 || (t4 || (t5 || (t6 || (t7 || (t8 || (t9 || (t10 || (t11 || (t12 || t13)))))))))))) = X1
    generalize (t14 || (t15 || (t16 || (t17 || (t18 || (t19 || (t20 || t21))))))) = X2
    by_cases z : MX.1 16 1 = 2
    · rw [if_pos z, decide_eq_true z]
      cases X1 <;> cases X2 <;> rfl
    · rw [if_neg z, decide_eq_false z]
      rfl
  refine ⟨_, key, ?_⟩
  simp only [Bool.and_eq_true, Bool.not_eq_true', decide_eq_true_eq, ← Bool.not_eq_true, Bool.or_eq_true, not_or, g1, g2, g3, g4, g5, g6, g7, g8, g9, g10, g11, g12, g13, g14, g15, g16, g17, g18, g19, g20, g21]
  have fin : (MX.1 16 1 = 2 ∧ ¬ KEPT tx p q) ↔ MM.1 0 8 = 2 := by
    rcases h6 with ⟨_, _, a, b⟩ | ⟨_, _, a, b⟩ | ⟨hW, a, _, b, c⟩ | ⟨_, _, a, b, _⟩ | ⟨a0, _, s, a, b⟩
    · rw [a, b]; exact ⟨fun y => absurd y.1 (by decide), fun y => absurd y (by decide)⟩
    · rw [a, b]; exact ⟨fun y => absurd y.1 (by decide), fun y => absurd y (by decide)⟩
    · rw [a]
      rcases c with ⟨c1, c⟩ | ⟨c1, c⟩
      · rw [c]; exact ⟨fun y => absurd c1 y.2, fun y => absurd y (by decide)⟩
      · rw [c]; exact ⟨fun _ => rfl, fun _ => ⟨rfl, c1⟩⟩
    · rw [a, b]; exact ⟨fun y => absurd y.1 (by decide), fun y => absurd y (by decide)⟩
    · rw [a, b]
      refine ⟨fun y => ?_, fun y => absurd y (by decide)⟩
      have := (nI_eq (a := tx p) (b := 2) (by have := (h5.2.2.2 p a0).1; omega) (by omega)).mp y.1
      unfold SGN at s
      omega
  rw [← fin]
  unfold KEPT
  constructor
  · rintro ⟨⟨y, k1⟩, k2⟩
    refine ⟨y, ?_⟩
    rintro ⟨w, w1, w2, w3⟩
    rcases (by omega : w = 1 ∨ w = 2 ∨ w = 3 ∨ w = 4 ∨ w = 5 ∨ w = 6 ∨ w = 7 ∨ w = 8 ∨ w = 9 ∨ w = 10 ∨ w = 11 ∨ w = 12 ∨ w = 13 ∨ w = 14 ∨ w = 15 ∨ w = 16 ∨ w = 17 ∨ w = 18 ∨ w = 19 ∨ w = 20 ∨ w = 21) with rfl | rfl | rfl | rfl | rfl | rfl | rfl | rfl | rfl | rfl | rfl | rfl | rfl | rfl | rfl | rfl | rfl | rfl | rfl | rfl | rfl
    all_goals simp [y, w3] at k1 k2
  · rintro ⟨y, k⟩
    have kk : ∀ w, 1 ≤ w → w ≤ 21 → ¬ SAY tx p q w := fun w w1 w2 z => k ⟨w, w1, w2, z⟩
    simp only [kk 1 (by omega) (by omega), kk 2 (by omega) (by omega), kk 3 (by omega) (by omega), kk 4 (by omega) (by omega), kk 5 (by omega) (by omega), kk 6 (by omega) (by omega), kk 7 (by omega) (by omega), kk 8 (by omega) (by omega), kk 9 (by omega) (by omega), kk 10 (by omega) (by omega), kk 11 (by omega) (by omega), kk 12 (by omega) (by omega), kk 13 (by omega) (by omega), kk 14 (by omega) (by omega), kk 15 (by omega) (by omega), kk 16 (by omega) (by omega), kk 17 (by omega) (by omega), kk 18 (by omega) (by omega), kk 19 (by omega) (by omega), kk 20 (by omega) (by omega), kk 21 (by omega) (by omega), not_false_eq_true, and_self, and_false, y]
/-- both sides see the same sign -/
theorem sgn_c {MX MM : Mem} {n : Nat} {tx : Nat → Nat} {p q c : Nat} (h : AT MX MM n tx p q) (hc : SGN c) : X12_isSignHere (nI c) MM = some (decide (MX.1 16 1 = nI c)) := by
  obtain ⟨h1, h2, h3, h4, h5, h6⟩ := id h
  have hn := h5.1
  have no : ∀ k, k ≤ 4 → MX.1 16 1 = nI k → ¬ MX.1 16 1 = nI c := fun k hk e y => by
    have := (nI_eq (a := k) (b := c) (by omega) (by unfold SGN at hc; omega)).mp (e.symm.trans y)
    unfold SGN at hc
    omega
  unfold X12_isSignHere
  rcases h6 with ⟨_, _, a, b⟩ | ⟨_, _, a, b⟩ | ⟨hW, a, _, b, c'⟩ | ⟨_, _, a, b, _⟩ | ⟨a0, _, s, a, b⟩
  · rw [b, if_neg (by decide), decide_eq_false (no 0 (by omega) a)]
  · rw [b, if_neg (by decide), decide_eq_false (no 1 (by omega) a)]
  · rw [decide_eq_false (no 2 (by omega) a)]
    rcases c' with ⟨_, e⟩ | ⟨_, e⟩
    · rw [e, if_neg (by decide)]
    · rw [e, if_neg (by decide)]
  · rw [b, if_neg (by decide), decide_eq_false (no 3 (by omega) a)]
  · rw [b, if_pos (show nI 5 = 5 from rfl), h2, sign_c h5 (by omega), if_pos a0, bo_s, a]
    by_cases z : nI (tx p) = nI c
    · rw [if_pos z, decide_eq_true z]
    · rw [if_neg z, decide_eq_false z]
