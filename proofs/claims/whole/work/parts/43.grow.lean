/-! ===== phase 2: growth ===== -/
theorem joined_two {s : Nat} (hs : s ∈ [43, 45, 42, 47, 37, 60, 62, 61, 38, 124]) (a c : Int32) : X1_joined (nI s) a c = X12_two (nI s) a c := by
  simp only [List.mem_cons, List.not_mem_nil, or_false] at hs
  unfold X1_joined X12_two
  rcases hs with rfl | rfl | rfl | rfl | rfl | rfl | rfl | rfl | rfl | rfl <;>
    simp (disch := omega) only [nlit, nI_eq, Nat.reduceEqDiff, ↓reduceIte]
theorem isLet_c {s : Nat} (h : s < 2 ^ 31) : X12_isLetter (nI s) = true ↔ 97 ≤ s ∧ s ≤ 122 := by
  unfold X12_isLetter
  simp (disch := omega) only [nlit, nI_ltI]
  by_cases h1 : s < 97
  · rw [if_pos h1]; simp; omega
  · rw [if_neg h1]
    by_cases h2 : 122 < s
    · rw [if_pos h2]; simp; omega
    · rw [if_neg h2]; simp; omega
theorem lk_0 (h : Int32) : lk h 0 = 0 := by
  unfold lk
  rw [Int32.zero_mul]
  rfl
theorem reach_c {MX : Mem} {q p : Nat} {y : Int32} (hq : q < 5) (hp : p < 5) : X3_reach 23 (nI q) (nI p) y MX = if q = p then y else lk (MX.1 26 (min q p)) y := by
  unfold X3_reach lk
  simp (disch := omega) only [nI_eq, nI_ltI]
  by_cases h : q = p
  · rw [if_pos h, if_pos h]
  · rw [if_neg h, if_neg h]
    have e : (if p < q then nI p else nI q) = nI (min q p) := by
      by_cases h2 : p < q
      · rw [if_pos h2, Nat.min_eq_right (by omega)]
      · rw [if_neg h2, Nat.min_eq_left (by omega)]
    rw [e, xc_in (by rw [show 23 + 3 = 26 from rfl, zlX_26]; omega)]
/-- the class's leaf k of plot p: what is over it, and by the rows of cell a -/
def LF (M : Mem) (o a p k : Nat) : Int32 := M.1 (o + 1) (15 + (3 * p + k)) + (if 0 < p then lk (M.1 26 (p - 1)) (M.1 a (3 * (p - 1) + k)) else 0) + M.1 a (3 * p + k) + (if p < 4 then lk (M.1 26 p) (M.1 a (3 * (p + 1) + k)) else 0)
/-- rows of hours: none below 0 -/
def NN (M : Mem) (a : Nat) : Prop := ∀ i, i < 15 → ∃ j, j < 2 ^ 31 ∧ M.1 a i = nI j
section GW
variable {MX : Mem} {a p k : Nat}
theorem gw_stop {n : Nat} {c : Int32} {q : Nat} (hp : p < 5) (hq : p + 1 < q) (hq2 : q < 9) : X9_growthWith_L2 a (nI p) (nI k) MX (n + 1) c (nI q) = some c := by
  rw [X9_growthWith_L2]
  simp (disch := omega) only [nlit, nI_add, nI_ltI]
  rw [if_pos hq]
theorem gw_st {n : Nat} {c : Int32} {q : Nat} (hz : zlen zTX a = 15) (hp : p < 5) (hk : k < 3) (hn : NN MX a) (hq : q < 5) (hqp : q ≤ p + 1) : X9_growthWith_L2 a (nI p) (nI k) MX (n + 1) c (nI q) = X9_growthWith_L2 a (nI p) (nI k) MX n (c + if q = p then MX.1 a (3 * q + k) else lk (MX.1 26 (min q p)) (MX.1 a (3 * q + k))) (nI (q + 1)) := by
  rw [X9_growthWith_L2]
  rw [show nI p + 1 = nI (p + 1) from nI_add p 1, if_neg (nI_nlt hqp (by omega)), show nI q * 3 = nI (q * 3) from nI_mul q 3, nI_add, xc_in (by omega), Nat.mul_comm q 3]
  obtain ⟨j, hj, e⟩ := hn (3 * q + k) (by omega)
  simp only [lt_e, l1_s, e]
  rw [show nI q + 1 = nI (q + 1) from nI_add q 1]
  rcases Nat.eq_zero_or_pos j with rfl | h
  · rw [if_pos (by decide), nI_0, lk_0]
    congr 1
    split <;> rw [Int32.add_zero]
  · rw [if_neg (nI_nle h hj), reach_c hq hp]
theorem gw_out {n : Nat} {c : Int32} (hz : zlen zTX a = 15) (hk : k < 3) : X9_growthWith_L2 a (nI 4) (nI k) MX (n + 1) c (nI 5) = X9_growthWith_L2 a (nI 4) (nI k) MX n c (nI 6) := by
  rw [X9_growthWith_L2]
  rw [show nI 4 + 1 = nI 5 from nI_add 4 1, if_neg (nI_nlt (by omega) (by omega)), show nI 5 * 3 = nI (5 * 3) from nI_mul 5 3, nI_add, xc_out (by omega) (by omega)]
  rw [lt_e, if_pos (by decide), l1_s]
  rfl
theorem gw_first {n : Nat} {c : Int32} (hk : k < 3) : X9_growthWith_L2 a (nI 0) (nI k) MX (n + 1) c (-1) = X9_growthWith_L2 a (nI 0) (nI k) MX n c (nI 0) := by
  rw [X9_growthWith_L2]
  have h : (-1 : Int32) * 3 + nI k < 0 := by
    rcases (by omega : k = 0 ∨ k = 1 ∨ k = 2) with rfl | rfl | rfl <;> decide
  rw [if_neg (by decide), xc_neg h, lt_e, if_pos (by decide), l1_s]
  rfl
theorem gw_L2 (hz : zlen zTX a = 15) (hp : p < 5) (hk : k < 3) (hn : NN MX a) (c : Int32) :
    X9_growthWith_L2 a (nI p) (nI k) MX zFU c (nI p - 1) = some (c + (if 0 < p then lk (MX.1 26 (p - 1)) (MX.1 a (3 * (p - 1) + k)) else 0) + MX.1 a (3 * p + k) + (if p < 4 then lk (MX.1 26 p) (MX.1 a (3 * (p + 1) + k)) else 0)) := by
  obtain ⟨n, hn4⟩ := zFU_s 4 (by omega)
  rw [hn4, show n + 4 = n + 3 + 1 from rfl]
  by_cases h0 : p = 0
  · subst h0
    rw [show nI 0 - 1 = -1 by decide, gw_first hk, show n + 3 = n + 2 + 1 from rfl, gw_st hz hp hk hn (by omega) (by omega), show n + 2 = n + 1 + 1 from rfl, gw_st hz hp hk hn (by omega) (by omega), gw_stop hp (by omega) (by omega)]
    simp
  · rw [show nI p - 1 = nI (p - 1) from nI_sub (a := p) (b := 1) (by omega), gw_st hz hp hk hn (by omega) (by omega), show n + 3 = n + 2 + 1 from rfl, show p - 1 + 1 = p by omega, gw_st hz hp hk hn (by omega) (by omega), show n + 2 = n + 1 + 1 from rfl]
    by_cases h4 : p = 4
    · subst h4
      rw [gw_out hz hk, gw_stop hp (by omega) (by omega)]
      simp
    · rw [gw_st hz hp hk hn (by omega) (by omega), gw_stop hp (by omega) (by omega), if_neg (by omega), if_pos rfl, if_neg (by omega), if_pos (by omega), if_pos (by omega), Nat.min_eq_left (by omega), Nat.min_eq_right (by omega)]
theorem NN.fr {M M' : Mem} {S : Nat → Nat → Prop} (h : NN M a) (f : Fr S M M') (hs : ∀ i, ¬ S a i) : NN M' a := fun i hi => by
  rw [f.2 a i (hs i)]
  exact h i hi
theorem LF.fr {M M' : Mem} {o : Nat} {S : Nat → Nat → Prop} (f : Fr S M M') (h1 : ∀ i, ¬ S (o + 1) i) (h2 : ∀ i, ¬ S a i) (h3 : ∀ i, ¬ S 26 i) : LF M' o a p k = LF M o a p k := by
  unfold LF
  simp only [f.2 _ _ (h1 _), f.2 _ _ (h2 _), f.2 _ _ (h3 _)]
theorem gw_L1 {o n : Nat} {M : Mem} (ho : o = 35 ∨ o = 42) (hz : zlen zTX a = 15) (hp : p < 5) (hk : k < 3) (hn : NN M a) : X9_growthWith_L1 o a (nI p) (n + 1) (nI k) M = X9_growthWith_L1 o a (nI p) n (nI (k + 1)) (uI M (o + 2) k (LF M o a p k)) := by
  rw [X9_growthWith_L1]
  have hz2 : zlen zTX (o + 2) = 6 := by rcases ho with rfl | rfl <;> first | exact zlX_37 | exact zlX_44
  rw [show (3 : Int32) = nI 3 from rfl, if_neg (nI_ge hk (by omega)), overAt_c ho hp hk, lt_e, gw_L2 hz hp hk hn, b1_s, show (0 : Int32) + nI k = nI k from Int32.zero_add _, xp_in (by omega), lt_e, show nI k + 1 = nI (k + 1) from nI_add k 1]
  rfl
end GW
theorem gw_x {MX : Mem} {o a p : Nat} (ho : o = 35 ∨ o = 42) (hz : zlen zTX a = 15) (ha : a ≠ 37 ∧ a ≠ 44) (hp : p < 5) (hn : NN MX a) : ∃ M1 : Mem, X9_growthWith o a (nI p) MX = (bp_ (X1_worth 32 (o + 2) M1) fun v14 M15 =>
      some ((if (-20) < (if v14 < 20 then v14 else 20) then (if v14 < 20 then v14 else 20) else (-20)), M15)) ∧ Fr (fun x _ => x = o + 2) MX M1 ∧ (∀ k, k < 3 → M1.1 (o + 2) k = LF MX o a p k) ∧ M1.1 (o + 2) 3 = MX.1 (o + 1) (30 + p) ∧ M1.1 (o + 2) 4 = MX.1 (o + 1) 40 ∧ M1.1 (o + 2) 5 = nI p := by
  have hz2 : zlen zTX (o + 2) = 6 := by rcases ho with rfl | rfl <;> first | exact zlX_37 | exact zlX_44
  have hao : a ≠ o + 2 := by omega
  obtain ⟨n, hn4⟩ := zFU_s 4 (by omega)
  have f1 : Fr (fun x _ => x = o + 2) MX (uI MX (o + 2) 0 (LF MX o a p 0)) := Fr.rf.up _ rfl
  have f2 : Fr (fun x _ => x = o + 2) MX (uI (uI MX (o + 2) 0 (LF MX o a p 0)) (o + 2) 1 (LF MX o a p 1)) := f1.up _ rfl
  have f3 : Fr (fun x _ => x = o + 2) MX (uI (uI (uI MX (o + 2) 0 (LF MX o a p 0)) (o + 2) 1 (LF MX o a p 1)) (o + 2) 2 (LF MX o a p 2)) := f2.up _ rfl
  have f4 := f3.up (MX.1 (o + 1) (30 + p)) (k := o + 2) (i := 3) rfl
  have f5 := f4.up (MX.1 (o + 1) 40) (k := o + 2) (i := 4) rfl
  have f6 := f5.up (nI p) (k := o + 2) (i := 5) rfl
  refine ⟨_, ?_, f6, ?_, ?_, ?_, ?_⟩
  · unfold X9_growthWith
    rw [hn4, show n + 4 = n + 3 + 1 from rfl, show (0 : Int32) = nI 0 from rfl, gw_L1 ho hz hp (by omega) hn, show n + 3 = n + 2 + 1 from rfl, gw_L1 ho hz hp (by omega) (hn.fr f1 (fun _ => hao)), LF.fr f1 (fun _ => by omega) (fun _ => hao) (fun _ => by omega), show n + 2 = n + 1 + 1 from rfl, gw_L1 ho hz hp (by omega) (hn.fr f2 (fun _ => hao)), LF.fr f2 (fun _ => by omega) (fun _ => hao) (fun _ => by omega)]
    rw [X9_growthWith_L1, if_pos (by decide), b1_s, cropOf_c ho hp, f3.2 _ _ (by omega)]
    rw [show (3 : Int32) = nI 3 from rfl, xp_in (by omega), lt_e, weekNow_c ho, f4.2 _ _ (by omega), show (4 : Int32) = nI 4 from rfl, xp_in (by omega), lt_e, show (5 : Int32) = nI 5 from rfl, xp_in (by omega), lt_e]
  · intro k hk
    rcases (by omega : k = 0 ∨ k = 1 ∨ k = 2) with rfl | rfl | rfl <;> simp [uI_g]
  · simp [uI_g]
  · simp [uI_g]
  · simp [uI_g]
theorem asked_c {MM : Mem} {p j : Nat} {n : Int32} (hj : j < 6) (hm : MM.1 0 47 = nI p) (hp : p < 5) {g : Nat → Int32} (h0 : X12_overOf (nI p) (nI 0) MM = some (g 0)) (h1 : X12_overOf (nI p) (nI 1) MM = some (g 1)) (h2 : X12_overOf (nI p) (nI 2) MM = some (g 2)) (h3 : MM.1 33 (15 + p) = g 3) (h4 : MM.1 33 40 = g 4) (h5 : nI p = g 5) : X12_asked (nI (zLet j)) n MM = some (g j) := by
  unfold X12_asked
  rw [hm]
  rcases (by omega : j = 0 ∨ j = 1 ∨ j = 2 ∨ j = 3 ∨ j = 4 ∨ j = 5) with rfl | rfl | rfl | rfl | rfl | rfl
  · rw [show nI (zLet 0) = 102 from rfl, if_neg (by decide), if_pos rfl]; exact (congrArg (fun x => bo_ x fun v4 => some v4) h0)
  · rw [show nI (zLet 1) = 115 from rfl, if_neg (by decide), if_neg (by decide), if_neg (by decide), if_pos rfl]; exact (congrArg (fun x => bo_ x fun v4 => some v4) h1)
  · rw [show nI (zLet 2) = 116 from rfl, if_neg (by decide), if_neg (by decide), if_neg (by decide), if_neg (by decide), if_pos rfl]; exact (congrArg (fun x => bo_ x fun v4 => some v4) h2)
  · rw [show nI (zLet 3) = 99 from rfl, if_pos rfl, show (15 : Int32) + nI p = nI (15 + p) from nI_add 15 p, gd_in (by omega) (by omega), nI_clamp (by omega), h3]
  · rw [show nI (zLet 4) = 119 from rfl, if_neg (by decide), if_neg (by decide), if_neg (by decide), if_neg (by decide), if_neg (by decide), if_pos rfl, h4]
  · rw [show nI (zLet 5) = 112 from rfl, if_neg (by decide), if_neg (by decide), if_pos rfl, h5]
theorem asked_n {MM : Mem} {n : Int32} : X12_asked (nI 110) n MM = some n := by
  unfold X12_asked
  rw [if_neg (by decide), if_neg (by decide), if_neg (by decide), if_neg (by decide), if_neg (by decide), if_neg (by decide)]
