/-! ===== phase 2: the text, its letters, its words ===== -/
def nL (n : Nat) : Int64 := Int64.ofNat n
theorem nL_inj {a b : Nat} (ha : a < 2 ^ 63) (hb : b < 2 ^ 63) : nL a = nL b ↔ a = b := by
  constructor
  · intro h
    have := congrArg (fun x => x.toBitVec.toNat) h
    simp only [nL, Int64.toBitVec_ofNat', BitVec.toNat_ofNat] at this
    omega
  · intro h; rw [h]
theorem lgz {x y : Int64} : lg_cmp x y = 0 ↔ x = y := by
  unfold lg_cmp
  by_cases h : x > y
  · rw [if_pos h]
    exact ⟨fun q => absurd q (by decide), fun q => by rw [q] at h; exact absurd h (Int64.lt_irrefl)⟩
  · rw [if_neg h]
    by_cases q : x = y
    · rw [if_pos q]; exact ⟨fun _ => q, fun _ => rfl⟩
    · rw [if_neg q]; exact ⟨fun w => absurd w (by decide), fun w => absurd w q⟩
theorem nI_L {c : Nat} (hc : c < 256) : (nI c).toInt64 = nL c := by
  have : ∀ c : Fin 256, (nI c.1).toInt64 = nL c.1 := by decide +kernel
  exact this ⟨c, hc⟩
theorem nL_push {z c : Nat} (hz : z < 2 ^ 55) (hc : c < 256) : ((nL z) <<< ((8 : Int32).toInt64 &&& 63)) ||| (nI c).toInt64 = nL (z * 256 + c) := by
  rw [nI_L hc, show ((8 : Int32).toInt64 &&& 63) = 8 by decide]
  apply Int64.toBitVec_inj.mp
  apply BitVec.eq_of_toNat_eq
  have e : z * 256 + c = z <<< 8 ||| c := by
    rw [← Nat.shiftLeft_add_eq_or_of_lt (i := 8) (by omega), Nat.shiftLeft_eq]
  rw [e]
  simp [nL, Int64.toBitVec_or, Int64.toBitVec_shiftLeft]
  rw [Nat.mod_eq_of_lt (show z < 18446744073709551616 by omega)]
theorem nL_27 {z c : Nat} (h1 : 97 ≤ c) (hc : c < 256) : ((nL z) * 27) + (((nI c - 97) + 1).toInt64) = nL (z * 27 + (c - 96)) := by
  have e : (nI c - 97) + 1 = nI (c - 96) := by
    rw [show nI c - 97 = nI (c - 97) from nI_sub (b := 97) h1, show nI (c - 97) + 1 = nI (c - 97 + 1) from nI_add _ 1]
    congr 1
    omega
  rw [e, nI_L (by omega)]
  unfold nL
  rw [Int64.ofNat_add, Int64.ofNat_mul]
  rfl
def bb (B : Nat) (f : Nat → Nat) : Nat → Nat
  | 0 => 0
  | k + 1 => bb B f k * B + f k
theorem bb_cg {B : Nat} {f g : Nat → Nat} : ∀ k, (∀ i, i < k → f i = g i) → bb B f k = bb B g k
  | 0, _ => rfl
  | k + 1, h => by
    show bb B f k * B + f k = bb B g k * B + g k
    rw [bb_cg k (fun i hi => h i (by omega)), h k (by omega)]
theorem bb_inj {B : Nat} {f g : Nat → Nat} : ∀ k k', (∀ i, i < k → 0 < f i ∧ f i < B) → (∀ i, i < k' → 0 < g i ∧ g i < B) → bb B f k = bb B g k' → k = k' ∧ ∀ i, i < k → f i = g i
  | 0, 0, _, _, _ => ⟨rfl, fun i hi => by omega⟩
  | 0, k' + 1, _, hg, h => by
    have := (hg k' (by omega)).1
    have h : 0 = bb B g k' * B + g k' := h
    omega
  | k + 1, 0, hf, _, h => by
    have := (hf k (by omega)).1
    have h : bb B f k * B + f k = 0 := h
    omega
  | k + 1, k' + 1, hf, hg, h => by
    have h : bb B f k * B + f k = bb B g k' * B + g k' := h
    have a1 := hf k (by omega)
    have a2 := hg k' (by omega)
    have m1 : (bb B f k * B + f k) % B = f k := by rw [Nat.mul_comm, Nat.mul_add_mod, Nat.mod_eq_of_lt a1.2]
    have m2 : (bb B g k' * B + g k') % B = g k' := by rw [Nat.mul_comm, Nat.mul_add_mod, Nat.mod_eq_of_lt a2.2]
    have e1 : f k = g k' := by rw [← m1, ← m2, h]
    have e2 : bb B f k = bb B g k' := Nat.eq_of_mul_eq_mul_right (show 0 < B by omega) (by omega)
    obtain ⟨r1, r2⟩ := bb_inj k k' (fun i hi => hf i (by omega)) (fun i hi => hg i (by omega)) e2
    subst r1
    refine ⟨rfl, fun i hi => ?_⟩
    by_cases z : i = k
    · rw [z]; exact e1
    · exact r2 i (by omega)
theorem bb_256 {f : Nat → Nat} : ∀ k, (∀ i, i < k → f i < 128) → 2 * bb 256 f k < 256 ^ k
  | 0, _ => by show 2 * 0 < 1; omega
  | k + 1, h => by
    have := bb_256 k (fun i hi => h i (by omega))
    have := h k (by omega)
    show 2 * (bb 256 f k * 256 + f k) < 256 ^ (k + 1)
    rw [Nat.pow_succ]
    omega
theorem bb_27 {f : Nat → Nat} : ∀ k, (∀ i, i < k → f i < 27) → bb 27 f k < 27 ^ k
  | 0, _ => by show 0 < 1; omega
  | k + 1, h => by
    have := bb_27 k (fun i hi => h i (by omega))
    have := h k (by omega)
    show bb 27 f k * 27 + f k < 27 ^ (k + 1)
    rw [Nat.pow_succ]
    omega
/-- the letters of the class's words -/
def kc (w i : Nat) : Nat := (sch w i).toNatClampNeg
theorem kc_fin : ∀ w : Fin 43, slen w.1 ≤ 8 ∧ 0 < slen w.1 ∧ ∀ i : Fin 8, i.1 < slen w.1 → sch w.1 i.1 = nI (kc w.1 i.1) ∧ 97 ≤ kc w.1 i.1 ∧ kc w.1 i.1 ≤ 122 := by decide +kernel
theorem kc_c {w i : Nat} (hw : w < 43) (hi : i < slen w) : sch w i = nI (kc w i) ∧ 97 ≤ kc w i ∧ kc w i ≤ 122 := by
  have := kc_fin ⟨w, hw⟩
  exact this.2.2 ⟨i, by have := this.1; simp only at this; omega⟩ hi
/-- the text: n bytes -/
def TX (MX MM : Mem) (n : Nat) (tx : Nat → Nat) : Prop := n ≤ 1600 ∧ MX.1 1 1 = nI n ∧ MM.1 0 3 = nI n ∧ ∀ i, i < n → tx i < 256 ∧ (MX.1 2 i) &&& 255 = nI (tx i) ∧ (MM.1 2 i) &&& 255 = nI (tx i)
theorem byteAt_c {MX MM : Mem} {n i : Nat} {tx : Nat → Nat} (h : TX MX MM n tx) (hi : i < 2 ^ 31) : X10_byteAt (nI i) MX = if i < n then nI (tx i) else -1 := by
  obtain ⟨h1, h2, h3, h4⟩ := h
  unfold X10_byteAt
  rw [if_neg (nI_pos hi), h2]
  by_cases z : i < n
  · rw [if_neg (nI_ge z (by omega)), if_neg (show ¬ (1600 : Int32) ≤ nI i from nI_ge (b := 1600) (by omega) (by omega)), if_pos z, nI_clamp hi]
    exact (h4 i z).2.1
  · rw [if_pos (nI_le (by omega) hi), if_neg z]
theorem sign_c {MX MM : Mem} {n i : Nat} {tx : Nat → Nat} (h : TX MX MM n tx) (hi : i < 2 ^ 31) : X12_sign (nI i) MM = some (if i < n then nI (tx i) else 0) := by
  obtain ⟨h1, h2, h3, h4⟩ := h
  unfold X12_sign
  rw [h3]
  by_cases z : i < n
  · rw [if_neg (nI_ge z (by omega)), gd_in (by omega) hi, if_pos z, nI_clamp hi]
    exact congrArg some (h4 i z).2.2
  · rw [if_pos (nI_le (by omega) hi), if_neg z]
def LT (c : Nat) : Prop := 97 ≤ c ∧ c ≤ 122
def DG (c : Nat) : Prop := 48 ≤ c ∧ c ≤ 57
theorem letter_fin : ∀ c : Fin 256, (X6_isLetter (nI c.1) = decide (97 ≤ c.1 ∧ c.1 ≤ 122)) ∧ (X12_isLetter (nI c.1) = decide (97 ≤ c.1 ∧ c.1 ≤ 122)) ∧ (X6_isDigit (nI c.1) = decide (48 ≤ c.1 ∧ c.1 ≤ 57)) ∧ (X12_isDigit (nI c.1) = decide (48 ≤ c.1 ∧ c.1 ≤ 57)) ∧ (X6_isBlank (nI c.1) = decide (c.1 = 32 ∨ c.1 = 10)) ∧ X6_isSign (nI c.1) = X12_isSign (nI c.1) := by decide +kernel
theorem letter_m1 : X6_isLetter (-1) = false ∧ X12_isLetter 0 = false ∧ X6_isDigit (-1) = false ∧ X12_isDigit 0 = false := by decide
/-- the token from p to q says word w -/
def SAY (tx : Nat → Nat) (p q w : Nat) : Prop := q - p = slen w ∧ ∀ i, i < slen w → tx (p + i) = kc w i
def KEPT (tx : Nat → Nat) (p q : Nat) : Prop := ∃ w, 1 ≤ w ∧ w ≤ 21 ∧ SAY tx p q w
def WRD (tx : Nat → Nat) (n p q : Nat) : Prop := p < q ∧ q ≤ n ∧ q - p ≤ 8 ∧ ∀ i, i < q - p → 97 ≤ tx (p + i) ∧ tx (p + i) ≤ 122
theorem say_256 {tx : Nat → Nat} {n p q w : Nat} (hW : WRD tx n p q) (hw : w < 43) : SAY tx p q w ↔ bb 256 (fun i => tx (p + i)) (q - p) = bb 256 (kc w) (slen w) := by
  constructor
  · rintro ⟨h1, h2⟩
    rw [h1]
    exact bb_cg _ h2
  · intro h
    obtain ⟨h1, h2⟩ := bb_inj _ _ (fun i hi => by have := hW.2.2.2 i hi; omega) (fun i hi => by have := kc_c hw hi; omega) h
    exact ⟨h1, fun i hi => h2 i (by omega)⟩
theorem says_c {MX MM : Mem} {tx : Nat → Nat} {n p q w : Nat} (h : TX MX MM n tx) (hw : w < 43) (h7 : MX.1 16 7 = nI p) (h8 : MX.1 16 8 = nI q) (hpq : p ≤ q) (hq : q ≤ n) : ∃ t : Bool, X6_says w MX = some t ∧ (t = true ↔ MX.1 16 1 = 2 ∧ SAY tx p q w) := by
  have hn := h.1
  unfold X6_says
  by_cases h1 : MX.1 16 1 = 2
  · rw [if_pos h1, h7, h8, nI_sub hpq]
    have hl := (kc_fin ⟨w, hw⟩).1
    simp only at hl
    unfold zSlen
    by_cases h2 : q - p = slen w
    · rw [if_pos (by rw [h2])]
      have key := up_zFU (σ := Int32) (fun N s => X6_says_L1 w MX N s) (fun i s => s = nI i ∧ ∀ j, j < i → tx (p + j) = kc w j) (fun t => t = true ↔ ∀ j, j < slen w → tx (p + j) = kc w j) (slen w) (by omega) (by
        rintro N s ⟨rfl, g⟩
        refine ⟨true, ?_, fun _ => g, fun _ => rfl⟩
        show X6_says_L1 w MX (N + 1) (nI (slen w)) = some true
        rw [X6_says_L1]
        unfold zSlen
        rw [if_pos (nI_le (by omega) (by omega))]) (by
        rintro N i s hi ⟨rfl, g⟩
        obtain ⟨k1, k2, k3⟩ := kc_c hw hi
        have hst : X6_says_L1 w MX (N + 1) (nI i) = if nI (kc w i) = nI (tx (p + i)) then X6_says_L1 w MX N (nI (i + 1)) else some false := by
          rw [X6_says_L1]
          unfold zSlen zSch
          rw [if_neg (nI_ge hi (by omega)), gd_in hi (by omega), bo_s, nI_clamp (by omega), k1, h7, nI_add, byteAt_c h (by omega), if_pos (show p + i < n by omega), show nI i + 1 = nI (i + 1) from nI_add i 1]
        have hb := (h.2.2.2 (p + i) (by omega)).1
        by_cases z : tx (p + i) = kc w i
        · left
          refine ⟨nI (i + 1), ⟨rfl, fun j hj => ?_⟩, by show X6_says_L1 w MX (N + 1) (nI i) = _; rw [hst, if_pos (by rw [z])]⟩
          by_cases y : j = i
          · rw [y]; exact z
          · exact g j (by omega)
        · right
          refine ⟨false, by show X6_says_L1 w MX (N + 1) (nI i) = _; rw [hst, if_neg (fun y => z ((nI_eq (by omega) (by omega)).mp y).symm)], fun y => absurd y Bool.false_ne_true, fun y => absurd (y i hi) z⟩) 0 0 (by omega) ⟨rfl, fun j hj => by omega⟩
      obtain ⟨t, e, g⟩ := key
      exact ⟨t, e, g.trans ⟨fun y => ⟨h1, h2, y⟩, fun y => y.2.2⟩⟩
    · rw [if_neg (fun y => h2 ((nI_eq (by omega) (by omega)).mp y))]
      exact ⟨false, rfl, fun y => absurd y Bool.false_ne_true, fun y => absurd y.2.1 h2⟩
  · rw [if_neg h1]
    exact ⟨false, rfl, fun y => absurd y Bool.false_ne_true, fun y => absurd y.1 h1⟩
