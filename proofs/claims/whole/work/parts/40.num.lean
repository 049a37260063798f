/-! ===== phase 2: numbers, frames, loops ===== -/
theorem nlit (n : Nat) : (OfNat.ofNat n : Int32) = nI n := rfl
theorem nI_mul (a b : Nat) : nI a * nI b = nI (a * b) := (Int32.ofNat_mul a b).symm
theorem nI_sub {a b : Nat} (h : b ≤ a) : nI a - nI b = nI (a - b) := by
  have : nI a = nI (a - b) + nI b := by rw [nI_add, Nat.sub_add_cancel h]
  rw [this, Int32.add_sub_cancel]
theorem nI_addm {a b : Nat} (h : b ≤ a) : nI a + -nI b = nI (a - b) := by
  rw [← Int32.sub_eq_add_neg, nI_sub h]
theorem nI_div {a b : Nat} (ha : a < 2 ^ 31) (hb : b < 2 ^ 31) : nI a / nI b = nI (a / b) := by
  have h1 : a / b ≤ a := Nat.div_le_self a b
  apply Int32.toInt_inj.mp
  rw [Int32.toInt_div_of_ne_right, nI_toInt ha, nI_toInt hb, nI_toInt (by omega)]
  · exact (Int.ofNat_tdiv a b).symm
  · intro h
    have := congrArg Int32.toInt h
    rw [nI_toInt hb] at this
    have h2 : (-1 : Int32).toInt = -1 := by decide
    omega
theorem nI_mod {a b : Nat} (ha : a < 2 ^ 31) (hb : b < 2 ^ 31) : nI a % nI b = nI (a % b) := by
  have h1 : a % b ≤ a := Nat.mod_le a b
  apply Int32.toInt_inj.mp
  rw [Int32.toInt_mod, nI_toInt ha, nI_toInt hb, nI_toInt (by omega)]
  exact (Int.ofNat_tmod a b).symm
theorem nI_neg {n : Nat} (h : n < 2 ^ 31) : ¬ nI n < 0 := nI_pos h
theorem nI_nm1 {n : Nat} (h : n < 2 ^ 31) : ¬ nI n = -1 := by
  intro q
  have := congrArg Int32.toInt q
  rw [nI_toInt h] at this
  have h2 : (-1 : Int32).toInt = -1 := by decide
  omega
theorem nI_of3 {x : Int32} {n : Nat} (h1 : ¬ x < 0) (h2 : ¬ nI n ≤ x) (hn : n < 2 ^ 31) : ∃ j, j < n ∧ x = nI j := by
  obtain ⟨j, hj, rfl⟩ := nI_of h1
  exact ⟨j, by rw [nI_leI hn hj] at h2; omega, rfl⟩
theorem zFU_s (k : Nat) (h : k ≤ 1000000) : ∃ n, zFU = n + k := ⟨zFU - k, by have := zFU_ge; omega⟩
theorem inb_nI {i n : Nat} (h : i < n) (hi : i < 2 ^ 31) : inb (nI i) n = true := by
  unfold inb
  rw [nI_clamp hi]
  simp [nI_pos' hi, h]
theorem gd_p {β : Type} {c : Prop} [Decidable c] {x : Option β} (h : c) : gd_ c x = x := if_pos h
theorem gd_in {β : Type} {i n : Nat} {x : Option β} (h : i < n) (hi : i < 2 ^ 31) : gd_ (inb (nI i) n = true) x = x := gd_p (inb_nI h hi)
theorem bo_s {α β : Type} (x : α) (f : α → Option β) : bo_ (some x) f = f x := rfl
theorem bp_s {α β : Type} (x : α) (M : Mem) (f : α → Mem → Option β) : bp_ (some (x, M)) f = f x M := rfl
theorem lp_s {α β : Type} (x : α) (M : Mem) (f : α → Mem → β) : lp_ (x, M) f = f x M := rfl
theorem b1_s {α ρ : Type} (x : α) (f : α → Option ρ) : b1_ (some x) f = f x := rfl
theorem b2_s {α β ρ : Type} (x : α) (y : β) (f : α → β → Option ρ) : b2_ (some (x, y)) f = f x y := rfl
theorem b3_s {α β γ ρ : Type} (x : α) (y : β) (z : γ) (f : α → β → γ → Option ρ) : b3_ (some (x, y, z)) f = f x y z := rfl
theorem l1_s {α ρ : Type} (x : α) (f : α → ρ) : l1_ x f = f x := rfl
theorem l2_s {α β ρ : Type} (x : α) (y : β) (f : α → β → ρ) : l2_ (x, y) f = f x y := rfl
theorem lt_e {α β : Type} (x : α) (f : α → β) : lt_ x f = f x := rfl
theorem uI_g (M : Mem) (k i : Nat) (x : Int32) (a b : Nat) : (uI M k i x).1 a b = if a = k ∧ b = i then x else M.1 a b := rfl
theorem uI_g2 (M : Mem) (k i : Nat) (x : Int32) : (uI M k i x).2 = M.2 := rfl
theorem uI_eq (M : Mem) (k i : Nat) (x : Int32) : (uI M k i x).1 k i = x := if_pos ⟨rfl, rfl⟩
theorem uI_ne {M : Mem} {k i : Nat} {x : Int32} {a b : Nat} (h : ¬ (a = k ∧ b = i)) : (uI M k i x).1 a b = M.1 a b := if_neg h
/-- nothing but cells in S differ -/
def Fr (S : Nat → Nat → Prop) (M M' : Mem) : Prop := M'.2 = M.2 ∧ ∀ a b, ¬ S a b → M'.1 a b = M.1 a b
theorem Fr.rf {S : Nat → Nat → Prop} {M : Mem} : Fr S M M := ⟨rfl, fun _ _ _ => rfl⟩
theorem Fr.tr {S : Nat → Nat → Prop} {M M1 M2 : Mem} (h : Fr S M M1) (h' : Fr S M1 M2) : Fr S M M2 := ⟨h'.1.trans h.1, fun a b n => (h'.2 a b n).trans (h.2 a b n)⟩
theorem Fr.wk {S T : Nat → Nat → Prop} {M M1 : Mem} (h : Fr S M M1) (k : ∀ a b, S a b → T a b) : Fr T M M1 := ⟨h.1, fun a b n => h.2 a b (fun q => n (k a b q))⟩
theorem Fr.up {S : Nat → Nat → Prop} {M M1 : Mem} {k i : Nat} (x : Int32) (h : Fr S M M1) (hs : S k i) : Fr S M (uI M1 k i x) := ⟨h.1, fun a b n => by
  rw [uI_ne (fun q => n (by rw [q.1, q.2]; exact hs))]
  exact h.2 a b n⟩
theorem Fr.cp {S : Nat → Nat → Prop} {M M1 : Mem} {s d sp dp n : Nat} (h : Fr S M M1) (hs : ∀ b, dp ≤ b → b < dp + n → S d b) : Fr S M (uC M1 s d sp dp n) := ⟨h.1, fun a b q => by
  have : (uC M1 s d sp dp n).1 a b = M1.1 a b := if_neg (fun z => q (by rw [z.1]; exact hs b z.2.1 z.2.2))
  rw [this]
  exact h.2 a b q⟩
/-- a loop that counts up: I at each turn, Q at its end (or where it leaves) -/
theorem up_loop {σ τ : Type} (G : Nat → σ → Option τ) (I : Nat → σ → Prop) (Q : τ → Prop) (N : Nat)
    (hstop : ∀ n s, I N s → ∃ t, G (n + 1) s = some t ∧ Q t)
    (hstep : ∀ n i s, i < N → I i s → (∃ s', I (i + 1) s' ∧ G (n + 1) s = G n s') ∨ (∃ t, G (n + 1) s = some t ∧ Q t)) :
    ∀ d i n s, i + d = N → d < n → I i s → ∃ t, G n s = some t ∧ Q t := by
  intro d
  induction d with
  | zero =>
    intro i n s h1 h2 h3
    obtain ⟨n', rfl⟩ : ∃ n', n = n' + 1 := ⟨n - 1, by omega⟩
    have : i = N := by omega
    subst this
    exact hstop n' s h3
  | succ d ih =>
    intro i n s h1 h2 h3
    obtain ⟨n', rfl⟩ : ∃ n', n = n' + 1 := ⟨n - 1, by omega⟩
    rcases hstep n' i s (by omega) h3 with ⟨s', h4, h5⟩ | h4
    · rw [h5]
      exact ih (i + 1) n' s' (by omega) (by omega) h4
    · exact h4
theorem up_zFU {σ τ : Type} (G : Nat → σ → Option τ) (I : Nat → σ → Prop) (Q : τ → Prop) (N : Nat) (hN : N < 1000000)
    (hstop : ∀ n s, I N s → ∃ t, G (n + 1) s = some t ∧ Q t)
    (hstep : ∀ n i s, i < N → I i s → (∃ s', I (i + 1) s' ∧ G (n + 1) s = G n s') ∨ (∃ t, G (n + 1) s = some t ∧ Q t))
    (s : σ) (i : Nat) (hi : i ≤ N) (h : I i s) : ∃ t, G zFU s = some t ∧ Q t :=
  up_loop G I Q N hstop hstep (N - i) i zFU s (by omega) (by have := zFU_ge; omega) h
/-- two loops in step -/
theorem two_loop {σ τ σ' τ' : Type} (G : Nat → σ → Option τ) (G' : Nat → σ' → Option τ') (I : Nat → σ → σ' → Prop) (Q : τ → τ' → Prop)
    (hstep : ∀ n n' d s s', I d s s' → (∃ t t', G (n + 1) s = some t ∧ G' (n' + 1) s' = some t' ∧ Q t t') ∨ (∃ d1 s1 s1', d1 < d ∧ I d1 s1 s1' ∧ G (n + 1) s = G n s1 ∧ G' (n' + 1) s' = G' n' s1')) :
    ∀ d n n' s s', d < n → d < n' → I d s s' → ∃ t t', G n s = some t ∧ G' n' s' = some t' ∧ Q t t' := by
  intro d
  induction d using Nat.strongRecOn with
  | ind d ih =>
    intro n n' s s' hn hn' h
    obtain ⟨n, rfl⟩ : ∃ k, n = k + 1 := ⟨n - 1, by omega⟩
    obtain ⟨n', rfl⟩ : ∃ k, n' = k + 1 := ⟨n' - 1, by omega⟩
    rcases hstep n n' d s s' h with h4 | ⟨d1, s1, s1', h5, h6, h7, h8⟩
    · exact h4
    · rw [h7, h8]
      exact ih d1 h5 n n' s1 s1' (by omega) (by omega) h6
theorem two_zFU {σ τ σ' τ' : Type} (G : Nat → σ → Option τ) (G' : Nat → σ' → Option τ') (I : Nat → σ → σ' → Prop) (Q : τ → τ' → Prop)
    (hstep : ∀ n n' d s s', I d s s' → (∃ t t', G (n + 1) s = some t ∧ G' (n' + 1) s' = some t' ∧ Q t t') ∨ (∃ d1 s1 s1', d1 < d ∧ I d1 s1 s1' ∧ G (n + 1) s = G n s1 ∧ G' (n' + 1) s' = G' n' s1'))
    (d : Nat) (s : σ) (s' : σ') (hd : d < 1000000) (h : I d s s') : ∃ t t', G zFU s = some t ∧ G' zFU s' = some t' ∧ Q t t' :=
  two_loop G G' I Q hstep d zFU zFU s s' (by have := zFU_ge; omega) (by have := zFU_ge; omega) h
/-! ===== the class's guarded cells ===== -/
theorem xc_in {a i : Nat} {M : Mem} (h : i < zlen zTX a) : X11_cell a (nI i) M = M.1 a i := by
  have h1 := zlen_ltX a
  unfold X11_cell
  rw [if_neg (nI_pos (by omega)), if_neg (nI_ge h h1), nI_clamp (by omega)]
theorem xc_out {a i : Nat} {M : Mem} (h : zlen zTX a ≤ i) (hi : i < 2 ^ 31) : X11_cell a (nI i) M = 0 := by
  unfold X11_cell
  rw [if_neg (nI_pos hi), if_pos (nI_le h hi)]
theorem xc_neg {a : Nat} {x : Int32} {M : Mem} (h : x < 0) : X11_cell a x M = 0 := if_pos h
theorem xp_in {a i : Nat} {x : Int32} {M : Mem} (h : i < zlen zTX a) : X11_put a (nI i) x M = uI M a i x := by
  have h1 := zlen_ltX a
  unfold X11_put
  rw [if_neg (nI_pos (by omega)), if_neg (nI_ge h h1), nI_clamp (by omega)]
  rfl
theorem zlX_5 : zlen zTX 5 = 5 := zlen_of aX_5
theorem zlX_36 : zlen zTX 36 = 42 := zlen_of aX_36
