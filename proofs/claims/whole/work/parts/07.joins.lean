theorem zFU_ex : ∃ n : Nat, 1000000 ≤ n := ⟨1000000, Nat.le_refl _⟩
/-- more rounds than any loop goes -/
noncomputable def zFU : Nat := Classical.choose zFU_ex
theorem zFU_ge : 1000000 ≤ zFU := Classical.choose_spec zFU_ex
theorem zi_nle {a b : Int32} (h : a < b) : ¬ b ≤ a := fun q => Int32.lt_irrefl (Int32.lt_of_lt_of_le h q)
theorem vin {i : Int32} {n : Nat} (h1 : ¬ i < 0) (h2 : ¬ nI n ≤ i) (hn : n < 2 ^ 31) : vp_in i n := by
  rintro (q | q)
  · exact h1 q
  · refine h2 ?_
    obtain ⟨j, hj, rfl⟩ := nI_of h1
    rw [nI_clamp hj] at q
    exact nI_le q hj
theorem b2i_f (b : Bool) : fits .boolean (.int (b2i b)) = true := by cases b <;> rfl
theorem b2i_s (b : Bool) : vp_nar .boolean (b2i b) = b2i b := by cases b <;> rfl
theorem zb2 (x : Int32) : vp_nar .byte x.toInt8.toInt32 = x.toInt8.toInt32 := by
  rw [vp_nar_byte]
  congr 1
  simp
def l1_ {α ρ : Type} (x : α) (f : α → ρ) : ρ := f x
def b1_ {α ρ : Type} (x : Option (α)) (f : α → Option ρ) : Option ρ := x.bind (fun x => f x)
def l2_ {α β ρ : Type} (x : α × β) (f : α → β → ρ) : ρ := f x.1 x.2
def b2_ {α β ρ : Type} (x : Option (α × β)) (f : α → β → Option ρ) : Option ρ := x.bind (fun x => f x.1 x.2)
def l3_ {α β γ ρ : Type} (x : α × β × γ) (f : α → β → γ → ρ) : ρ := f x.1 x.2.1 x.2.2
def b3_ {α β γ ρ : Type} (x : Option (α × β × γ)) (f : α → β → γ → Option ρ) : Option ρ := x.bind (fun x => f x.1 x.2.1 x.2.2)
def l4_ {α β γ δ ρ : Type} (x : α × β × γ × δ) (f : α → β → γ → δ → ρ) : ρ := f x.1 x.2.1 x.2.2.1 x.2.2.2
def b4_ {α β γ δ ρ : Type} (x : Option (α × β × γ × δ)) (f : α → β → γ → δ → Option ρ) : Option ρ := x.bind (fun x => f x.1 x.2.1 x.2.2.1 x.2.2.2)
def l5_ {α β γ δ ε ρ : Type} (x : α × β × γ × δ × ε) (f : α → β → γ → δ → ε → ρ) : ρ := f x.1 x.2.1 x.2.2.1 x.2.2.2.1 x.2.2.2.2
def b5_ {α β γ δ ε ρ : Type} (x : Option (α × β × γ × δ × ε)) (f : α → β → γ → δ → ε → Option ρ) : Option ρ := x.bind (fun x => f x.1 x.2.1 x.2.2.1 x.2.2.2.1 x.2.2.2.2)
def l6_ {α β γ δ ε ζ ρ : Type} (x : α × β × γ × δ × ε × ζ) (f : α → β → γ → δ → ε → ζ → ρ) : ρ := f x.1 x.2.1 x.2.2.1 x.2.2.2.1 x.2.2.2.2.1 x.2.2.2.2.2
def b6_ {α β γ δ ε ζ ρ : Type} (x : Option (α × β × γ × δ × ε × ζ)) (f : α → β → γ → δ → ε → ζ → Option ρ) : Option ρ := x.bind (fun x => f x.1 x.2.1 x.2.2.1 x.2.2.2.1 x.2.2.2.2.1 x.2.2.2.2.2)
section JOINS
variable {σ : Type} {G : Gh} {mi : MI} {dn : σ → Option (Option Value × Mem)} {pc : Nat} {lv : List (Option Value)} {st : List Value} {M : Mem} {r : σ}
theorem r_letI {x : Int32} {f : Int32 → σ} (k : ∀ y : Int32, Wr G mi dn pc lv (.int y :: st) M (f y)) : Wr G mi dn pc lv (.int x :: st) M (lt_ x f) := k x
theorem r_letL {x : Int64} {f : Int64 → σ} (k : ∀ y : Int64, Wr G mi dn pc lv (.long y :: st) M (f y)) : Wr G mi dn pc lv (.long x :: st) M (lt_ x f) := k x
theorem r_jL1 {α : Type} {tree : α} {f : α → σ} {j : Nat} {lvj : α → List (Option Value)} {stj : α → List Value} {Mj : α → Mem} (hj : ∀ (a : α), Wr G mi dn j (lvj a) (stj a) (Mj a) (f a)) (k : (∀ (a : α), Wr G mi (fun t => dn (l1_ t f)) j (lvj a) (stj a) (Mj a) (a : α)) → Wr G mi (fun t => dn (l1_ t f)) pc lv st M tree) : Wr G mi dn pc lv st M (l1_ tree f) := k hj
theorem r_jB1 {α τ : Type} {dn : Option τ → Option (Option Value × Mem)} {tree : Option (α)} {f : α → Option τ} {j : Nat} {lvj : α → List (Option Value)} {stj : α → List Value} {Mj : α → Mem} (hj : ∀ (a : α), Wr G mi dn j (lvj a) (stj a) (Mj a) (f a)) (k : (∀ (a : α), Wr G mi (fun t => dn (b1_ t f)) j (lvj a) (stj a) (Mj a) (some a)) → Wr G mi (fun t => dn (b1_ t f)) pc lv st M tree) : Wr G mi dn pc lv st M (b1_ tree f) := k hj
theorem r_jL2 {α β : Type} {tree : α × β} {f : α → β → σ} {j : Nat} {lvj : α → β → List (Option Value)} {stj : α → β → List Value} {Mj : α → β → Mem} (hj : ∀ (a : α) (b : β), Wr G mi dn j (lvj a b) (stj a b) (Mj a b) (f a b)) (k : (∀ (a : α) (b : β), Wr G mi (fun t => dn (l2_ t f)) j (lvj a b) (stj a b) (Mj a b) ((a, b) : α × β)) → Wr G mi (fun t => dn (l2_ t f)) pc lv st M tree) : Wr G mi dn pc lv st M (l2_ tree f) := k hj
theorem r_jB2 {α β τ : Type} {dn : Option τ → Option (Option Value × Mem)} {tree : Option (α × β)} {f : α → β → Option τ} {j : Nat} {lvj : α → β → List (Option Value)} {stj : α → β → List Value} {Mj : α → β → Mem} (hj : ∀ (a : α) (b : β), Wr G mi dn j (lvj a b) (stj a b) (Mj a b) (f a b)) (k : (∀ (a : α) (b : β), Wr G mi (fun t => dn (b2_ t f)) j (lvj a b) (stj a b) (Mj a b) (some (a, b))) → Wr G mi (fun t => dn (b2_ t f)) pc lv st M tree) : Wr G mi dn pc lv st M (b2_ tree f) := k hj
theorem r_jL3 {α β γ : Type} {tree : α × β × γ} {f : α → β → γ → σ} {j : Nat} {lvj : α → β → γ → List (Option Value)} {stj : α → β → γ → List Value} {Mj : α → β → γ → Mem} (hj : ∀ (a : α) (b : β) (c : γ), Wr G mi dn j (lvj a b c) (stj a b c) (Mj a b c) (f a b c)) (k : (∀ (a : α) (b : β) (c : γ), Wr G mi (fun t => dn (l3_ t f)) j (lvj a b c) (stj a b c) (Mj a b c) ((a, b, c) : α × β × γ)) → Wr G mi (fun t => dn (l3_ t f)) pc lv st M tree) : Wr G mi dn pc lv st M (l3_ tree f) := k hj
theorem r_jB3 {α β γ τ : Type} {dn : Option τ → Option (Option Value × Mem)} {tree : Option (α × β × γ)} {f : α → β → γ → Option τ} {j : Nat} {lvj : α → β → γ → List (Option Value)} {stj : α → β → γ → List Value} {Mj : α → β → γ → Mem} (hj : ∀ (a : α) (b : β) (c : γ), Wr G mi dn j (lvj a b c) (stj a b c) (Mj a b c) (f a b c)) (k : (∀ (a : α) (b : β) (c : γ), Wr G mi (fun t => dn (b3_ t f)) j (lvj a b c) (stj a b c) (Mj a b c) (some (a, b, c))) → Wr G mi (fun t => dn (b3_ t f)) pc lv st M tree) : Wr G mi dn pc lv st M (b3_ tree f) := k hj
theorem r_jL4 {α β γ δ : Type} {tree : α × β × γ × δ} {f : α → β → γ → δ → σ} {j : Nat} {lvj : α → β → γ → δ → List (Option Value)} {stj : α → β → γ → δ → List Value} {Mj : α → β → γ → δ → Mem} (hj : ∀ (a : α) (b : β) (c : γ) (d : δ), Wr G mi dn j (lvj a b c d) (stj a b c d) (Mj a b c d) (f a b c d)) (k : (∀ (a : α) (b : β) (c : γ) (d : δ), Wr G mi (fun t => dn (l4_ t f)) j (lvj a b c d) (stj a b c d) (Mj a b c d) ((a, b, c, d) : α × β × γ × δ)) → Wr G mi (fun t => dn (l4_ t f)) pc lv st M tree) : Wr G mi dn pc lv st M (l4_ tree f) := k hj
theorem r_jB4 {α β γ δ τ : Type} {dn : Option τ → Option (Option Value × Mem)} {tree : Option (α × β × γ × δ)} {f : α → β → γ → δ → Option τ} {j : Nat} {lvj : α → β → γ → δ → List (Option Value)} {stj : α → β → γ → δ → List Value} {Mj : α → β → γ → δ → Mem} (hj : ∀ (a : α) (b : β) (c : γ) (d : δ), Wr G mi dn j (lvj a b c d) (stj a b c d) (Mj a b c d) (f a b c d)) (k : (∀ (a : α) (b : β) (c : γ) (d : δ), Wr G mi (fun t => dn (b4_ t f)) j (lvj a b c d) (stj a b c d) (Mj a b c d) (some (a, b, c, d))) → Wr G mi (fun t => dn (b4_ t f)) pc lv st M tree) : Wr G mi dn pc lv st M (b4_ tree f) := k hj
theorem r_jL5 {α β γ δ ε : Type} {tree : α × β × γ × δ × ε} {f : α → β → γ → δ → ε → σ} {j : Nat} {lvj : α → β → γ → δ → ε → List (Option Value)} {stj : α → β → γ → δ → ε → List Value} {Mj : α → β → γ → δ → ε → Mem} (hj : ∀ (a : α) (b : β) (c : γ) (d : δ) (e : ε), Wr G mi dn j (lvj a b c d e) (stj a b c d e) (Mj a b c d e) (f a b c d e)) (k : (∀ (a : α) (b : β) (c : γ) (d : δ) (e : ε), Wr G mi (fun t => dn (l5_ t f)) j (lvj a b c d e) (stj a b c d e) (Mj a b c d e) ((a, b, c, d, e) : α × β × γ × δ × ε)) → Wr G mi (fun t => dn (l5_ t f)) pc lv st M tree) : Wr G mi dn pc lv st M (l5_ tree f) := k hj
theorem r_jB5 {α β γ δ ε τ : Type} {dn : Option τ → Option (Option Value × Mem)} {tree : Option (α × β × γ × δ × ε)} {f : α → β → γ → δ → ε → Option τ} {j : Nat} {lvj : α → β → γ → δ → ε → List (Option Value)} {stj : α → β → γ → δ → ε → List Value} {Mj : α → β → γ → δ → ε → Mem} (hj : ∀ (a : α) (b : β) (c : γ) (d : δ) (e : ε), Wr G mi dn j (lvj a b c d e) (stj a b c d e) (Mj a b c d e) (f a b c d e)) (k : (∀ (a : α) (b : β) (c : γ) (d : δ) (e : ε), Wr G mi (fun t => dn (b5_ t f)) j (lvj a b c d e) (stj a b c d e) (Mj a b c d e) (some (a, b, c, d, e))) → Wr G mi (fun t => dn (b5_ t f)) pc lv st M tree) : Wr G mi dn pc lv st M (b5_ tree f) := k hj
theorem r_jL6 {α β γ δ ε ζ : Type} {tree : α × β × γ × δ × ε × ζ} {f : α → β → γ → δ → ε → ζ → σ} {j : Nat} {lvj : α → β → γ → δ → ε → ζ → List (Option Value)} {stj : α → β → γ → δ → ε → ζ → List Value} {Mj : α → β → γ → δ → ε → ζ → Mem} (hj : ∀ (a : α) (b : β) (c : γ) (d : δ) (e : ε) (g : ζ), Wr G mi dn j (lvj a b c d e g) (stj a b c d e g) (Mj a b c d e g) (f a b c d e g)) (k : (∀ (a : α) (b : β) (c : γ) (d : δ) (e : ε) (g : ζ), Wr G mi (fun t => dn (l6_ t f)) j (lvj a b c d e g) (stj a b c d e g) (Mj a b c d e g) ((a, b, c, d, e, g) : α × β × γ × δ × ε × ζ)) → Wr G mi (fun t => dn (l6_ t f)) pc lv st M tree) : Wr G mi dn pc lv st M (l6_ tree f) := k hj
theorem r_jB6 {α β γ δ ε ζ τ : Type} {dn : Option τ → Option (Option Value × Mem)} {tree : Option (α × β × γ × δ × ε × ζ)} {f : α → β → γ → δ → ε → ζ → Option τ} {j : Nat} {lvj : α → β → γ → δ → ε → ζ → List (Option Value)} {stj : α → β → γ → δ → ε → ζ → List Value} {Mj : α → β → γ → δ → ε → ζ → Mem} (hj : ∀ (a : α) (b : β) (c : γ) (d : δ) (e : ε) (g : ζ), Wr G mi dn j (lvj a b c d e g) (stj a b c d e g) (Mj a b c d e g) (f a b c d e g)) (k : (∀ (a : α) (b : β) (c : γ) (d : δ) (e : ε) (g : ζ), Wr G mi (fun t => dn (b6_ t f)) j (lvj a b c d e g) (stj a b c d e g) (Mj a b c d e g) (some (a, b, c, d, e, g))) → Wr G mi (fun t => dn (b6_ t f)) pc lv st M tree) : Wr G mi dn pc lv st M (b6_ tree f) := k hj
theorem r_zretI {x : Int32} (hd : decode (miC mi) pc = .ok (.ireturn, 1)) (hR : miR mi = some .boolean) (h : x = 0 ∨ x = 1) (hr : dn r = some (some (.int (b2i (decide (x = 1)))), M)) : Wr G mi dn pc lv [.int x] M r := by
  have e : b2i (decide (x = 1)) = x := by rcases h with rfl | rfl <;> rfl
  rw [e] at hr
  exact r_iret (ty := .boolean) hd hR (by rcases h with rfl | rfl <;> rfl) hr
theorem r_tswIn {x c : Int32} {dflt lo hi : Int} {offs : Array Int} {len : Nat} {off : Int} {tgt : Nat} (hd : decode (miC mi) pc = .ok (.tableswitch dflt lo hi offs, len)) (hx : x = c) (h1 : ¬ c.toInt < lo) (h2 : ¬ hi < c.toInt) (ho : offs[(c.toInt - lo).toNat]? = some off) (ht : (pc : Int) + off = (tgt : Int)) (k : Wr G mi dn tgt lv st M r) : Wr G mi dn pc lv (.int x :: st) M r := fun v M' hr p e s m args below meth c' H locs ls B hP hS hl => by
  subst hx
  exact lv_tableIn B.1 B.2.1 hd h1 h2 ho ht (k v M' hr p e s m args below meth c' H locs ls B hP hS hl)
theorem r_tswD {x : Int32} {cs : List Int32} {dflt lo hi : Int} {offs : Array Int} {len : Nat} {tgt : Nat} (hd : decode (miC mi) pc = .ok (.tableswitch dflt lo hi offs, len)) (hall : (decide (hi - lo < offs.size) && offs.toList.zipIdx.all (fun q => q.1 == dflt || cs.any (fun c => c.toInt == lo + q.2))) = true) (hne : ∀ c ∈ cs, ¬ x = c) (ht : (pc : Int) + dflt = (tgt : Int)) (k : Wr G mi dn tgt lv st M r) : Wr G mi dn pc lv (.int x :: st) M r := fun v M' hr p e s m args below meth c' H locs ls B hP hS hl => by
  rw [Bool.and_eq_true, decide_eq_true_eq] at hall
  obtain ⟨hsz, hall⟩ := hall
  by_cases hio : x.toInt < lo ∨ hi < x.toInt
  · exact lv_tableOut B.1 B.2.1 hd hio ht (k v M' hr p e s m args below meth c' H locs ls B hP hS hl)
  · have h1 : ¬ x.toInt < lo := fun q => hio (Or.inl q)
    have h2 : ¬ hi < x.toInt := fun q => hio (Or.inr q)
    have hlt : (x.toInt - lo).toNat < offs.size := by omega
    have ho : offs[(x.toInt - lo).toNat]? = some offs[(x.toInt - lo).toNat] := Array.getElem?_eq_getElem hlt
    have hm := List.all_eq_true.mp hall (offs[(x.toInt - lo).toNat], (x.toInt - lo).toNat) (by
      rw [List.mk_mem_zipIdx_iff_getElem?]
      simp [hlt])
    simp only [Bool.or_eq_true, beq_iff_eq, List.any_eq_true] at hm
    rcases hm with hm | ⟨c, hc, he⟩
    · exact lv_tableIn B.1 B.2.1 hd h1 h2 ho (by rw [hm]; exact ht) (k v M' hr p e s m args below meth c' H locs ls B hP hS hl)
    · exact absurd (Int32.toInt_inj.mp (by omega)) (hne c hc)
theorem zosw {l : List (Int × Int)} {d x : Int} (h : ∀ q ∈ l, ¬ x = q.1) : Op.lookupswitch.offset l d x = d := by
  induction l with
  | nil => rfl
  | cons q l ih =>
    obtain ⟨a, o⟩ := q
    rw [Op.lookupswitch.offset_cons, if_neg (fun e => h (a, o) List.mem_cons_self e.symm)]
    exact ih (fun q hq => h q (List.mem_cons_of_mem _ hq))
theorem r_lswIn {x c : Int32} {dflt : Int} {ps : Array (Int × Int)} {len : Nat} {off : Int} {tgt : Nat} (hd : decode (miC mi) pc = .ok (.lookupswitch dflt ps, len)) (hx : x = c) (hp : (ps.toList.zip (ps.toList.drop 1)).all (fun (a, next) => a.1 < next.1) = true) (ho : Op.lookupswitch.offset ps.toList dflt c.toInt = off) (ht : (pc : Int) + off = (tgt : Int)) (k : Wr G mi dn tgt lv st M r) : Wr G mi dn pc lv (.int x :: st) M r := fun v M' hr p e s m args below meth c' H locs ls B hP hS hl => by
  subst hx
  exact lv_lookup B.1 B.2.1 hd hp ho ht (k v M' hr p e s m args below meth c' H locs ls B hP hS hl)
theorem r_lswD {x : Int32} {cs : List Int32} {dflt : Int} {ps : Array (Int × Int)} {len : Nat} {tgt : Nat} (hd : decode (miC mi) pc = .ok (.lookupswitch dflt ps, len)) (hp : (ps.toList.zip (ps.toList.drop 1)).all (fun (a, next) => a.1 < next.1) = true) (hall : (ps.toList.all (fun q => cs.any (fun c => c.toInt == q.1))) = true) (hne : ∀ c ∈ cs, ¬ x = c) (ht : (pc : Int) + dflt = (tgt : Int)) (k : Wr G mi dn tgt lv st M r) : Wr G mi dn pc lv (.int x :: st) M r := fun v M' hr p e s m args below meth c' H locs ls B hP hS hl =>
  lv_lookup B.1 B.2.1 hd hp (zosw (fun q hq e => by
    have h := List.all_eq_true.mp hall q hq
    simp only [List.any_eq_true, beq_iff_eq] at h
    obtain ⟨c, hc, he⟩ := h
    exact hne c hc (Int32.toInt_inj.mp (by omega)))) ht (k v M' hr p e s m args below meth c' H locs ls B hP hS hl)
theorem r_cL {tree : Bool} {f : Bool → σ} {jX jY : Nat} {lvX lvY : List (Option Value)} {stX : List Value} {M1 : Mem} (hX : True → Wr G mi dn jX lvX stX M1 (f true)) (hY : True → Wr G mi dn jY lvY stX M1 (f false)) (k : Wr G mi (fun t => dn (l1_ t f)) jX lvX stX M1 true → Wr G mi (fun t => dn (l1_ t f)) jY lvY stX M1 false → Wr G mi (fun t => dn (l1_ t f)) pc lv st M tree) : Wr G mi dn pc lv st M (l1_ tree f) := k (hX trivial) (hY trivial)
theorem r_cB {τ : Type} {dn : Option τ → Option (Option Value × Mem)} {tree : Option Bool} {f : Bool → Option τ} {jX jY : Nat} {lvX lvY : List (Option Value)} {stX : List Value} {M1 : Mem} (hX : True → Wr G mi dn jX lvX stX M1 (f true)) (hY : True → Wr G mi dn jY lvY stX M1 (f false)) (k : Wr G mi (fun t => dn (b1_ t f)) jX lvX stX M1 (some true) → Wr G mi (fun t => dn (b1_ t f)) jY lvY stX M1 (some false) → Wr G mi (fun t => dn (b1_ t f)) pc lv st M tree) : Wr G mi dn pc lv st M (b1_ tree f) := k (hX trivial) (hY trivial)
theorem r_lk {lv' : List (Option Value)} (k : Wr G mi dn pc lv' st M r) (h : zle lv' lv) : Wr G mi dn pc lv st M r := r_le h k
end JOINS
