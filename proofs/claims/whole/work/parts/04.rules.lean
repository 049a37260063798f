/-! ===== what is static: texts of the class file, ROUNDS, three of the JDK's statics, links among nest mates ===== -/
def zSR : List (String × Nat × String × List Int32) := [("WeatherWages$MillReader", 90, "kind", [107, 105, 110, 100]), ("WeatherWages$Scanner", 80, "kind", [107, 105, 110, 100]), ("WeatherWages$Scanner", 86, "man", [109, 97, 110]), ("WeatherWages$Scanner", 88, "crop", [99, 114, 111, 112]), ("WeatherWages$Scanner", 90, "loose", [108, 111, 111, 115, 101]), ("WeatherWages$Scanner", 92, "purse", [112, 117, 114, 115, 101]), ("WeatherWages$Scanner", 94, "pay", [112, 97, 121]), ("WeatherWages$Scanner", 96, "hedge", [104, 101, 100, 103, 101]), ("WeatherWages$Scanner", 98, "rate", [114, 97, 116, 101]), ("WeatherWages$Scanner", 100, "for", [102, 111, 114]), ("WeatherWages$Scanner", 102, "book", [98, 111, 111, 107]), ("WeatherWages$Scanner", 104, "grow", [103, 114, 111, 119]), ("WeatherWages$Scanner", 106, "hours", [104, 111, 117, 114, 115]), ("WeatherWages$Scanner", 108, "draw", [100, 114, 97, 119]), ("WeatherWages$Scanner", 110, "or", [111, 114]), ("WeatherWages$Scanner", 112, "and", [97, 110, 100]), ("WeatherWages$Scanner", 114, "not", [110, 111, 116]), ("WeatherWages$Scanner", 116, "first", [102, 105, 114, 115, 116]), ("WeatherWages$Scanner", 118, "second", [115, 101, 99, 111, 110, 100]), ("WeatherWages$Scanner", 120, "third", [116, 104, 105, 114, 100]), ("WeatherWages$Scanner", 122, "week", [119, 101, 101, 107]), ("WeatherWages$Scanner", 124, "plot", [112, 108, 111, 116]), ("WeatherWages$MillReader", 99, "man", [109, 97, 110]), ("WeatherWages$MillReader", 173, "crop", [99, 114, 111, 112]), ("WeatherWages$MillReader", 192, "loose", [108, 111, 111, 115, 101]), ("WeatherWages$MillReader", 104, "purse", [112, 117, 114, 115, 101]), ("WeatherWages$MillReader", 114, "pay", [112, 97, 121]), ("WeatherWages$MillReader", 119, "hedge", [104, 101, 100, 103, 101]), ("WeatherWages$MillReader", 124, "rate", [114, 97, 116, 101]), ("WeatherWages$MillReader", 207, "for", [102, 111, 114]), ("WeatherWages$MillReader", 129, "book", [98, 111, 111, 107]), ("WeatherWages$MillReader", 134, "grow", [103, 114, 111, 119]), ("WeatherWages$FormulaReader", 45, "not", [110, 111, 116]), ("WeatherWages$FormulaReader", 82, "first", [102, 105, 114, 115, 116]), ("WeatherWages$FormulaReader", 84, "second", [115, 101, 99, 111, 110, 100]), ("WeatherWages$FormulaReader", 86, "third", [116, 104, 105, 114, 100]), ("WeatherWages$FormulaReader", 88, "crop", [99, 114, 111, 112]), ("WeatherWages$FormulaReader", 90, "week", [119, 101, 101, 107]), ("WeatherWages$FormulaReader", 92, "plot", [112, 108, 111, 116]), ("WeatherWages$FormulaReader", 43, "and", [97, 110, 100]), ("WeatherWages$FormulaReader", 23, "or", [111, 114]), ("WeatherWages$MillReader", 139, "hours", [104, 111, 117, 114, 115]), ("WeatherWages$MillReader", 144, "draw", [100, 114, 97, 119])]
def zNest : List (String × Nat × MethodName × String) := [("WeatherWages", 11, ⟨"WeatherWages$Tape", "<init>", "()V"⟩, "WeatherWages"), ("WeatherWages$Mill", 38, ⟨"WeatherWages$Formula", "<init>", "()V"⟩, "WeatherWages"), ("WeatherWages", 61, ⟨"WeatherWages$Shelf", "<init>", "()V"⟩, "WeatherWages"), ("WeatherWages$Mill", 62, ⟨"WeatherWages", "put", "([III)V"⟩, "WeatherWages"), ("WeatherWages$MillReader", 188, ⟨"WeatherWages", "put", "([III)V"⟩, "WeatherWages"), ("WeatherWages$Mill", 94, ⟨"WeatherWages", "cell", "([II)I"⟩, "WeatherWages"), ("WeatherWages$MillReader", 228, ⟨"WeatherWages$FormulaReader", "readEither", "(I)Z"⟩, "WeatherWages"), ("WeatherWages$Mill", 69, ⟨"WeatherWages", "copyInts", "([I[I)V"⟩, "WeatherWages"), ("WeatherWages$Formula", 23, ⟨"WeatherWages", "copyInts", "([I[I)V"⟩, "WeatherWages"), ("WeatherWages$State", 27, ⟨"WeatherWages", "put", "([III)V"⟩, "WeatherWages"), ("WeatherWages$State", 36, ⟨"WeatherWages", "cell", "([II)I"⟩, "WeatherWages"), ("WeatherWages$Formula", 29, ⟨"WeatherWages", "cell", "([II)I"⟩, "WeatherWages"), ("WeatherWages$Formula", 33, ⟨"WeatherWages", "put", "([III)V"⟩, "WeatherWages"), ("WeatherWages$Planner", 85, ⟨"WeatherWages", "put", "([III)V"⟩, "WeatherWages"), ("WeatherWages$Planner", 107, ⟨"WeatherWages", "cell", "([II)I"⟩, "WeatherWages"), ("WeatherWages$Planner", 97, ⟨"WeatherWages", "copyInts", "([I[I)V"⟩, "WeatherWages"), ("WeatherWages$Shelf", 19, ⟨"WeatherWages", "cell", "([II)I"⟩, "WeatherWages"), ("WeatherWages$State", 50, ⟨"WeatherWages", "copyInts", "([I[I)V"⟩, "WeatherWages"), ("WeatherWages$Sights", 47, ⟨"WeatherWages", "put", "([III)V"⟩, "WeatherWages"), ("WeatherWages$Sights", 54, ⟨"WeatherWages", "cell", "([II)I"⟩, "WeatherWages")]
def zRounds : List Int32 := [0, 1, -1, 0, 2, -1, 1, 2, -1, 0, 1, 2, 0, 2, 1]
def zStr (G : Gh) (T : List ZC) (i : Nat) (q : String × Nat × String × List Int32) (U : State) (H : Heap) : Prop := vk_R q.1 q.2.1 q.2.2.1 (G.2.2.2 (1000 + i)) U ∧ va_O "java/lang/String" (G.2.2.2 (1000 + i)) (zA G T) U H ∧ va_OF "java/lang/String" "coder" "B" (.int 0) (G.2.2.2 (1000 + i)) (zA G T) U H ∧ va_OF "java/lang/String" "value" "[B" (.ref (G.2.2.2 (2000 + i))) (G.2.2.2 (1000 + i)) (zA G T) U H ∧ va_T .byte (G.2.2.2 (2000 + i)) q.2.2.2.length (fun j => .int (q.2.2.2.getD j 0)) (zA G T) U H
def zStt (G : Gh) (T : List ZC) (U : State) (H : Heap) : Prop :=
  (∀ (i : Nat) (q : String × Nat × String × List Int32), zSR[i]? = some q → zStr G T i q U H) ∧
  (va_Z "WeatherWages$Mill" "ROUNDS" "[I" (.ref (G.2.2.2 3000)) (zA G T) U H ∧ va_T .int (G.2.2.2 3000) 15 (fun j => .int (zRounds.getD j 0)) (zA G T) U H) ∧
  (va_Z "java/lang/String" "COMPACT_STRINGS" "Z" (.int 1) (zA G T) U H ∧ va_Zq "jdk/internal/util/Preconditions" "SIOOBE_FORMATTER" "Ljava/util/function/BiFunction;" (zA G T) U H) ∧
  ∀ q ∈ zNest, va_Nw (.methodLinkNest q.1 q.2.1 q.2.2.1 q.2.2.2) U
theorem zStt_go {G : Gh} {T : List ZC} {s U : State} {H H1 : Heap} (hW : s.WarmedH U.vm) (hq : ∀ a : Nat, a < H.size → ¬ zA G T a → H1[a]? = H[a]?) (h : zStt G T s H) : zStt G T U H1 := by
  obtain ⟨h1, ⟨h2, h3⟩, ⟨h4, h5⟩, h6⟩ := h
  have ha : s.vm.Alike U.vm := hW.alike
  refine ⟨fun i q hi => ?_, ⟨(va_Z.moved ha h2).kept hq, (va_T.moved ha h3).kept hq⟩, ⟨(va_Z.moved ha h4).kept hq, (va_Zq.moved ha h5).kept hq⟩, fun q hm => va_Nw.warmM hW (h6 q hm)⟩
  obtain ⟨g1, g2, g3, g4, g5⟩ := h1 i q hi
  exact ⟨vk_R.warm hW g1, (va_O.moved ha g2).kept hq, (va_OF.moved ha g3).kept hq, (va_OF.moved ha g4).kept hq, (va_T.moved ha g5).kept hq⟩
theorem zStt_same {G : Gh} {T : List ZC} {s U : State} {H : Heap} (hv : U.vm = s.vm) (h : zStt G T s H) : zStt G T U H := by
  obtain ⟨h1, ⟨h2, h3⟩, ⟨h4, h5⟩, h6⟩ := h
  have ha : s.vm.Alike U.vm := by rw [hv]; exact Vm.Alike.refl _
  refine ⟨fun i q hi => ?_, ⟨va_Z.moved ha h2, va_T.moved ha h3⟩, ⟨va_Z.moved ha h4, va_Zq.moved ha h5⟩, fun q hm => va_Nw.same rfl hv.symm (h6 q hm)⟩
  obtain ⟨g1, g2, g3, g4, g5⟩ := h1 i q hi
  exact ⟨vk_R.same hv g1, va_O.moved ha g2, va_OF.moved ha g3, va_OF.moved ha g4, va_T.moved ha g5⟩
/-! ===== the judgement ===== -/
abbrev miT (mi : MI) : List ZC := mi.1
abbrev miO (mi : MI) : String := mi.2.1
abbrev miY (mi : MI) : MethodName := mi.2.2.1
abbrev miC (mi : MI) : ByteArray := mi.2.2.2.1
abbrev miL (mi : MI) : Nat := mi.2.2.2.2.1
abbrev miR (mi : MI) : Option FieldType := mi.2.2.2.2.2.1
abbrev miK (mi : MI) : Nat := mi.2.2.2.2.2.2
def zInj (G : Gh) (T : List ZC) : Prop := ∀ i j : Nat, i < T.length → j < T.length → G.2.2.2 i = G.2.2.2 j → i = j
theorem zD {G : Gh} {T : List ZC} (h : zInj G T) (M : Mem) : va_D (zA G T) (zWs G T M) := by
  have key : ∀ (k : Nat) (q : Nat × va_E), (zWs G T M)[k]? = some q → k < T.length ∧ q.1 = G.2.2.2 k := by
    intro k q hk
    simp only [zWs, List.getElem?_mapIdx] at hk
    cases hT : T[k]? with
    | none => rw [hT] at hk; cases hk
    | some d =>
      rw [hT] at hk
      cases hk
      refine ⟨?_, rfl⟩
      rcases Nat.lt_or_ge k T.length with q | q
      · exact q
      · rw [List.getElem?_eq_none q] at hT; cases hT
  refine ⟨fun i j p q hi hj e => ?_, fun k q hk => ⟨k, (key k q hk).1, (key k q hk).2⟩⟩
  obtain ⟨a1, a2⟩ := key i p hi
  obtain ⟨b1, b2⟩ := key j q hj
  exact h i j a1 b1 (by rw [← a2, ← b2]; exact e)
def zRm (k : Nat) : Room := { frames := k, cells := 0, slots := 0, locals := 41 * k }
def zBd (G : Gh) (mi : MI) (p : Program) (s : State) (m : MethodId) (args : Array Value) (meth : Method) (c : Code) : Prop :=
  p.tables.exec = Jvm.exec ∧ c.code = miC mi ∧ c.maxLocals = miL mi ∧ s.vm.findClass (miO mi) = some m.cls ∧ (∀ w ∈ zTB, w.before args s = true) ∧ va_K G.2.1 vwCl (ztys G) s ∧ zInj G (miT mi) ∧ zStt G (miT mi) s s.heap ∧ meth.sig.returnType = miR mi ∧ meth.locks = false
def zQ (G : Gh) (T : List ZC) (v : Option Value) (M : Mem) : Array Value → State → Outcome → State → Prop := fun _ st o t => o = .returned v ∧ va_P G.2.1 vwCl (zWs G T M) t.heap ∧ va_F (zA G T) st t
def zBp (G : Gh) (T : List ZC) (M : Mem) (U : State) : Prop := va_P G.2.1 vwCl (zWs G T M) U.heap ∧ va_K G.2.1 vwCl (ztys G) U ∧ zInj G T ∧ zStt G T U U.heap
/-- a method's contract: from memory M with these arguments it answers as x says, if x says anything -/
def Mt (G : Gh) (mi : MI) (As : List Value) (M : Mem) (x : Option (Option Value × Mem)) : Prop := ∀ (v : Option Value) (M' : Mem), x = some (v, M') →
  Met G.1 (miY mi) (.code (miY mi) (miC mi) (miL mi) (miR mi) :: zTB) (zRm (miK mi)) (va_Pc As (zBp G (miT mi) M)) (zQ G (miT mi) v M') 0 0 (zA G (miT mi))
/-- from this place of the method on it answers as r says (dn r), if that says anything -/
def Wr {σ : Type} (G : Gh) (mi : MI) (dn : σ → Option (Option Value × Mem)) (pc : Nat) (lv : List (Option Value)) (st : List Value) (M : Mem) (r : σ) : Prop :=
  ∀ (v : Option Value) (M' : Mem), dn r = some (v, M') → ∀ (p : Program) (e : Env) (s : State) (m : MethodId) (args : Array Value) (below : List Frame) (meth : Method) (c : Code) (H : Heap) (locs : List Loc) (ls : Array Slot),
  zBd G mi p s m args meth c → va_P G.2.1 vwCl (zWs G (miT mi) M) H → va_S (zA G (miT mi)) s.heap H locs → zlv ls (miL mi) lv →
  W p G.1 e (zRm (miK mi)) s m args below meth c H locs 0 0 (MQ below (zQ G (miT mi) v M') args s 0 0 (zA G (miT mi))) (F0 m pc ls st)
theorem zBp_blind {G : Gh} {T : List ZC} {M : Mem} {As : List Value} : FrameBlind (va_Pc As (zBp G T M)) := fun a U g mk q => by
  obtain ⟨h0, h1, h2, h3, h4⟩ := q
  exact ⟨h0, h1, va_K.moved (u := U) (U := U.calling g mk a) (Vm.Alike.refl U.vm) h2, h3, zStt_same (s := U) (U := U.calling g mk a) rfl h4⟩
def b2i (b : Bool) : Int32 := if b then 1 else 0
theorem b2i_n (b : Bool) : narrow .boolean (.int (b2i b)) = .int (b2i b) := by cases b <;> rfl
theorem b2i_0 (b : Bool) : b2i b = 0 ↔ ¬ b = true := by cases b <;> decide
def dI (M : Mem) (x : Int32) : Option (Option Value × Mem) := some (some (.int x), M)
def dZ (M : Mem) (x : Bool) : Option (Option Value × Mem) := some (some (.int (b2i x)), M)
def dL (M : Mem) (x : Int64) : Option (Option Value × Mem) := some (some (.long x), M)
def dV (M : Mem) : Option (Option Value × Mem) := some (none, M)
def dIM (x : Int32 × Mem) : Option (Option Value × Mem) := some (some (.int x.1), x.2)
def dZM (x : Bool × Mem) : Option (Option Value × Mem) := some (some (.int (b2i x.1)), x.2)
def dLM (x : Int64 × Mem) : Option (Option Value × Mem) := some (some (.long x.1), x.2)
def dO {σ : Type} (dn : σ → Option (Option Value × Mem)) (x : Option σ) : Option (Option Value × Mem) := x.bind dn
def lt_ {α β : Type} (x : α) (f : α → β) : β := f x
def bo_ {α β : Type} (x : Option α) (f : α → Option β) : Option β := x.bind f
def bp_ {α β : Type} (x : Option (α × Mem)) (f : α → Mem → Option β) : Option β := x.bind (fun q => f q.1 q.2)
def lp_ {α β : Type} (x : α × Mem) (f : α → Mem → β) : β := f x.1 x.2
def gd_ {β : Type} (c : Prop) [Decidable c] (x : Option β) : Option β := if c then x else none
section RULES
variable {σ : Type} {G : Gh} {mi : MI} {dn : σ → Option (Option Value × Mem)} {pc : Nat} {lv lv' : List (Option Value)} {st : List Value} {M : Mem} {r : σ}
theorem r_none {dn : σ → Option (Option Value × Mem)} {r : σ} (h : dn r = none) : Wr G mi dn pc lv st M r := fun v M' hr => by rw [h] at hr; cases hr
theorem r_eq {r' : σ} (h : r = r') (k : Wr G mi dn pc lv st M r') : Wr G mi dn pc lv st M r := h ▸ k
theorem r_le (h : zle lv' lv) (k : Wr G mi dn pc lv' st M r) : Wr G mi dn pc lv st M r := fun v M' hr p e s m args below meth c H locs ls B hP hS hl => k v M' hr p e s m args below meth c H locs ls B hP hS (zlv_le h hl)
theorem r_ite {c : Prop} [Decidable c] {a b : σ} (k1 : c → Wr G mi dn pc lv st M a) (k2 : ¬ c → Wr G mi dn pc lv st M b) : Wr G mi dn pc lv st M (if c then a else b) := by
  by_cases h : c
  · rw [if_pos h]; exact k1 h
  · rw [if_neg h]; exact k2 h
theorem r_gd {β : Type} {dn : Option β → Option (Option Value × Mem)} {c : Prop} [Decidable c] {x : Option β} (hs : dn none = none) (k : c → Wr G mi dn pc lv st M x) : Wr G mi dn pc lv st M (gd_ c x) := by
  unfold gd_
  exact r_ite k (fun _ => r_none hs)
theorem r_bon {α β : Type} {dn : β → Option (Option Value × Mem)} {x : Option α} {f : α → Option β} (k : ∀ y : α, x = some y → Wr G mi (dO dn) pc lv st M (f y)) : Wr G mi (dO dn) pc lv st M (bo_ x f) := by
  cases x with
  | none => exact r_none rfl
  | some y => exact k y rfl
theorem r_iconst {n : Int} {x : Int32} (hd : decode (miC mi) pc = .ok (.iconst n, 1)) (hv : Int32.ofInt n = x) (k : Wr G mi dn (pc + 1) lv (.int x :: st) M r) : Wr G mi dn pc lv (st) M r := fun v M' hr p e s m args below meth c H locs ls B hP hS hl =>
  lv_iconst B.1 B.2.1 hd hv (k v M' hr p e s m args below meth c H locs ls B hP hS hl)
theorem r_bipush {n : Int} {x : Int32} (hd : decode (miC mi) pc = .ok (.bipush n, 2)) (hv : (Int8.ofInt n).toInt32 = x) (k : Wr G mi dn (pc + 2) lv (.int x :: st) M r) : Wr G mi dn pc lv (st) M r := fun v M' hr p e s m args below meth c H locs ls B hP hS hl =>
  lv_bipush B.1 B.2.1 hd hv (k v M' hr p e s m args below meth c H locs ls B hP hS hl)
theorem r_sipush {n : Int} {x : Int32} (hd : decode (miC mi) pc = .ok (.sipush n, 3)) (hv : (Int16.ofInt n).toInt32 = x) (k : Wr G mi dn (pc + 3) lv (.int x :: st) M r) : Wr G mi dn pc lv (st) M r := fun v M' hr p e s m args below meth c H locs ls B hP hS hl =>
  lv_sipush B.1 B.2.1 hd hv (k v M' hr p e s m args below meth c H locs ls B hP hS hl)
theorem r_lconst {n : Fin 2} {x : Int64} (hd : decode (miC mi) pc = .ok (.lconst n, 1)) (hv : Int64.ofNat (n : Nat) = x) (k : Wr G mi dn (pc + 1) lv (.long x :: st) M r) : Wr G mi dn pc lv (st) M r := fun v M' hr p e s m args below meth c H locs ls B hP hS hl =>
  lv_lconst B.1 B.2.1 hd hv (k v M' hr p e s m args below meth c H locs ls B hP hS hl)
theorem r_iadd {x y : Int32} (hd : decode (miC mi) pc = .ok (.iadd, 1)) (k : Wr G mi dn (pc + 1) lv (.int (x + y) :: st) M r) : Wr G mi dn pc lv (.int y :: .int x :: st) M r := fun v M' hr p e s m args below meth c H locs ls B hP hS hl =>
  lv_iadd B.1 B.2.1 hd (k v M' hr p e s m args below meth c H locs ls B hP hS hl)
theorem r_isub {x y : Int32} (hd : decode (miC mi) pc = .ok (.isub, 1)) (k : Wr G mi dn (pc + 1) lv (.int (x - y) :: st) M r) : Wr G mi dn pc lv (.int y :: .int x :: st) M r := fun v M' hr p e s m args below meth c H locs ls B hP hS hl =>
  lv_isub B.1 B.2.1 hd (k v M' hr p e s m args below meth c H locs ls B hP hS hl)
theorem r_imul {x y : Int32} (hd : decode (miC mi) pc = .ok (.imul, 1)) (k : Wr G mi dn (pc + 1) lv (.int (x * y) :: st) M r) : Wr G mi dn pc lv (.int y :: .int x :: st) M r := fun v M' hr p e s m args below meth c H locs ls B hP hS hl =>
  lv_imul B.1 B.2.1 hd (k v M' hr p e s m args below meth c H locs ls B hP hS hl)
theorem r_iand {x y : Int32} (hd : decode (miC mi) pc = .ok (.iand, 1)) (k : Wr G mi dn (pc + 1) lv (.int (x &&& y) :: st) M r) : Wr G mi dn pc lv (.int y :: .int x :: st) M r := fun v M' hr p e s m args below meth c H locs ls B hP hS hl =>
  lv_iand B.1 B.2.1 hd (k v M' hr p e s m args below meth c H locs ls B hP hS hl)
theorem r_ior {x y : Int32} (hd : decode (miC mi) pc = .ok (.ior, 1)) (k : Wr G mi dn (pc + 1) lv (.int (x ||| y) :: st) M r) : Wr G mi dn pc lv (.int y :: .int x :: st) M r := fun v M' hr p e s m args below meth c H locs ls B hP hS hl =>
  lv_ior B.1 B.2.1 hd (k v M' hr p e s m args below meth c H locs ls B hP hS hl)
theorem r_ixor {x y : Int32} (hd : decode (miC mi) pc = .ok (.ixor, 1)) (k : Wr G mi dn (pc + 1) lv (.int (x ^^^ y) :: st) M r) : Wr G mi dn pc lv (.int y :: .int x :: st) M r := fun v M' hr p e s m args below meth c H locs ls B hP hS hl =>
  lv_ixor B.1 B.2.1 hd (k v M' hr p e s m args below meth c H locs ls B hP hS hl)
theorem r_ishl {x y : Int32} (hd : decode (miC mi) pc = .ok (.ishl, 1)) (k : Wr G mi dn (pc + 1) lv (.int (x <<< (y &&& 31)) :: st) M r) : Wr G mi dn pc lv (.int y :: .int x :: st) M r := fun v M' hr p e s m args below meth c H locs ls B hP hS hl =>
  lv_ishl B.1 B.2.1 hd (k v M' hr p e s m args below meth c H locs ls B hP hS hl)
theorem r_ishr {x y : Int32} (hd : decode (miC mi) pc = .ok (.ishr, 1)) (k : Wr G mi dn (pc + 1) lv (.int (x >>> (y &&& 31)) :: st) M r) : Wr G mi dn pc lv (.int y :: .int x :: st) M r := fun v M' hr p e s m args below meth c H locs ls B hP hS hl =>
  lv_ishr B.1 B.2.1 hd (k v M' hr p e s m args below meth c H locs ls B hP hS hl)
theorem r_idiv {x y : Int32} (hd : decode (miC mi) pc = .ok (.idiv, 1)) (hy : ¬ y = 0) (k : Wr G mi dn (pc + 1) lv (.int (x / y) :: st) M r) : Wr G mi dn pc lv (.int y :: .int x :: st) M r := fun v M' hr p e s m args below meth c H locs ls B hP hS hl =>
  lv_idiv B.1 B.2.1 hd hy (k v M' hr p e s m args below meth c H locs ls B hP hS hl)
theorem r_irem {x y : Int32} (hd : decode (miC mi) pc = .ok (.irem, 1)) (hy : ¬ y = 0) (k : Wr G mi dn (pc + 1) lv (.int (x % y) :: st) M r) : Wr G mi dn pc lv (.int y :: .int x :: st) M r := fun v M' hr p e s m args below meth c H locs ls B hP hS hl =>
  lv_irem B.1 B.2.1 hd hy (by rw [irem_eq_mod]; exact k v M' hr p e s m args below meth c H locs ls B hP hS hl)
theorem r_ineg {x : Int32} (hd : decode (miC mi) pc = .ok (.ineg, 1)) (k : Wr G mi dn (pc + 1) lv (.int (-x) :: st) M r) : Wr G mi dn pc lv (.int x :: st) M r := fun v M' hr p e s m args below meth c H locs ls B hP hS hl =>
  lv_ineg B.1 B.2.1 hd (k v M' hr p e s m args below meth c H locs ls B hP hS hl)
theorem r_ladd {x y : Int64} (hd : decode (miC mi) pc = .ok (.ladd, 1)) (k : Wr G mi dn (pc + 1) lv (.long (x + y) :: st) M r) : Wr G mi dn pc lv (.long y :: .long x :: st) M r := fun v M' hr p e s m args below meth c H locs ls B hP hS hl =>
  lv_ladd B.1 B.2.1 hd (k v M' hr p e s m args below meth c H locs ls B hP hS hl)
theorem r_lmul {x y : Int64} (hd : decode (miC mi) pc = .ok (.lmul, 1)) (k : Wr G mi dn (pc + 1) lv (.long (x * y) :: st) M r) : Wr G mi dn pc lv (.long y :: .long x :: st) M r := fun v M' hr p e s m args below meth c H locs ls B hP hS hl =>
  lv_lmul B.1 B.2.1 hd (k v M' hr p e s m args below meth c H locs ls B hP hS hl)
theorem r_lor {x y : Int64} (hd : decode (miC mi) pc = .ok (.lor, 1)) (k : Wr G mi dn (pc + 1) lv (.long (x ||| y) :: st) M r) : Wr G mi dn pc lv (.long y :: .long x :: st) M r := fun v M' hr p e s m args below meth c H locs ls B hP hS hl =>
  lv_lor B.1 B.2.1 hd (k v M' hr p e s m args below meth c H locs ls B hP hS hl)
theorem r_lshl {x : Int64} {y : Int32} (hd : decode (miC mi) pc = .ok (.lshl, 1)) (k : Wr G mi dn (pc + 1) lv (.long (x <<< (y.toInt64 &&& 63)) :: st) M r) : Wr G mi dn pc lv (.int y :: .long x :: st) M r := fun v M' hr p e s m args below meth c H locs ls B hP hS hl =>
  lv_lshl B.1 B.2.1 hd rfl (k v M' hr p e s m args below meth c H locs ls B hP hS hl)
theorem r_i2l {x : Int32} (hd : decode (miC mi) pc = .ok (.i2l, 1)) (k : Wr G mi dn (pc + 1) lv (.long x.toInt64 :: st) M r) : Wr G mi dn pc lv (.int x :: st) M r := fun v M' hr p e s m args below meth c H locs ls B hP hS hl =>
  lv_i2l B.1 B.2.1 hd rfl (k v M' hr p e s m args below meth c H locs ls B hP hS hl)
theorem r_i2b {x : Int32} (hd : decode (miC mi) pc = .ok (.i2b, 1)) (k : Wr G mi dn (pc + 1) lv (.int x.toInt8.toInt32 :: st) M r) : Wr G mi dn pc lv (.int x :: st) M r := fun v M' hr p e s m args below meth c H locs ls B hP hS hl =>
  lv_i2b B.1 B.2.1 hd rfl (k v M' hr p e s m args below meth c H locs ls B hP hS hl)
theorem r_i2c {x : Int32} (hd : decode (miC mi) pc = .ok (.i2c, 1)) (k : Wr G mi dn (pc + 1) lv (.int (x.toUInt32 % 65536).toInt32 :: st) M r) : Wr G mi dn pc lv (.int x :: st) M r := fun v M' hr p e s m args below meth c H locs ls B hP hS hl =>
  lv_i2c B.1 B.2.1 hd rfl (k v M' hr p e s m args below meth c H locs ls B hP hS hl)
theorem r_lcmp {x y : Int64} (hd : decode (miC mi) pc = .ok (.lcmp, 1)) (k : Wr G mi dn (pc + 1) lv (.int (lg_cmp x y) :: st) M r) : Wr G mi dn pc lv (.long y :: .long x :: st) M r := fun v M' hr p e s m args below meth c H locs ls B hP hS hl =>
  W.lcmp B.1 B.2.1 hd (k v M' hr p e s m args below meth c H locs ls B hP hS hl)
theorem r_dup {a : Value} (hd : decode (miC mi) pc = .ok (.dup, 1)) (ha : a.category = 1) (k : Wr G mi dn (pc + 1) lv (a :: a :: st) M r) : Wr G mi dn pc lv (a :: st) M r := fun v M' hr p e s m args below meth c H locs ls B hP hS hl =>
  lv_dup B.1 B.2.1 hd ha (k v M' hr p e s m args below meth c H locs ls B hP hS hl)
theorem r_pop {a : Value} (hd : decode (miC mi) pc = .ok (.pop, 1)) (ha : a.category = 1) (k : Wr G mi dn (pc + 1) lv (st) M r) : Wr G mi dn pc lv (a :: st) M r := fun v M' hr p e s m args below meth c H locs ls B hP hS hl =>
  lv_pop B.1 B.2.1 hd ha (k v M' hr p e s m args below meth c H locs ls B hP hS hl)
theorem r_dup2 {a b : Value} (hd : decode (miC mi) pc = .ok (.dup2, 1)) (ha : a.category = 1) (hb : b.category = 1) (k : Wr G mi dn (pc + 1) lv (a :: b :: a :: b :: st) M r) : Wr G mi dn pc lv (a :: b :: st) M r := fun v M' hr p e s m args below meth c H locs ls B hP hS hl =>
  lv_dup2_11 B.1 B.2.1 hd ha hb (k v M' hr p e s m args below meth c H locs ls B hP hS hl)
theorem r_dup_x1 {a b : Value} (hd : decode (miC mi) pc = .ok (.dup_x1, 1)) (ha : a.category = 1) (hb : b.category = 1) (k : Wr G mi dn (pc + 1) lv (a :: b :: a :: st) M r) : Wr G mi dn pc lv (a :: b :: st) M r := fun v M' hr p e s m args below meth c H locs ls B hP hS hl =>
  lv_dup_x1 B.1 B.2.1 hd ha hb (k v M' hr p e s m args below meth c H locs ls B hP hS hl)
theorem r_dup_x2 {a b d : Value} (hd : decode (miC mi) pc = .ok (.dup_x2, 1)) (ha : a.category = 1) (hb : b.category = 1) (hdd : d.category = 1) (k : Wr G mi dn (pc + 1) lv (a :: b :: d :: a :: st) M r) : Wr G mi dn pc lv (a :: b :: d :: st) M r := fun v M' hr p e s m args below meth c H locs ls B hP hS hl =>
  lv_dup_x2 B.1 B.2.1 hd ha hb hdd (k v M' hr p e s m args below meth c H locs ls B hP hS hl)
theorem r_iload_n {n : Fin 4} {x : Int32} (hd : decode (miC mi) pc = .ok (.iload_n n, 1)) (hl0 : lv[(n : Nat)]? = some (some (.int x))) (k : Wr G mi dn (pc + 1) lv (.int x :: st) M r) : Wr G mi dn pc lv st M r := fun v M' hr p e s m args below meth c H locs ls B hP hS hl =>
  lv_iload_n B.1 B.2.1 hd rfl (hl.2.2 _ _ hl0) (k v M' hr p e s m args below meth c H locs ls B hP hS hl)
theorem r_iload {i : Nat} {x : Int32} (hd : decode (miC mi) pc = .ok (.iload i, 2)) (hl0 : lv[i]? = some (some (.int x))) (k : Wr G mi dn (pc + 2) lv (.int x :: st) M r) : Wr G mi dn pc lv st M r := fun v M' hr p e s m args below meth c H locs ls B hP hS hl =>
  lv_iload B.1 B.2.1 hd (hl.2.2 _ _ hl0) (k v M' hr p e s m args below meth c H locs ls B hP hS hl)
theorem r_lload_n {n : Fin 4} {x : Int64} (hd : decode (miC mi) pc = .ok (.lload_n n, 1)) (hl0 : lv[(n : Nat)]? = some (some (.long x))) (k : Wr G mi dn (pc + 1) lv (.long x :: st) M r) : Wr G mi dn pc lv st M r := fun v M' hr p e s m args below meth c H locs ls B hP hS hl =>
  lv_lload_n B.1 B.2.1 hd rfl (hl.2.2 _ _ hl0) (k v M' hr p e s m args below meth c H locs ls B hP hS hl)
theorem r_lload {i : Nat} {x : Int64} (hd : decode (miC mi) pc = .ok (.lload i, 2)) (hl0 : lv[i]? = some (some (.long x))) (k : Wr G mi dn (pc + 2) lv (.long x :: st) M r) : Wr G mi dn pc lv st M r := fun v M' hr p e s m args below meth c H locs ls B hP hS hl =>
  lv_lload B.1 B.2.1 hd (hl.2.2 _ _ hl0) (k v M' hr p e s m args below meth c H locs ls B hP hS hl)
theorem r_aload_n {n : Fin 4} {x : Nat} (hd : decode (miC mi) pc = .ok (.aload_n n, 1)) (hl0 : lv[(n : Nat)]? = some (some (.ref x))) (k : Wr G mi dn (pc + 1) lv (.ref x :: st) M r) : Wr G mi dn pc lv st M r := fun v M' hr p e s m args below meth c H locs ls B hP hS hl =>
  lv_aload_n B.1 B.2.1 hd rfl (hl.2.2 _ _ hl0) (k v M' hr p e s m args below meth c H locs ls B hP hS hl)
theorem r_aload {i : Nat} {x : Nat} (hd : decode (miC mi) pc = .ok (.aload i, 2)) (hl0 : lv[i]? = some (some (.ref x))) (k : Wr G mi dn (pc + 2) lv (.ref x :: st) M r) : Wr G mi dn pc lv st M r := fun v M' hr p e s m args below meth c H locs ls B hP hS hl =>
  lv_aload B.1 B.2.1 hd (hl.2.2 _ _ hl0) (k v M' hr p e s m args below meth c H locs ls B hP hS hl)
theorem r_istore_n {n : Fin 4} {x : Int32} (hd : decode (miC mi) pc = .ok (.istore_n n, 1)) (hi : (n : Nat) < miL mi) (hb : zbel lv (n : Nat) = true) (he : lv.set (n : Nat) (some (.int x)) = lv') (k : Wr G mi dn (pc + 1) lv' st M r) : Wr G mi dn pc lv (.int x :: st) M r := fun v M' hr p e s m args below meth c H locs ls B hP hS hl =>
  have q := zlv_st1 hl hi rfl hb lv' he
  lv_istore_n B.1 B.2.1 hd rfl (zlv_has.mp hl) hi q.1 (fun ls' h' => k v M' hr p e s m args below meth c H locs ls' B hP hS (q.2 ls' h'))
theorem r_istore {i : Nat} {x : Int32} (hd : decode (miC mi) pc = .ok (.istore i, 2)) (hi : i < miL mi) (hb : zbel lv i = true) (he : lv.set i (some (.int x)) = lv') (k : Wr G mi dn (pc + 2) lv' st M r) : Wr G mi dn pc lv (.int x :: st) M r := fun v M' hr p e s m args below meth c H locs ls B hP hS hl =>
  have q := zlv_st1 hl hi rfl hb lv' he
  lv_istore B.1 B.2.1 hd (zlv_has.mp hl) hi q.1 (fun ls' h' => k v M' hr p e s m args below meth c H locs ls' B hP hS (q.2 ls' h'))
theorem r_astore_n {n : Fin 4} {x : Nat} (hd : decode (miC mi) pc = .ok (.astore_n n, 1)) (hi : (n : Nat) < miL mi) (hb : zbel lv (n : Nat) = true) (he : lv.set (n : Nat) (some (.ref x)) = lv') (k : Wr G mi dn (pc + 1) lv' st M r) : Wr G mi dn pc lv (.ref x :: st) M r := fun v M' hr p e s m args below meth c H locs ls B hP hS hl =>
  have q := zlv_st1 hl hi rfl hb lv' he
  lv_astore_n B.1 B.2.1 hd rfl (zlv_has.mp hl) hi q.1 (fun ls' h' => k v M' hr p e s m args below meth c H locs ls' B hP hS (q.2 ls' h'))
theorem r_astore {i : Nat} {x : Nat} (hd : decode (miC mi) pc = .ok (.astore i, 2)) (hi : i < miL mi) (hb : zbel lv i = true) (he : lv.set i (some (.ref x)) = lv') (k : Wr G mi dn (pc + 2) lv' st M r) : Wr G mi dn pc lv (.ref x :: st) M r := fun v M' hr p e s m args below meth c H locs ls B hP hS hl =>
  have q := zlv_st1 hl hi rfl hb lv' he
  lv_astore B.1 B.2.1 hd (zlv_has.mp hl) hi q.1 (fun ls' h' => k v M' hr p e s m args below meth c H locs ls' B hP hS (q.2 ls' h'))
theorem r_lstore_n {n : Fin 4} {x : Int64} (hd : decode (miC mi) pc = .ok (.lstore_n n, 1)) (hi : (n : Nat) + 1 < miL mi) (hb : zbel lv (n : Nat) = true) (he : (lv.set (n : Nat) (some (.long x))).set ((n : Nat) + 1) none = lv') (k : Wr G mi dn (pc + 1) lv' st M r) : Wr G mi dn pc lv (.long x :: st) M r := fun v M' hr p e s m args below meth c H locs ls B hP hS hl =>
  lv_lstore_n B.1 B.2.1 hd rfl (zlv_has.mp hl) hi rfl (fun ls' h' => k v M' hr p e s m args below meth c H locs ls' B hP hS (zlv_st2 hl hi rfl hb lv' he ls' h'))
theorem r_lstore {i : Nat} {x : Int64} (hd : decode (miC mi) pc = .ok (.lstore i, 2)) (hi : i + 1 < miL mi) (hb : zbel lv i = true) (he : (lv.set i (some (.long x))).set (i + 1) none = lv') (k : Wr G mi dn (pc + 2) lv' st M r) : Wr G mi dn pc lv (.long x :: st) M r := fun v M' hr p e s m args below meth c H locs ls B hP hS hl =>
  lv_lstore B.1 B.2.1 hd (zlv_has.mp hl) hi rfl (fun ls' h' => k v M' hr p e s m args below meth c H locs ls' B hP hS (zlv_st2 hl hi rfl hb lv' he ls' h'))
theorem r_iinc {i : Nat} {n : Int} {x y : Int32} (hd : decode (miC mi) pc = .ok (.iinc i n, 3)) (hl0 : lv[i]? = some (some (.int x))) (hv : x + Int32.ofInt n = y) (hi : i < miL mi) (hb : zbel lv i = true) (he : lv.set i (some (.int y)) = lv') (k : Wr G mi dn (pc + 3) lv' st M r) : Wr G mi dn pc lv st M r := fun v M' hr p e s m args below meth c H locs ls B hP hS hl => by
  have q := zlv_st1 (v := .int y) hl hi rfl hb lv' he
  obtain ⟨kk, hk⟩ : ∃ kk, (zal 0 lv)[kk]? = some (i, Value.int x) := List.getElem?_of_mem ((zal_mem lv 0 (i, .int x)).mpr ⟨i, by simp, hl0⟩)
  exact lv_iinc B.1 B.2.1 hd (zlv_has.mp hl) hk hv hi q.1 (fun ls' h' => k v M' hr p e s m args below meth c H locs ls' B hP hS (q.2 ls' h'))
theorem r_goto {off : Int} {tgt : Nat} (hd : decode (miC mi) pc = .ok (.goto off, 3)) (ht : (pc : Int) + off = (tgt : Int)) (k : Wr G mi dn tgt lv st M r) : Wr G mi dn pc lv st M r := fun v M' hr p e s m args below meth c H locs ls B hP hS hl =>
  lv_goto B.1 B.2.1 hd ht (k v M' hr p e s m args below meth c H locs ls B hP hS hl)
theorem r_if_eq {x : Int32} {off : Int} {tgt : Nat} [Decidable (x = 0)] {a b : σ} (hd : decode (miC mi) pc = .ok (.ifCond .eq off, 3)) (ht : (pc : Int) + off = (tgt : Int)) (k1 : x = 0 → Wr G mi dn tgt lv st M a) (k2 : ¬ x = 0 → Wr G mi dn (pc + 3) lv st M b) : Wr G mi dn pc lv (.int x :: st) M (if x = 0 then a else b) := fun v M' hr p e s m args below meth c H locs ls B hP hS hl =>
  lv_if_eq B.1 B.2.1 hd ht (fun h => k1 h v M' (by rw [if_pos h] at hr; exact hr) p e s m args below meth c H locs ls B hP hS hl) (fun h => k2 h v M' (by rw [if_neg h] at hr; exact hr) p e s m args below meth c H locs ls B hP hS hl)
theorem r_icmp_eq {x y : Int32} {off : Int} {tgt : Nat} [Decidable (x = y)] {a b : σ} (hd : decode (miC mi) pc = .ok (.if_icmp .eq off, 3)) (ht : (pc : Int) + off = (tgt : Int)) (k1 : x = y → Wr G mi dn tgt lv st M a) (k2 : ¬ x = y → Wr G mi dn (pc + 3) lv st M b) : Wr G mi dn pc lv (.int y :: .int x :: st) M (if x = y then a else b) := fun v M' hr p e s m args below meth c H locs ls B hP hS hl =>
  lv_icmp_eq B.1 B.2.1 hd ht (fun h => k1 h v M' (by rw [if_pos h] at hr; exact hr) p e s m args below meth c H locs ls B hP hS hl) (fun h => k2 h v M' (by rw [if_neg h] at hr; exact hr) p e s m args below meth c H locs ls B hP hS hl)
theorem r_if_ne {x : Int32} {off : Int} {tgt : Nat} [Decidable (x = 0)] {a b : σ} (hd : decode (miC mi) pc = .ok (.ifCond .ne off, 3)) (ht : (pc : Int) + off = (tgt : Int)) (k1 : x = 0 → Wr G mi dn (pc + 3) lv st M a) (k2 : ¬ x = 0 → Wr G mi dn tgt lv st M b) : Wr G mi dn pc lv (.int x :: st) M (if x = 0 then a else b) := fun v M' hr p e s m args below meth c H locs ls B hP hS hl =>
  lv_if_ne B.1 B.2.1 hd ht (fun h => k2 h v M' (by rw [if_neg h] at hr; exact hr) p e s m args below meth c H locs ls B hP hS hl) (fun h => k1 h v M' (by rw [if_pos h] at hr; exact hr) p e s m args below meth c H locs ls B hP hS hl)
theorem r_icmp_ne {x y : Int32} {off : Int} {tgt : Nat} [Decidable (x = y)] {a b : σ} (hd : decode (miC mi) pc = .ok (.if_icmp .ne off, 3)) (ht : (pc : Int) + off = (tgt : Int)) (k1 : x = y → Wr G mi dn (pc + 3) lv st M a) (k2 : ¬ x = y → Wr G mi dn tgt lv st M b) : Wr G mi dn pc lv (.int y :: .int x :: st) M (if x = y then a else b) := fun v M' hr p e s m args below meth c H locs ls B hP hS hl =>
  lv_icmp_ne B.1 B.2.1 hd ht (fun h => k2 h v M' (by rw [if_neg h] at hr; exact hr) p e s m args below meth c H locs ls B hP hS hl) (fun h => k1 h v M' (by rw [if_pos h] at hr; exact hr) p e s m args below meth c H locs ls B hP hS hl)
theorem r_if_lt {x : Int32} {off : Int} {tgt : Nat} [Decidable (x < 0)] {a b : σ} (hd : decode (miC mi) pc = .ok (.ifCond .lt off, 3)) (ht : (pc : Int) + off = (tgt : Int)) (k1 : x < 0 → Wr G mi dn tgt lv st M a) (k2 : ¬ x < 0 → Wr G mi dn (pc + 3) lv st M b) : Wr G mi dn pc lv (.int x :: st) M (if x < 0 then a else b) := fun v M' hr p e s m args below meth c H locs ls B hP hS hl =>
  lv_if_lt B.1 B.2.1 hd ht (fun h => k1 h v M' (by rw [if_pos h] at hr; exact hr) p e s m args below meth c H locs ls B hP hS hl) (fun h => k2 h v M' (by rw [if_neg h] at hr; exact hr) p e s m args below meth c H locs ls B hP hS hl)
theorem r_icmp_lt {x y : Int32} {off : Int} {tgt : Nat} [Decidable (x < y)] {a b : σ} (hd : decode (miC mi) pc = .ok (.if_icmp .lt off, 3)) (ht : (pc : Int) + off = (tgt : Int)) (k1 : x < y → Wr G mi dn tgt lv st M a) (k2 : ¬ x < y → Wr G mi dn (pc + 3) lv st M b) : Wr G mi dn pc lv (.int y :: .int x :: st) M (if x < y then a else b) := fun v M' hr p e s m args below meth c H locs ls B hP hS hl =>
  lv_icmp_lt B.1 B.2.1 hd ht (fun h => k1 h v M' (by rw [if_pos h] at hr; exact hr) p e s m args below meth c H locs ls B hP hS hl) (fun h => k2 h v M' (by rw [if_neg h] at hr; exact hr) p e s m args below meth c H locs ls B hP hS hl)
theorem r_if_ge {x : Int32} {off : Int} {tgt : Nat} [Decidable (0 ≤ x)] {a b : σ} (hd : decode (miC mi) pc = .ok (.ifCond .ge off, 3)) (ht : (pc : Int) + off = (tgt : Int)) (k1 : 0 ≤ x → Wr G mi dn tgt lv st M a) (k2 : ¬ 0 ≤ x → Wr G mi dn (pc + 3) lv st M b) : Wr G mi dn pc lv (.int x :: st) M (if 0 ≤ x then a else b) := fun v M' hr p e s m args below meth c H locs ls B hP hS hl =>
  lv_if_ge B.1 B.2.1 hd ht (fun h => k1 h v M' (by rw [if_pos h] at hr; exact hr) p e s m args below meth c H locs ls B hP hS hl) (fun h => k2 h v M' (by rw [if_neg h] at hr; exact hr) p e s m args below meth c H locs ls B hP hS hl)
theorem r_icmp_ge {x y : Int32} {off : Int} {tgt : Nat} [Decidable (y ≤ x)] {a b : σ} (hd : decode (miC mi) pc = .ok (.if_icmp .ge off, 3)) (ht : (pc : Int) + off = (tgt : Int)) (k1 : y ≤ x → Wr G mi dn tgt lv st M a) (k2 : ¬ y ≤ x → Wr G mi dn (pc + 3) lv st M b) : Wr G mi dn pc lv (.int y :: .int x :: st) M (if y ≤ x then a else b) := fun v M' hr p e s m args below meth c H locs ls B hP hS hl =>
  lv_icmp_ge B.1 B.2.1 hd ht (fun h => k1 h v M' (by rw [if_pos h] at hr; exact hr) p e s m args below meth c H locs ls B hP hS hl) (fun h => k2 h v M' (by rw [if_neg h] at hr; exact hr) p e s m args below meth c H locs ls B hP hS hl)
theorem r_if_gt {x : Int32} {off : Int} {tgt : Nat} [Decidable (0 < x)] {a b : σ} (hd : decode (miC mi) pc = .ok (.ifCond .gt off, 3)) (ht : (pc : Int) + off = (tgt : Int)) (k1 : 0 < x → Wr G mi dn tgt lv st M a) (k2 : ¬ 0 < x → Wr G mi dn (pc + 3) lv st M b) : Wr G mi dn pc lv (.int x :: st) M (if 0 < x then a else b) := fun v M' hr p e s m args below meth c H locs ls B hP hS hl =>
  lv_if_gt B.1 B.2.1 hd ht (fun h => k1 h v M' (by rw [if_pos h] at hr; exact hr) p e s m args below meth c H locs ls B hP hS hl) (fun h => k2 h v M' (by rw [if_neg h] at hr; exact hr) p e s m args below meth c H locs ls B hP hS hl)
theorem r_icmp_gt {x y : Int32} {off : Int} {tgt : Nat} [Decidable (y < x)] {a b : σ} (hd : decode (miC mi) pc = .ok (.if_icmp .gt off, 3)) (ht : (pc : Int) + off = (tgt : Int)) (k1 : y < x → Wr G mi dn tgt lv st M a) (k2 : ¬ y < x → Wr G mi dn (pc + 3) lv st M b) : Wr G mi dn pc lv (.int y :: .int x :: st) M (if y < x then a else b) := fun v M' hr p e s m args below meth c H locs ls B hP hS hl =>
  lv_icmp_gt B.1 B.2.1 hd ht (fun h => k1 h v M' (by rw [if_pos h] at hr; exact hr) p e s m args below meth c H locs ls B hP hS hl) (fun h => k2 h v M' (by rw [if_neg h] at hr; exact hr) p e s m args below meth c H locs ls B hP hS hl)
theorem r_if_le {x : Int32} {off : Int} {tgt : Nat} [Decidable (x ≤ 0)] {a b : σ} (hd : decode (miC mi) pc = .ok (.ifCond .le off, 3)) (ht : (pc : Int) + off = (tgt : Int)) (k1 : x ≤ 0 → Wr G mi dn tgt lv st M a) (k2 : ¬ x ≤ 0 → Wr G mi dn (pc + 3) lv st M b) : Wr G mi dn pc lv (.int x :: st) M (if x ≤ 0 then a else b) := fun v M' hr p e s m args below meth c H locs ls B hP hS hl =>
  lv_if_le B.1 B.2.1 hd ht (fun h => k1 h v M' (by rw [if_pos h] at hr; exact hr) p e s m args below meth c H locs ls B hP hS hl) (fun h => k2 h v M' (by rw [if_neg h] at hr; exact hr) p e s m args below meth c H locs ls B hP hS hl)
theorem r_icmp_le {x y : Int32} {off : Int} {tgt : Nat} [Decidable (x ≤ y)] {a b : σ} (hd : decode (miC mi) pc = .ok (.if_icmp .le off, 3)) (ht : (pc : Int) + off = (tgt : Int)) (k1 : x ≤ y → Wr G mi dn tgt lv st M a) (k2 : ¬ x ≤ y → Wr G mi dn (pc + 3) lv st M b) : Wr G mi dn pc lv (.int y :: .int x :: st) M (if x ≤ y then a else b) := fun v M' hr p e s m args below meth c H locs ls B hP hS hl =>
  lv_icmp_le B.1 B.2.1 hd ht (fun h => k1 h v M' (by rw [if_pos h] at hr; exact hr) p e s m args below meth c H locs ls B hP hS hl) (fun h => k2 h v M' (by rw [if_neg h] at hr; exact hr) p e s m args below meth c H locs ls B hP hS hl)
theorem r_ifz_eq {t : Bool} {off : Int} {tgt : Nat} {a b : σ} (hd : decode (miC mi) pc = .ok (.ifCond .eq off, 3)) (ht : (pc : Int) + off = (tgt : Int)) (k1 : t = true → Wr G mi dn (pc + 3) lv st M a) (k2 : ¬ t = true → Wr G mi dn tgt lv st M b) : Wr G mi dn pc lv (.int (b2i t) :: st) M (if t = true then a else b) := by
  by_cases h : t = true
  · rw [if_pos h]
    exact r_eq (r' := if b2i t = 0 then a else a) (by split <;> rfl) (r_if_eq hd ht (fun q => absurd h ((b2i_0 t).mp q)) (fun _ => k1 h))
  · rw [if_neg h]
    exact r_eq (r' := if b2i t = 0 then b else b) (by split <;> rfl) (r_if_eq hd ht (fun _ => k2 h) (fun q => absurd ((b2i_0 t).mpr h) q))
theorem r_ifz_ne {t : Bool} {off : Int} {tgt : Nat} {a b : σ} (hd : decode (miC mi) pc = .ok (.ifCond .ne off, 3)) (ht : (pc : Int) + off = (tgt : Int)) (k1 : t = true → Wr G mi dn tgt lv st M a) (k2 : ¬ t = true → Wr G mi dn (pc + 3) lv st M b) : Wr G mi dn pc lv (.int (b2i t) :: st) M (if t = true then a else b) := by
  by_cases h : t = true
  · rw [if_pos h]
    exact r_eq (r' := if b2i t = 0 then a else a) (by split <;> rfl) (r_if_ne hd ht (fun q => absurd h ((b2i_0 t).mp q)) (fun _ => k1 h))
  · rw [if_neg h]
    exact r_eq (r' := if b2i t = 0 then b else b) (by split <;> rfl) (r_if_ne hd ht (fun _ => k2 h) (fun q => absurd ((b2i_0 t).mpr h) q))
end RULES
