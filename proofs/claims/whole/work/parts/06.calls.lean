/-! ===== a method out of its walk ===== -/
def zargs : List Value → List (Option Value)
  | [] => []
  | v :: vs => if v.category = 2 then some v :: none :: zargs vs else some v :: zargs vs
theorem zargs_mem : ∀ (vs : List Value) (b i : Nat) (v : Value), (zargs vs)[i]? = some (some v) → (b + i, v) ∈ lv_args b vs := by
  intro vs
  induction vs with
  | nil => intro b i v h; simp [zargs] at h
  | cons w vs ih =>
    intro b i v h
    rw [zargs] at h
    rw [lv_args]
    by_cases hc : w.category = 2
    · rw [if_pos hc] at h
      rw [if_pos hc]
      match i, h with
      | 0, h => have e : w = v := by simpa using h
                subst e; exact List.mem_cons_self
      | 1, h => simp at h
      | i + 2, h =>
        have := ih (b + 2) i v (by simpa using h)
        rw [show b + (i + 2) = b + 2 + i by omega]
        exact List.mem_cons_of_mem _ this
    · rw [if_neg hc] at h
      rw [if_neg hc]
      match i, h with
      | 0, h => have e : w = v := by simpa using h
                subst e; exact List.mem_cons_self
      | i + 1, h =>
        have := ih (b + 1) i v (by simpa using h)
        rw [show b + (i + 1) = b + 1 + i by omega]
        exact List.mem_cons_of_mem _ this
theorem zlv_args {ls : Array Slot} {nL : Nat} {vs : List Value} (h : lv_has ls nL (lv_args 0 vs)) : zlv ls nL (zargs vs) := ⟨h.1, h.2.1, fun i v hi => by
  have := zargs_mem vs 0 i v hi
  rw [Nat.zero_add] at this
  exact h.2.2 (i, v) this⟩
theorem Mt_of {σ : Type} {G : Gh} {mi : MI} {As : List Value} {M : Mem} {dn : σ → Option (Option Value × Mem)} {r : σ} (hY : plainName (miY mi).cls = true) (hO : (miY mi).cls = miO mi) (hL : (lg_sl As).length ≤ miL mi) {lv : List (Option Value)} (hlv : zargs As = lv) (k : Wr G mi dn 0 lv [] M r) : Mt G mi As M (dn r) := by
  intro v M' hr
  refine Met.ofW (cc := miC mi) (maxL := miL mi) (ret := miR mi) hY rfl ?_
  intro p e s m args below meth c s₁ B hml hv
  obtain ⟨rfl, hP, hK, hI, hT⟩ := hv
  have hts := atoms_spec (ws := .code (miY mi) (miC mi) (miL mi) (miR mi) :: zTB) B.pre
  have hl := lv_entry As hL
  rw [lg_entry_eq]
  generalize (lg_sl As ++ List.replicate (miL mi - (lg_sl As).length) Slot.unset).toArray = ls at hl ⊢
  subst hlv
  exact k v M' hr p e s m _ below meth c s.heap [] ls ⟨B.exec, B.bytes, hml, by rw [← hO]; exact findClass_of_methodNamed B.named, fun w hw => hts w (List.mem_cons_of_mem _ hw), hK, hI, hT, B.returns, B.notSynchronized⟩ hP va_S.rf (zlv_args hl)
theorem Mt_none {σ : Type} {G : Gh} {mi : MI} {As : List Value} {M : Mem} {x : Option (Option Value × Mem)} (h : x = none) : Mt G mi As M x := fun v M' hr => by rw [h] at hr; cases hr
/-! ===== calls ===== -/
/-- a call that stands on the stack: what follows it may be walked instead -/
def zCall (G : Gh) (mi : MI) (pc : Nat) (lv : List (Option Value)) (stk rest : List Value) (M : Mem) (x : Option (Option Value × Mem)) : Prop := ∀ (σ : Type) (dn : σ → Option (Option Value × Mem)) (r : σ),
  (∀ (v : Option Value) (M1 : Mem), x = some (v, M1) → Wr G mi dn (pc + 3) lv (v.toList ++ rest) M1 r) → (x = none → dn r = none) → Wr G mi dn pc lv stk M r
/-- what the tables say of a method that is called -/
def zCalV (mi : MI) (n : Nat) : Prop := (Cond.code (miY mi) (miC mi) (miL mi) (miR mi) ∈ zTB ∧ Cond.instanceMethod (miY mi) ∈ zTB ∧ Cond.selects (miY mi).cls (miY mi) (miY mi) ∈ zTB ∧ Cond.initialized (miY mi).cls ∈ zTB) ∧ ((miY mi).cls ≠ "java/lang/invoke/MethodHandle" ∧ (miY mi).cls ≠ "java/lang/invoke/VarHandle" ∧ (parseMethodDescriptor (miY mi).desc).map (fun d => d.parameters.length) = some n) ∧ miL mi ≤ 22
def zCalS (mi : MI) (n : Nat) : Prop := (Cond.code (miY mi) (miC mi) (miL mi) (miR mi) ∈ zTB ∧ Cond.static (miY mi) ∈ zTB ∧ Cond.initialized (miY mi).cls ∈ zTB) ∧ ((miY mi).cls ≠ "java/lang/invoke/MethodHandle" ∧ (miY mi).cls ≠ "java/lang/invoke/VarHandle" ∧ (parseMethodDescriptor (miY mi).desc).map (fun d => d.parameters.length) = some n) ∧ miL mi ≤ 22
section CALLS
variable {σ : Type} {G : Gh} {mi : MI} {dn : σ → Option (Option Value × Mem)} {pc : Nat} {lv lv' : List (Option Value)} {st : List Value} {M : Mem} {r : σ}
/-- behind a call -/
theorem zgo {mi' : MI} (hT : miT mi' = miT mi) {p : Program} {e : Env} {s : State} {m : MethodId} {args : Array Value} {below : List Frame} {meth : Method} {c : Code} {H : Heap} {locs : List Loc} {ls : Array Slot} {stk rest : List Value} {a : Array Value} {Q : State → Prop} {v : Option Value} {M1 : Mem}
    (hr : va_Run p G.1 e (zRm (miK mi)) s m args below meth c H locs 0 0 0 0 (F0 m pc ls stk) rest (zQ G (miT mi') v M1 a) (zA G (miT mi'))) (hS : va_S (zA G (miT mi)) s.heap H locs)
    (kk : ∀ (H1 : Heap) (locs1 : List Loc), va_P G.2.1 vwCl (zWs G (miT mi) M1) H1 → va_S (zA G (miT mi)) s.heap H1 locs1 → W p G.1 e (zRm (miK mi)) s m args below meth c H1 locs1 0 0 Q (F0 m (pc + 3) ls (v.toList ++ rest))) : W p G.1 e (zRm (miK mi)) s m args below meth c H locs 0 0 Q (F0 m pc ls stk) := by
  rw [hT] at hr
  intro T hTh X
  obtain ⟨v2, st₀, t, T', L, h0, X', hL, e1, e2, ⟨hv, hP1, hF⟩, st⟩ := hr T hTh X
  cases hv
  have hF' : H.size ≤ t.heap.size ∧ ∀ q : Nat, q < H.size → ¬ zA G (miT mi) q → t.heap[q]? = H[q]? := by rw [← h0]; exact hF
  obtain ⟨t2, a1, b1⟩ := kk T'.heap (locs ++ L) (by rw [e1]; exact hP1)
    ⟨Nat.le_trans hS.1 (by rw [e1]; exact hF'.1), fun q h1 h2 => by rw [e1, hF'.2 q (Nat.lt_of_lt_of_le h1 hS.1) h2]; exact hS.2.1 q h1 h2, fun q hq => by
      rcases List.mem_append.mp hq with h | h
      · exact hS.2.2 q h
      · exact hL q h⟩ T' rfl X'
  exact ⟨t2, st t2 a1, b1⟩
theorem zpre {mi' : MI} (hT : miT mi' = miT mi) {As : List Value} {p : Program} {s : State} {m : MethodId} {args : Array Value} {meth : Method} {c : Code} {H : Heap} {locs : List Loc} (B : zBd G mi p s m args meth c) (hP : va_P G.2.1 vwCl (zWs G (miT mi) M) H) (hS : va_S (zA G (miT mi)) s.heap H locs) : ∀ U : State, U.heap = H → s.WarmedH U.vm → va_Pc As (zBp G (miT mi') M) As.toArray U := fun U hU hW => by
  refine ⟨rfl, ?_⟩
  rw [hT]
  refine ⟨by rw [hU]; exact hP, va_K.moved hW.alike B.2.2.2.2.2.1, B.2.2.2.2.2.2.1, ?_⟩
  have := zStt_go (H1 := H) hW (fun a h1 h2 => hS.2.1 a h1 h2) B.2.2.2.2.2.2.2.1
  rw [hU]
  exact this
theorem zroom {mi' : MI} (hk : miK mi' + 1 ≤ miK mi) (hl : miL mi' ≤ 22) : (zRm (miK mi')).frames + 1 ≤ (zRm (miK mi)).frames ∧ 8 + (miL mi' + 11) + (zRm (miK mi')).locals ≤ (zRm (miK mi)).locals := by
  refine ⟨hk, ?_⟩
  show 8 + (miL mi' + 11) + 41 * miK mi' ≤ 41 * miK mi
  omega
theorem inv_V {mi' : MI} {As rest stk : List Value} {b idx n c0 N : Nat} {TT : u_T} {x : Option (Option Value × Mem)} (hM : Mt G mi' (.ref (G.2.2.2 b) :: As) M x) (hT : miT mi' = miT mi) (hk : miK mi' + 1 ≤ miK mi) (hd : decode (miC mi) pc = .ok (.invokevirtual idx, 3)) (hl0 : Cond.methodLink (miO mi) idx (miY mi') ∈ zTB) (hcal : zCalV mi' n)
    (hb : zcl (miT mi) b = some c0) (hc : vwCl[c0]? = some ((miY mi').cls, TT, N)) (hn : As.length = n) (hW : (rest.map fun v => v.category).sum ≤ 8) (hst : As.reverse ++ .ref (G.2.2.2 b) :: rest = stk) : zCall G mi pc lv stk rest M x := by
  intro σ dn r k h0
  cases hx : x with
  | none => exact r_none (h0 hx)
  | some q =>
    obtain ⟨v, M1⟩ := q
    intro v' M' hr p e s m args below meth c' H locs ls B hP hS hl
    obtain ⟨⟨g1, g2, g3, g4⟩, g5, g6⟩ := hcal
    obtain ⟨fl, hfl⟩ := zcl_spec hb
    have hW0 := zWs_get G M hfl
    have gi : GoodIn zTB (wsV (miO mi) idx (miY mi').cls (miY mi') (.code (miY mi') (miC mi') (miL mi') (miR mi') :: zTB)) := zTB_sub (fun w hw => by
      simp only [wsV, List.cons_append, List.nil_append, List.mem_cons] at hw
      rcases hw with rfl | rfl | rfl | rfl | rfl | hw
      · exact hl0
      · exact g2
      · exact g3
      · exact g4
      · exact g1
      · exact hw)
    have hrun := va_runV (e := e) (below := below) (meth := meth) (locs := locs) (H := H) (cells := 0) (slots := 0) (R := zRm (miK mi)) ⟨B.1, B.2.1, B.2.2.1, B.2.2.2.1, B.2.2.2.2.1⟩ (hM v M1 hx) (cwV n B.2.2.2.2.1 gi rfl rfl rfl ⟨rfl, g5⟩ (zroom hk g6)) (b := G.2.2.2 b) (As := As) (rest := rest) (g := F0 m pc ls stk)
      ⟨zBp_blind, va_recv B.2.2.2.2.2.1 hP hc hW0, zpre hT B hP hS⟩ rfl hn hl.1 (by rw [← hst]) (lv_room hW) hd ⟨Nat.zero_le _, Nat.zero_le _⟩
    exact zgo hT hrun hS (fun H1 locs1 hP1 hS1 => k v M1 hx v' M' hr p e s m args below meth c' H1 locs1 ls B hP1 hS1 hl)
theorem inv_VN {mi' : MI} {As rest stk : List Value} {b idx n c0 N : Nat} {TT : u_T} {host : String} {x : Option (Option Value × Mem)} (hM : Mt G mi' (.ref (G.2.2.2 b) :: As) M x) (hT : miT mi' = miT mi) (hk : miK mi' + 1 ≤ miK mi) (hd : decode (miC mi) pc = .ok (.invokevirtual idx, 3)) (hl0 : (miO mi, idx, miY mi', host) ∈ zNest) (hcal : zCalV mi' n)
    (hb : zcl (miT mi) b = some c0) (hc : vwCl[c0]? = some ((miY mi').cls, TT, N)) (hn : As.length = n) (hW : (rest.map fun v => v.category).sum ≤ 8) (hst : As.reverse ++ .ref (G.2.2.2 b) :: rest = stk) : zCall G mi pc lv stk rest M x := by
  intro σ dn r k h0
  cases hx : x with
  | none => exact r_none (h0 hx)
  | some q =>
    obtain ⟨v, M1⟩ := q
    intro v' M' hr p e s m args below meth c' H locs ls B hP hS hl
    obtain ⟨⟨g1, g2, g3, g4⟩, g5, g6⟩ := hcal
    obtain ⟨fl, hfl⟩ := zcl_spec hb
    have hW0 := zWs_get G M hfl
    have hrun := va_runVN (C := (miY mi').cls) (e := e) (below := below) (meth := meth) (locs := locs) (H := H) (cells := 0) (slots := 0) (R := zRm (miK mi)) ⟨B.1, B.2.1, B.2.2.1, B.2.2.2.1, B.2.2.2.2.1⟩ (hM v M1 hx) ⟨va_cnB n B.2.2.2.2.1 (zTB_goodIn g1) rfl rfl rfl (B.2.2.2.2.2.2.2.1.2.2.2 _ hl0) (B.2.2.2.2.1 _ g4) g5 (zroom hk g6), B.2.2.2.2.1 _ g2, B.2.2.2.2.1 _ g3⟩ (b := G.2.2.2 b) (As := As) (rest := rest) (g := F0 m pc ls stk)
      ⟨zBp_blind, va_recv B.2.2.2.2.2.1 hP hc hW0, zpre hT B hP hS⟩ rfl hn hl.1 (by rw [← hst]) (lv_room hW) hd ⟨Nat.zero_le _, Nat.zero_le _⟩
    exact zgo hT hrun hS (fun H1 locs1 hP1 hS1 => k v M1 hx v' M' hr p e s m args below meth c' H1 locs1 ls B hP1 hS1 hl)
theorem inv_S {mi' : MI} {As rest stk : List Value} {idx n : Nat} {x : Option (Option Value × Mem)} (hM : Mt G mi' As M x) (hT : miT mi' = miT mi) (hk : miK mi' + 1 ≤ miK mi) (hd : decode (miC mi) pc = .ok (.invokestatic idx, 3)) (hl0 : Cond.methodLink (miO mi) idx (miY mi') ∈ zTB) (hcal : zCalS mi' n)
    (hn : As.length = n) (hW : (rest.map fun v => v.category).sum ≤ 8) (hst : As.reverse ++ rest = stk) : zCall G mi pc lv stk rest M x := by
  intro σ dn r k h0
  cases hx : x with
  | none => exact r_none (h0 hx)
  | some q =>
    obtain ⟨v, M1⟩ := q
    intro v' M' hr p e s m args below meth c' H locs ls B hP hS hl
    obtain ⟨⟨g1, g2, g4⟩, g5, g6⟩ := hcal
    have gi : GoodIn zTB (va_wsS (miO mi) idx (miY mi') (.code (miY mi') (miC mi') (miL mi') (miR mi') :: zTB)) := zTB_sub (fun w hw => by
      simp only [va_wsS, List.cons_append, List.nil_append, List.mem_cons] at hw
      rcases hw with rfl | rfl | rfl | rfl | hw
      · exact hl0
      · exact g2
      · exact g4
      · exact g1
      · exact hw)
    have hrun := va_runS (e := e) (below := below) (meth := meth) (locs := locs) (H := H) (cells := 0) (slots := 0) (R := zRm (miK mi)) ⟨B.1, B.2.1, B.2.2.1, B.2.2.2.1, B.2.2.2.2.1⟩ (hM v M1 hx) (va_cwS n B.2.2.2.2.1 gi rfl rfl rfl g5 (zroom hk g6)) (As := As) (rest := rest) (g := F0 m pc ls stk)
      ⟨zBp_blind, zpre hT B hP hS⟩ rfl hn hl.1 (by rw [← hst]) (lv_room hW) hd ⟨Nat.zero_le _, Nat.zero_le _⟩
    exact zgo hT hrun hS (fun H1 locs1 hP1 hS1 => k v M1 hx v' M' hr p e s m args below meth c' H1 locs1 ls B hP1 hS1 hl)
theorem inv_SN {mi' : MI} {As rest stk : List Value} {idx n : Nat} {host : String} {x : Option (Option Value × Mem)} (hM : Mt G mi' As M x) (hT : miT mi' = miT mi) (hk : miK mi' + 1 ≤ miK mi) (hd : decode (miC mi) pc = .ok (.invokestatic idx, 3)) (hl0 : (miO mi, idx, miY mi', host) ∈ zNest) (hcal : zCalS mi' n)
    (hn : As.length = n) (hW : (rest.map fun v => v.category).sum ≤ 8) (hst : As.reverse ++ rest = stk) : zCall G mi pc lv stk rest M x := by
  intro σ dn r k h0
  cases hx : x with
  | none => exact r_none (h0 hx)
  | some q =>
    obtain ⟨v, M1⟩ := q
    intro v' M' hr p e s m args below meth c' H locs ls B hP hS hl
    obtain ⟨⟨g1, g2, g4⟩, g5, g6⟩ := hcal
    have hrun := va_runSN (e := e) (below := below) (meth := meth) (locs := locs) (H := H) (cells := 0) (slots := 0) (R := zRm (miK mi)) ⟨B.1, B.2.1, B.2.2.1, B.2.2.2.1, B.2.2.2.2.1⟩ (hM v M1 hx) ⟨va_cnB n B.2.2.2.2.1 (zTB_goodIn g1) rfl rfl rfl (B.2.2.2.2.2.2.2.1.2.2.2 _ hl0) (B.2.2.2.2.1 _ g4) g5 (zroom hk g6), B.2.2.2.2.1 _ g2, trivial⟩ (As := As) (rest := rest) (g := F0 m pc ls stk)
      ⟨zBp_blind, zpre hT B hP hS⟩ rfl hn hl.1 (by rw [← hst]) (lv_room hW) hd ⟨Nat.zero_le _, Nat.zero_le _⟩
    exact zgo hT hrun hS (fun H1 locs1 hP1 hS1 => k v M1 hx v' M' hr p e s m args below meth c' H1 locs1 ls B hP1 hS1 hl)
/-! what follows, by what the callee answers -/
theorem c_I {stk rest : List Value} {x : Int32} (h : zCall G mi pc lv stk rest M (dI M x)) (k : Wr G mi dn (pc + 3) lv (.int x :: rest) M r) : Wr G mi dn pc lv stk M r := h _ _ _ (fun v M1 e => by cases e; exact k) (fun e => by cases e)
theorem c_Z {stk rest : List Value} {x : Bool} (h : zCall G mi pc lv stk rest M (dZ M x)) (k : Wr G mi dn (pc + 3) lv (.int (b2i x) :: rest) M r) : Wr G mi dn pc lv stk M r := h _ _ _ (fun v M1 e => by cases e; exact k) (fun e => by cases e)
theorem c_L {stk rest : List Value} {x : Int64} (h : zCall G mi pc lv stk rest M (dL M x)) (k : Wr G mi dn (pc + 3) lv (.long x :: rest) M r) : Wr G mi dn pc lv stk M r := h _ _ _ (fun v M1 e => by cases e; exact k) (fun e => by cases e)
theorem c_V {stk rest : List Value} {x : Mem} {f : Mem → σ} (h : zCall G mi pc lv stk rest M (dV x)) (k : ∀ M1 : Mem, Wr G mi dn (pc + 3) lv rest M1 (f M1)) : Wr G mi dn pc lv stk M (lt_ x f) := h _ _ _ (fun v M1 e => by cases e; exact k _) (fun e => by cases e)
theorem c_IM {stk rest : List Value} {x : Int32 × Mem} {f : Int32 → Mem → σ} (h : zCall G mi pc lv stk rest M (dIM x)) (k : ∀ (v : Int32) (M1 : Mem), Wr G mi dn (pc + 3) lv (.int v :: rest) M1 (f v M1)) : Wr G mi dn pc lv stk M (lp_ x f) := h _ _ _ (fun v M1 e => by cases e; exact k _ _) (fun e => by cases e)
theorem c_ZM {stk rest : List Value} {x : Bool × Mem} {f : Bool → Mem → σ} (h : zCall G mi pc lv stk rest M (dZM x)) (k : ∀ (v : Bool) (M1 : Mem), Wr G mi dn (pc + 3) lv (.int (b2i v) :: rest) M1 (f v M1)) : Wr G mi dn pc lv stk M (lp_ x f) := h _ _ _ (fun v M1 e => by cases e; exact k _ _) (fun e => by cases e)
theorem c_LM {stk rest : List Value} {x : Int64 × Mem} {f : Int64 → Mem → σ} (h : zCall G mi pc lv stk rest M (dLM x)) (k : ∀ (v : Int64) (M1 : Mem), Wr G mi dn (pc + 3) lv (.long v :: rest) M1 (f v M1)) : Wr G mi dn pc lv stk M (lp_ x f) := h _ _ _ (fun v M1 e => by cases e; exact k _ _) (fun e => by cases e)
theorem c_OI {τ : Type} {dn : Option τ → Option (Option Value × Mem)} (hs : dn none = none) {stk rest : List Value} {x : Option Int32} {f : Int32 → Option τ} (h : zCall G mi pc lv stk rest M (dO (dI M) x)) (k : ∀ v : Int32, Wr G mi dn (pc + 3) lv (.int v :: rest) M (f v)) : Wr G mi dn pc lv stk M (bo_ x f) := by
  cases x with
  | none => exact r_none hs
  | some y => exact h _ _ _ (fun v M1 e => by cases e; exact k y) (fun e => by cases e)
theorem c_OZ {τ : Type} {dn : Option τ → Option (Option Value × Mem)} (hs : dn none = none) {stk rest : List Value} {x : Option Bool} {f : Bool → Option τ} (h : zCall G mi pc lv stk rest M (dO (dZ M) x)) (k : ∀ v : Bool, Wr G mi dn (pc + 3) lv (.int (b2i v) :: rest) M (f v)) : Wr G mi dn pc lv stk M (bo_ x f) := by
  cases x with
  | none => exact r_none hs
  | some y => exact h _ _ _ (fun v M1 e => by cases e; exact k y) (fun e => by cases e)
theorem c_OL {τ : Type} {dn : Option τ → Option (Option Value × Mem)} (hs : dn none = none) {stk rest : List Value} {x : Option Int64} {f : Int64 → Option τ} (h : zCall G mi pc lv stk rest M (dO (dL M) x)) (k : ∀ v : Int64, Wr G mi dn (pc + 3) lv (.long v :: rest) M (f v)) : Wr G mi dn pc lv stk M (bo_ x f) := by
  cases x with
  | none => exact r_none hs
  | some y => exact h _ _ _ (fun v M1 e => by cases e; exact k y) (fun e => by cases e)
theorem c_OV {τ : Type} {dn : Option τ → Option (Option Value × Mem)} (hs : dn none = none) {stk rest : List Value} {x : Option Mem} {f : Mem → Option τ} (h : zCall G mi pc lv stk rest M (dO dV x)) (k : ∀ M1 : Mem, Wr G mi dn (pc + 3) lv rest M1 (f M1)) : Wr G mi dn pc lv stk M (bo_ x f) := by
  cases x with
  | none => exact r_none hs
  | some y => exact h _ _ _ (fun v M1 e => by cases e; exact k y) (fun e => by cases e)
theorem c_OIM {τ : Type} {dn : Option τ → Option (Option Value × Mem)} (hs : dn none = none) {stk rest : List Value} {x : Option (Int32 × Mem)} {f : Int32 → Mem → Option τ} (h : zCall G mi pc lv stk rest M (dO dIM x)) (k : ∀ (v : Int32) (M1 : Mem), Wr G mi dn (pc + 3) lv (.int v :: rest) M1 (f v M1)) : Wr G mi dn pc lv stk M (bp_ x f) := by
  cases x with
  | none => exact r_none hs
  | some y => exact h _ _ _ (fun v M1 e => by cases e; exact k y.1 y.2) (fun e => by cases e)
theorem c_OZM {τ : Type} {dn : Option τ → Option (Option Value × Mem)} (hs : dn none = none) {stk rest : List Value} {x : Option (Bool × Mem)} {f : Bool → Mem → Option τ} (h : zCall G mi pc lv stk rest M (dO dZM x)) (k : ∀ (v : Bool) (M1 : Mem), Wr G mi dn (pc + 3) lv (.int (b2i v) :: rest) M1 (f v M1)) : Wr G mi dn pc lv stk M (bp_ x f) := by
  cases x with
  | none => exact r_none hs
  | some y => exact h _ _ _ (fun v M1 e => by cases e; exact k y.1 y.2) (fun e => by cases e)
theorem c_OLM {τ : Type} {dn : Option τ → Option (Option Value × Mem)} (hs : dn none = none) {stk rest : List Value} {x : Option (Int64 × Mem)} {f : Int64 → Mem → Option τ} (h : zCall G mi pc lv stk rest M (dO dLM x)) (k : ∀ (v : Int64) (M1 : Mem), Wr G mi dn (pc + 3) lv (.long v :: rest) M1 (f v M1)) : Wr G mi dn pc lv stk M (bp_ x f) := by
  cases x with
  | none => exact r_none hs
  | some y => exact h _ _ _ (fun v M1 e => by cases e; exact k y.1 y.2) (fun e => by cases e)
/-! Math.max, Math.min, System.arraycopy -/
theorem r_max {x y : Int32} {rest : List Value} {idx : Nat} (hd : decode (miC mi) pc = .ok (.invokestatic idx, 3)) (hl0 : Cond.methodLink (miO mi) idx Lib.Math.max.name ∈ zTB) (h1 : Cond.static Lib.Math.max.name ∈ zTB) (h2 : Cond.initialized "java/lang/Math" ∈ zTB) (h3 : Cond.code Lib.Math.max.name Lib.Math.max.code 2 (some .int) ∈ zTB) (hk : 1 ≤ miK mi) (hW : (rest.map fun v => v.category).sum ≤ 8) (k : Wr G mi dn (pc + 3) lv (.int (if x < y then y else x) :: rest) M r) : Wr G mi dn pc lv (.int y :: .int x :: rest) M r := fun v' M' hr p e s m args below meth c' H locs ls B hP hS hl =>
  va_mmax B.1 B.2.1 (B.2.2.1.trans hl.1.symm) B.2.2.2.1 (B.2.2.2.2.1 _ hl0) (B.2.2.2.2.1 _ h1) (B.2.2.2.2.1 _ h2) (B.2.2.2.2.1 _ h3) hk (by show _ ≤ 41 * miK mi; omega) (Nat.zero_le _) (Nat.zero_le _) hd (k v' M' hr p e s m args below meth c' H locs ls B hP hS hl)
theorem r_min {x y : Int32} {rest : List Value} {idx : Nat} (hd : decode (miC mi) pc = .ok (.invokestatic idx, 3)) (hl0 : Cond.methodLink (miO mi) idx Lib.Math.min.name ∈ zTB) (h1 : Cond.static Lib.Math.min.name ∈ zTB) (h2 : Cond.initialized "java/lang/Math" ∈ zTB) (h3 : Cond.code Lib.Math.min.name Lib.Math.min.code 2 (some .int) ∈ zTB) (hk : 1 ≤ miK mi) (hW : (rest.map fun v => v.category).sum ≤ 8) (k : Wr G mi dn (pc + 3) lv (.int (if y < x then y else x) :: rest) M r) : Wr G mi dn pc lv (.int y :: .int x :: rest) M r := fun v' M' hr p e s m args below meth c' H locs ls B hP hS hl =>
  va_mmin B.1 B.2.1 (B.2.2.1.trans hl.1.symm) B.2.2.2.1 (B.2.2.2.2.1 _ hl0) (B.2.2.2.2.1 _ h1) (B.2.2.2.2.1 _ h2) (B.2.2.2.2.1 _ h3) hk (by show _ ≤ 41 * miK mi; omega) (Nat.zero_le _) (Nat.zero_le _) hd (k v' M' hr p e s m args below meth c' H locs ls B hP hS hl)
/-- may n places from sp of a row of n0 be copied to dp on of one of n1 -/
def cpOk (sp dp n : Int32) (n0 n1 : Nat) : Bool := decide (0 ≤ sp) && decide (0 ≤ dp) && decide (0 ≤ n) && decide (sp.toNatClampNeg + n.toNatClampNeg ≤ n0) && decide (dp.toNatClampNeg + n.toNatClampNeg ≤ n1)
theorem zi_nlt {a : Int32} (h : 0 ≤ a) : ¬ a < 0 := fun q => Int32.lt_irrefl (Int32.lt_of_lt_of_le q h)
theorem r_copy {k0 k1 n0 n1 : Nat} {sp dp n : Int32} {rest : List Value} {idx : Nat} {f : Mem → σ} (hd : decode (miC mi) pc = .ok (.invokestatic idx, 3)) (hl0 : Cond.methodLink (miO mi) idx arraycopyName ∈ zTB) (h1 : Cond.native arraycopyName ∈ zTB) (h2 : Cond.static arraycopyName ∈ zTB) (h3 : Cond.initialized "java/lang/System" ∈ zTB)
    (ha0 : zar (miT mi) k0 = some (0, n0)) (ha1 : zar (miT mi) k1 = some (0, n1)) (hc : cpOk sp dp n n0 n1 = true) (hk : 1 ≤ miK mi) (hW : (rest.map fun v => v.category).sum ≤ 8) (k : ∀ M1 : Mem, Wr G mi dn (pc + 3) lv rest M1 (f M1)) : Wr G mi dn pc lv (.int n :: .int dp :: .ref (G.2.2.2 k1) :: .int sp :: .ref (G.2.2.2 k0) :: rest) M (lt_ (uC M k0 k1 sp.toNatClampNeg dp.toNatClampNeg n.toNatClampNeg) f) := fun v' M' hr p e s m args below meth c' H locs ls B hP hS hl => by
  simp only [cpOk, Bool.and_eq_true, decide_eq_true_eq] at hc
  obtain ⟨⟨⟨⟨c1, c2⟩, c3⟩, c4⟩, c5⟩ := hc
  refine va_copyi B.1 B.2.1 (B.2.2.1.trans hl.1.symm) B.2.2.2.1 (B.2.2.2.2.1 _ hl0) (B.2.2.2.2.1 _ h1) (B.2.2.2.2.1 _ h2) (B.2.2.2.2.1 _ h3) B.2.2.2.2.2.1 hP (zD B.2.2.2.2.2.2.1 M) hS k0 k1 0 0 (zWs_arr G M ha0 (by decide)) (zWs_arr G M ha1 (by decide)) rfl rfl rfl (zi_nlt c1) (zi_nlt c2) (zi_nlt c3) c4 c5 (fun i _ => rfl) hk ?_ hd (fun H1 locs1 hP1 hD1 hS1 => ?_)
  · have hh : nativeFrameWords "java/lang/System" "arraycopy" 5 + 11 ≤ 33 := by decide
    show _ ≤ 41 * miK mi
    omega
  · rw [zset_cpy G M ha1 (by decide)] at hP1
    exact k _ v' M' hr p e s m args below meth c' H1 locs1 ls B hP1 hS1 hl
end CALLS
