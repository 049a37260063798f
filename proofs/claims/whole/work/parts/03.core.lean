/-! ===== memory: numbers of cells whose shape never changes; refs are constants of the shape ===== -/
abbrev ZC : Type := (Nat × List (FieldType × Nat)) ⊕ (Nat × Nat)
abbrev Mem : Type := (Nat → Nat → Int32) × (Nat → Nat → Int64)
/-- launch, the classes' numbers and slots, the array classes' numbers, the addresses -/
abbrev Gh : Type := Launch × va_G × (Nat → ClassId) × (Nat → Nat)
/-- shape, own class, method, bytes, locals, return type, rank -/
abbrev MI : Type := List ZC × String × MethodName × ByteArray × Nat × Option FieldType × Nat
def zty (t : Nat) : FieldType := match t with | 0 => .int | 1 => .byte | 2 => .boolean | _ => .long
def ztys (G : Gh) : List (ClassId × FieldType) := [(G.2.2.1 0, zty 0), (G.2.2.1 1, zty 1), (G.2.2.1 2, zty 2), (G.2.2.1 3, zty 3)]
def zFv (G : Gh) (M : Mem) (k j : Nat) (fd : FieldType × Nat) : Value := match fd.1 with
  | .long => .long (M.2 k j)
  | .object _ => .ref (G.2.2.2 fd.2)
  | .array _ => .ref (G.2.2.2 fd.2)
  | _ => .int (M.1 k j)
def zEnt (G : Gh) (M : Mem) (k : Nat) (d : ZC) : va_E := match d with
  | .inl o => .inr (o.1, o.2.mapIdx (fun j fd => zFv G M k j fd))
  | .inr a => .inl (G.2.2.1 a.1, a.2, if a.1 = 3 then .inr (.inl (M.2 k)) else .inl (M.1 k))
def zWs (G : Gh) (T : List ZC) (M : Mem) : va_W := T.mapIdx (fun k d => (G.2.2.2 k, zEnt G M k d))
def zA (G : Gh) (T : List ZC) : Nat → Prop := fun q => ∃ k, k < T.length ∧ q = G.2.2.2 k
def uI (M : Mem) (k i : Nat) (x : Int32) : Mem := (fun a b => if a = k ∧ b = i then x else M.1 a b, M.2)
def uL (M : Mem) (k i : Nat) (x : Int64) : Mem := (M.1, fun a b => if a = k ∧ b = i then x else M.2 a b)
def uC (M : Mem) (s d sp dp n : Nat) : Mem := (fun a b => if a = d ∧ dp ≤ b ∧ b < dp + n then M.1 s (sp + (b - dp)) else M.1 a b, M.2)
/-- the shape's field: class, type, target -/
def zfd (T : List ZC) (k j : Nat) : Option (Nat × FieldType × Nat) := match T[k]? with
  | some (.inl o) => (o.2[j]?).map fun fd => (o.1, fd.1, fd.2)
  | _ => none
def zar (T : List ZC) (k : Nat) : Option (Nat × Nat) := match T[k]? with
  | some (.inr a) => some a
  | _ => none
def zcl (T : List ZC) (k : Nat) : Option Nat := match T[k]? with
  | some (.inl o) => some o.1
  | _ => none
def zrf (T : List ZC) (k j : Nat) : Nat := match zfd T k j with
  | some x => x.2.2
  | none => 0
def zlen (T : List ZC) (k : Nat) : Nat := match zar T k with
  | some x => x.2
  | none => 0
theorem zWs_get (G : Gh) {T : List ZC} (M : Mem) {k : Nat} {d : ZC} (h : T[k]? = some d) : (zWs G T M)[k]? = some (G.2.2.2 k, zEnt G M k d) := by
  simp [zWs, List.getElem?_mapIdx, h]
theorem zar_spec {T : List ZC} {k t n : Nat} (h : zar T k = some (t, n)) : T[k]? = some (.inr (t, n)) := by
  unfold zar at h
  split at h
  · rename_i a e; rw [e]; cases h; rfl
  · cases h
theorem zlen_of {T : List ZC} {k t n : Nat} (h : zar T k = some (t, n)) : zlen T k = n := by unfold zlen; rw [h]
theorem zcl_spec {T : List ZC} {k c : Nat} (h : zcl T k = some c) : ∃ fl, T[k]? = some (.inl (c, fl)) := by
  unfold zcl at h
  split at h
  · rename_i a e; cases h; exact ⟨a.2, e⟩
  · cases h
theorem zfd_spec {T : List ZC} {k j c t : Nat} {ty : FieldType} (h : zfd T k j = some (c, ty, t)) : ∃ fl, T[k]? = some (.inl (c, fl)) ∧ fl[j]? = some (ty, t) := by
  unfold zfd at h
  split at h
  · rename_i o e
    cases h2 : o.2[j]? with
    | none => rw [h2] at h; cases h
    | some fd =>
      rw [h2] at h
      cases h
      exact ⟨o.2, e, h2⟩
  · cases h
theorem zWs_setA (G : Gh) {T : List ZC} (M M' : Mem) {k : Nat} {d : ZC} {en : va_E} (h : T[k]? = some d) (he : zEnt G M' k d = en) (ho : ∀ (a : Nat) (d' : ZC), a ≠ k → zEnt G M' a d' = zEnt G M a d') : (zWs G T M).set k (G.2.2.2 k, en) = zWs G T M' := by
  apply List.ext_getElem?
  intro i
  rw [List.getElem?_set]
  have hlt : k < T.length := by
    rcases Nat.lt_or_ge k T.length with q | q
    · exact q
    · rw [List.getElem?_eq_none q] at h; cases h
  by_cases hi : k = i
  · subst hi
    rw [zWs_get G M' h, he]
    simp [zWs, hlt]
  · rw [if_neg hi]
    simp only [zWs, List.getElem?_mapIdx]
    cases hT : T[i]? with
    | none => rfl
    | some d' => simp [ho i d' (fun e => hi e.symm)]
theorem zEnt_uI_ne (G : Gh) (M : Mem) {k i a : Nat} {x : Int32} (d : ZC) (h : a ≠ k) : zEnt G (uI M k i x) a d = zEnt G M a d := by
  rcases d with ⟨c, fl⟩ | ⟨t, n⟩
  · simp only [zEnt, uI]
    congr 3
    funext j fd
    simp [zFv, h]
  · simp only [zEnt, uI]
    congr 3
    split
    · rfl
    · congr 1; funext b; simp [h]
theorem zEnt_uL_ne (G : Gh) (M : Mem) {k i a : Nat} {x : Int64} (d : ZC) (h : a ≠ k) : zEnt G (uL M k i x) a d = zEnt G M a d := by
  rcases d with ⟨c, fl⟩ | ⟨t, n⟩
  · simp only [zEnt, uL]
    congr 3
    funext j fd
    simp [zFv, h]
  · simp only [zEnt, uL]
    congr 3
    split
    · congr 2; funext b; simp [h]
    · rfl
theorem zEnt_uC_ne (G : Gh) (M : Mem) {s d' sp dp n a : Nat} (d : ZC) (h : a ≠ d') : zEnt G (uC M s d' sp dp n) a d = zEnt G M a d := by
  rcases d with ⟨c, fl⟩ | ⟨t, n⟩
  · simp only [zEnt, uC]
    congr 3
    funext j fd
    simp [zFv, h]
  · simp only [zEnt, uC]
    congr 3
    split
    · rfl
    · congr 1; funext b; simp [h]
theorem zset_arrI (G : Gh) {T : List ZC} (M : Mem) {k t n i : Nat} (x : Int32) (h : zar T k = some (t, n)) (ht : t ≠ 3) : (zWs G T M).set k (G.2.2.2 k, .inl (G.2.2.1 t, n, .inl (upd (M.1 k) i x))) = zWs G T (uI M k i x) := by
  refine zWs_setA G M _ (zar_spec h) ?_ (fun a d' ha => zEnt_uI_ne G M d' ha)
  simp only [zEnt, ht, if_false, uI]
  congr 3
  simp only [Sum.inl.injEq]
  funext b
  simp [upd]
theorem zset_arrL (G : Gh) {T : List ZC} (M : Mem) {k n i : Nat} (x : Int64) (h : zar T k = some (3, n)) : (zWs G T M).set k (G.2.2.2 k, .inl (G.2.2.1 3, n, .inr (.inl (vp_updL (M.2 k) i x)))) = zWs G T (uL M k i x) := by
  refine zWs_setA G M _ (zar_spec h) ?_ (fun a d' ha => zEnt_uL_ne G M d' ha)
  simp only [zEnt, if_true, uL]
  congr 4
  simp only [Sum.inl.injEq]
  funext b
  simp [vp_updL]
theorem zset_cpy (G : Gh) {T : List ZC} (M : Mem) {s d t n sp dp c : Nat} (h : zar T d = some (t, n)) (ht : t ≠ 3) : (zWs G T M).set d (G.2.2.2 d, .inl (G.2.2.1 t, n, .inl (va_cpy (M.1 s) (M.1 d) sp dp c))) = zWs G T (uC M s d sp dp c) := by
  refine zWs_setA G M _ (zar_spec h) ?_ (fun a d' ha => zEnt_uC_ne G M d' ha)
  simp only [zEnt, ht, if_false, uC]
  congr 3
  simp only [Sum.inl.injEq]
  funext b
  simp [va_cpy]
theorem zset_fldI (G : Gh) {T : List ZC} (M : Mem) {k j c : Nat} {fl : List (FieldType × Nat)} {ty : FieldType} {tg : Nat} (x : Int32) (h : T[k]? = some (.inl (c, fl))) (hj : fl[j]? = some (ty, tg)) (hf : ∀ M : Mem, zFv G M k j (ty, tg) = .int (M.1 k j)) : (zWs G T M).set k (G.2.2.2 k, .inr (c, (fl.mapIdx (fun j fd => zFv G M k j fd)).set j (.int x))) = zWs G T (uI M k j x) := by
  refine zWs_setA G M _ h ?_ (fun a d' ha => zEnt_uI_ne G M d' ha)
  simp only [zEnt]
  congr 2
  apply List.ext_getElem?
  intro i
  rw [List.getElem?_set]
  have hlt : j < fl.length := by
    rcases Nat.lt_or_ge j fl.length with q | q
    · exact q
    · rw [List.getElem?_eq_none q] at hj; cases hj
  by_cases hi : j = i
  · subst hi
    simp only [List.getElem?_mapIdx, hj, Option.map_some, List.length_mapIdx, hlt, if_true, hf]
    simp [uI]
  · rw [if_neg hi]
    simp only [List.getElem?_mapIdx]
    cases fl[i]? with
    | none => rfl
    | some fd =>
      have hi' : ¬ i = j := fun e => hi e.symm
      simp [zFv, uI, hi']
theorem zset_fldL (G : Gh) {T : List ZC} (M : Mem) {k j c : Nat} {fl : List (FieldType × Nat)} {tg : Nat} (x : Int64) (h : T[k]? = some (.inl (c, fl))) (hj : fl[j]? = some (.long, tg)) : (zWs G T M).set k (G.2.2.2 k, .inr (c, (fl.mapIdx (fun j fd => zFv G M k j fd)).set j (.long x))) = zWs G T (uL M k j x) := by
  refine zWs_setA G M _ h ?_ (fun a d' ha => zEnt_uL_ne G M d' ha)
  simp only [zEnt]
  congr 2
  apply List.ext_getElem?
  intro i
  rw [List.getElem?_set]
  have hlt : j < fl.length := by
    rcases Nat.lt_or_ge j fl.length with q | q
    · exact q
    · rw [List.getElem?_eq_none q] at hj; cases hj
  by_cases hi : j = i
  · subst hi
    simp only [List.getElem?_mapIdx, hj, Option.map_some, List.length_mapIdx, hlt, if_true]
    simp [uL, zFv]
  · rw [if_neg hi]
    simp only [List.getElem?_mapIdx]
    cases fl[i]? with
    | none => rfl
    | some fd =>
      have hi' : ¬ i = j := fun e => hi e.symm
      simp [zFv, uL, hi']
/-! ===== locals by their places ===== -/
def zlv (ls : Array Slot) (nL : Nat) (lv : List (Option Value)) : Prop := ls.size = nL ∧ lv_wf ls ∧ ∀ (i : Nat) (v : Value), lv[i]? = some (some v) → ls[i]? = some (.val v)
def zal : Nat → List (Option Value) → List (Nat × Value)
  | _, [] => []
  | i, none :: l => zal (i + 1) l
  | i, some v :: l => (i, v) :: zal (i + 1) l
theorem zal_mem (lv : List (Option Value)) : ∀ (b : Nat) (q : Nat × Value), q ∈ zal b lv ↔ ∃ i, q.1 = b + i ∧ lv[i]? = some (some q.2) := by
  induction lv with
  | nil => intro b q; simp [zal]
  | cons o l ih =>
    intro b q
    cases o with
    | none =>
      rw [zal, ih (b + 1) q]
      constructor
      · rintro ⟨i, h1, h2⟩; exact ⟨i + 1, by omega, by simpa using h2⟩
      · rintro ⟨i, h1, h2⟩
        cases i with
        | zero => simp at h2
        | succ i => exact ⟨i, by omega, by simpa using h2⟩
    | some v =>
      rw [zal, List.mem_cons, ih (b + 1) q]
      constructor
      · rintro (rfl | ⟨i, h1, h2⟩)
        · exact ⟨0, rfl, rfl⟩
        · exact ⟨i + 1, by omega, by simpa using h2⟩
      · rintro ⟨i, h1, h2⟩
        cases i with
        | zero =>
          left
          have hv : v = q.2 := by simpa using h2
          rw [hv]
          exact Prod.ext h1 rfl
        | succ i => exact Or.inr ⟨i, by omega, by simpa using h2⟩
theorem zlv_has {ls : Array Slot} {nL : Nat} {lv : List (Option Value)} : zlv ls nL lv ↔ lv_has ls nL (zal 0 lv) := by
  constructor
  · rintro ⟨h1, h2, h3⟩
    refine ⟨h1, h2, fun q hq => ?_⟩
    obtain ⟨i, e, h⟩ := (zal_mem lv 0 q).mp hq
    rw [e, Nat.zero_add]
    exact h3 i q.2 h
  · rintro ⟨h1, h2, h3⟩
    refine ⟨h1, h2, fun i v h => ?_⟩
    exact h3 (i, v) ((zal_mem lv 0 (i, v)).mpr ⟨i, by simp, h⟩)
/-- the local below place i isn't a long -/
def zbel (lv : List (Option Value)) (i : Nat) : Bool := match i with
  | 0 => true
  | j + 1 => match lv[j]? with
    | some (some v) => v.category == 1
    | _ => true
theorem zlv_st1 {ls : Array Slot} {nL : Nat} {lv : List (Option Value)} {i : Nat} {v : Value} (h : zlv ls nL lv) (hi : i < nL) (hc : v.category = 1) (hb : zbel lv i = true) (lv' : List (Option Value)) (he : lv.set i (some v) = lv') :
    (i, v) :: (zal 0 lv).filter (fun q => !(q.1 == i) && !(q.1 + 1 == i && q.2.category == 2)) = (i, v) :: (zal 0 lv).filter (fun q => !(q.1 == i) && !(q.1 + 1 == i && q.2.category == 2)) ∧ (∀ ls' : Array Slot, lv_has ls' nL ((i, v) :: (zal 0 lv).filter (fun q => !(q.1 == i) && !(q.1 + 1 == i && q.2.category == 2))) → zlv ls' nL lv') := by
  refine ⟨rfl, fun ls' h' => ?_⟩
  obtain ⟨h1, h2, h3⟩ := h'
  refine ⟨h1, h2, fun j w hj => ?_⟩
  subst he
  rw [List.getElem?_set] at hj
  by_cases hij : i = j
  · subst hij
    rw [if_pos rfl] at hj
    by_cases hl : i < lv.length
    · rw [if_pos hl] at hj
      cases hj
      exact h3 (i, v) List.mem_cons_self
    · rw [if_neg hl] at hj; cases hj
  · rw [if_neg hij] at hj
    refine h3 (j, w) (List.mem_cons_of_mem _ (List.mem_filter.mpr ⟨(zal_mem lv 0 (j, w)).mpr ⟨j, by simp, hj⟩, ?_⟩))
    have hji : ¬ j = i := fun e => hij e.symm
    by_cases hj1 : j + 1 = i
    · subst hj1
      simp only [zbel, hj] at hb
      have : w.category = 1 := by simpa using hb
      simp [this]
    · simp [hji, hj1]
theorem zlv_st2 {ls : Array Slot} {nL : Nat} {lv : List (Option Value)} {i : Nat} {v : Value} (h : zlv ls nL lv) (hi : i + 1 < nL) (hc : v.category = 2) (hb : zbel lv i = true) (lv' : List (Option Value)) (he : (lv.set i (some v)).set (i + 1) none = lv') :
    (∀ ls' : Array Slot, lv_has ls' nL ((i, v) :: (zal 0 lv).filter (fun q => !(q.1 == i) && (!(q.1 == i + 1) && !(q.1 + 1 == i && q.2.category == 2)))) → zlv ls' nL lv') := by
  intro ls' h'
  obtain ⟨h1, h2, h3⟩ := h'
  refine ⟨h1, h2, fun j w hj => ?_⟩
  subst he
  rw [List.getElem?_set] at hj
  by_cases hij1 : i + 1 = j
  · rw [if_pos hij1] at hj
    split at hj <;> cases hj
  · rw [if_neg hij1, List.getElem?_set] at hj
    by_cases hij : i = j
    · subst hij
      rw [if_pos rfl] at hj
      by_cases hl : i < lv.length
      · rw [if_pos hl] at hj
        cases hj
        exact h3 (i, v) List.mem_cons_self
      · rw [if_neg hl] at hj; cases hj
    · rw [if_neg hij] at hj
      refine h3 (j, w) (List.mem_cons_of_mem _ (List.mem_filter.mpr ⟨(zal_mem lv 0 (j, w)).mpr ⟨j, by simp, hj⟩, ?_⟩))
      have hji : ¬ j = i := fun e => hij e.symm
      have hji1 : ¬ j = i + 1 := fun e => hij1 e.symm
      by_cases hj1 : j + 1 = i
      · subst hj1
        simp only [zbel, hj] at hb
        have : w.category = 1 := by simpa using hb
        simp [this, hji1]
      · simp [hji, hji1, hj1]
/-- fewer known locals -/
def zle : List (Option Value) → List (Option Value) → Prop
  | [], _ => True
  | none :: a, b => zle a b.tail
  | some v :: a, b => b.head? = some (some v) ∧ zle a b.tail
theorem zle_get : ∀ (a b : List (Option Value)), zle a b → ∀ (i : Nat) (v : Value), a[i]? = some (some v) → b[i]? = some (some v) := by
  intro a
  induction a with
  | nil => intro b _ i v h; simp at h
  | cons o a ih =>
    intro b hab i v h
    cases o with
    | none =>
      cases i with
      | zero => simp at h
      | succ i =>
        have := ih b.tail hab i v (by simpa using h)
        rwa [List.getElem?_tail] at this
    | some w =>
      obtain ⟨h1, h2⟩ := hab
      cases i with
      | zero =>
        have : w = v := by simpa using h
        subst this
        rw [← List.head?_eq_getElem?]
        exact h1
      | succ i =>
        have := ih b.tail h2 i v (by simpa using h)
        rwa [List.getElem?_tail] at this
theorem zlv_le {ls : Array Slot} {nL : Nat} {a b : List (Option Value)} (h : zle a b) (hb : zlv ls nL b) : zlv ls nL a := ⟨hb.1, hb.2.1, fun i v hi => hb.2.2 i v (zle_get a b h i v hi)⟩
