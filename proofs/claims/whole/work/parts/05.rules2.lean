def inb (i : Int32) (n : Nat) : Bool := decide (0 ≤ i) && decide (i.toNatClampNeg < n)
theorem inb_in {i : Int32} {n : Nat} (h : inb i n = true) : vp_in i n := by
  simp only [inb, Bool.and_eq_true, decide_eq_true_eq] at h
  rintro (q | q)
  · exact Int32.lt_irrefl (Int32.lt_of_lt_of_le q h.1)
  · omega
/-- a class of the world, with the words of its fields -/
def zCls (c : Nat) (C : String) (TT : u_T) (N : Nat) (ty0 : Nat → FieldType) : Prop := vwCl[c]? = some (C, TT, N) ∧ (∀ w ∈ u_ws C TT N, w ∈ zTB) ∧ (∀ a, a < N → ∀ b, b < N → a ≠ b → (TT a).2.1 ≠ (TT b).2.1) ∧ ∀ k, k < N → parseFieldDescriptor (TT k).2.2.1 = some (ty0 k)
theorem zTB_all {ws : List Cond} (h : ws.all (fun w => decide (w ∈ lw_tbl) && goodWord w) = true) : ∀ w ∈ ws, w ∈ zTB := by
  intro w hw
  have h1 := List.all_eq_true.mp h w hw
  simp only [Bool.and_eq_true, decide_eq_true_eq] at h1
  exact List.mem_filter.mpr h1
section RULES2
variable {σ : Type} {G : Gh} {mi : MI} {dn : σ → Option (Option Value × Mem)} {pc : Nat} {lv lv' : List (Option Value)} {st : List Value} {M : Mem} {r : σ}
theorem r_getf {k j c t idx : Nat} {ty : FieldType} {C : String} {TT : u_T} {N : Nat} {ty0 : Nat → FieldType} {v : Value} (hd : decode (miC mi) pc = .ok (.getfield idx, 3)) (hf : zfd (miT mi) k j = some (c, ty, t)) (hk : zCls c C TT N ty0) (hj : j < N)
    (hl0 : Cond.fieldLink (miO mi) idx (TT j).1 (TT j).2.1 (TT j).2.2.1 ∈ zTB) (hv : zFv G M k j (ty, t) = v) (kk : Wr G mi dn (pc + 3) lv (v :: st) M r) : Wr G mi dn pc lv (.ref (G.2.2.2 k) :: st) M r := fun v' M' hr p e s m args below meth c' H locs ls B hP hS hl => by
  obtain ⟨fl, h1, h2⟩ := zfd_spec hf
  have hW := zWs_get G M h1
  exact va_get B.1 B.2.1 B.2.2.2.2.1 hk.2.1 B.2.2.2.1 B.2.2.2.2.2.1 hP k hW hk.1 j hj (B.2.2.2.2.1 _ hl0) (fun x h => h) (v := v) (by simp [List.getElem?_mapIdx, h2, hv]) hd (kk v' M' hr p e s m args below meth c' H locs ls B hP hS hl)
theorem r_putI {k j c t idx : Nat} {ty : FieldType} {C : String} {TT : u_T} {N : Nat} {ty0 : Nat → FieldType} {x : Int32} {f : Mem → σ} (hd : decode (miC mi) pc = .ok (.putfield idx, 3)) (hf : zfd (miT mi) k j = some (c, ty, t)) (hk : zCls c C TT N ty0) (hj : j < N) (hty : ty0 j = ty) (hnf : (TT j).2.2.2 = false)
    (hl0 : Cond.fieldLink (miO mi) idx (TT j).1 (TT j).2.1 (TT j).2.2.1 ∈ zTB) (hI : ∀ M : Mem, zFv G M k j (ty, t) = .int (M.1 k j)) (hn : narrow ty (.int x) = .int x) (hfit : fits ty (.int x) = true) (kk : ∀ M1 : Mem, Wr G mi dn (pc + 3) lv st M1 (f M1)) : Wr G mi dn pc lv (.int x :: .ref (G.2.2.2 k) :: st) M (lt_ (uI M k j x) f) := fun v' M' hr p e s m args below meth c' H locs ls B hP hS hl => by
  obtain ⟨fl, h1, h2⟩ := zfd_spec hf
  have hW := zWs_get G M h1
  have hlt : j < fl.length := by
    rcases Nat.lt_or_ge j fl.length with q | q
    · exact q
    · rw [List.getElem?_eq_none q] at h2; cases h2
  refine va_put B.1 B.2.1 B.2.2.2.2.1 hk.2.1 ty0 hk.2.2.2 hk.2.2.1 B.2.2.2.1 B.2.2.2.2.2.1 hP (zD B.2.2.2.2.2.2.1 M) hS k hW hk.1 j hj (B.2.2.2.2.1 _ hl0) (fun x h => h) hnf (ty := ty) (by rw [← hty]; exact hk.2.2.2 j hj) hn hfit (by simpa using hlt) hd (fun H1 locs1 hP1 hD1 hS1 => ?_)
  rw [zset_fldI G M x h1 h2 hI] at hP1
  exact kk _ v' M' hr p e s m args below meth c' H1 locs1 ls B hP1 hS1 hl
theorem r_putL {k j c t idx : Nat} {C : String} {TT : u_T} {N : Nat} {ty0 : Nat → FieldType} {x : Int64} {f : Mem → σ} (hd : decode (miC mi) pc = .ok (.putfield idx, 3)) (hf : zfd (miT mi) k j = some (c, .long, t)) (hk : zCls c C TT N ty0) (hj : j < N) (hty : ty0 j = .long) (hnf : (TT j).2.2.2 = false)
    (hl0 : Cond.fieldLink (miO mi) idx (TT j).1 (TT j).2.1 (TT j).2.2.1 ∈ zTB) (kk : ∀ M1 : Mem, Wr G mi dn (pc + 3) lv st M1 (f M1)) : Wr G mi dn pc lv (.long x :: .ref (G.2.2.2 k) :: st) M (lt_ (uL M k j x) f) := fun v' M' hr p e s m args below meth c' H locs ls B hP hS hl => by
  obtain ⟨fl, h1, h2⟩ := zfd_spec hf
  have hW := zWs_get G M h1
  have hlt : j < fl.length := by
    rcases Nat.lt_or_ge j fl.length with q | q
    · exact q
    · rw [List.getElem?_eq_none q] at h2; cases h2
  refine va_put B.1 B.2.1 B.2.2.2.2.1 hk.2.1 ty0 hk.2.2.2 hk.2.2.1 B.2.2.2.1 B.2.2.2.2.2.1 hP (zD B.2.2.2.2.2.2.1 M) hS k hW hk.1 j hj (B.2.2.2.2.1 _ hl0) (fun x h => h) hnf (ty := .long) (by rw [← hty]; exact hk.2.2.2 j hj) rfl rfl (by simpa using hlt) hd (fun H1 locs1 hP1 hD1 hS1 => ?_)
  rw [zset_fldL G M x h1 h2] at hP1
  exact kk _ v' M' hr p e s m args below meth c' H1 locs1 ls B hP1 hS1 hl
theorem zWs_arr (G : Gh) {T : List ZC} (M : Mem) {k t n : Nat} (h : zar T k = some (t, n)) (ht : t ≠ 3) : (zWs G T M)[k]? = some (G.2.2.2 k, .inl (G.2.2.1 t, n, .inl (M.1 k))) := by
  rw [zWs_get G M (zar_spec h)]
  simp [zEnt, ht]
theorem zWs_arrL (G : Gh) {T : List ZC} (M : Mem) {k n : Nat} (h : zar T k = some (3, n)) : (zWs G T M)[k]? = some (G.2.2.2 k, .inl (G.2.2.1 3, n, .inr (.inl (M.2 k)))) := by
  rw [zWs_get G M (zar_spec h)]
  simp [zEnt]
theorem r_iald {k n m : Nat} {i : Int32} (hd : decode (miC mi) pc = .ok (.iaload, 1)) (ha : zar (miT mi) k = some (0, n)) (hin : vp_in i n) (hm : i.toNatClampNeg = m) (kk : Wr G mi dn (pc + 1) lv (.int (M.1 k m) :: st) M r) : Wr G mi dn pc lv (.int i :: .ref (G.2.2.2 k) :: st) M r := fun v' M' hr p e s m args below meth c' H locs ls B hP hS hl => by
  subst hm
  exact  va_iald B.1 B.2.1 B.2.2.2.2.2.1 hP k 0 (zWs_arr G M ha (by decide)) rfl hin hd (kk v' M' hr p e s m args below meth c' H locs ls B hP hS hl)
theorem r_bald {k n m : Nat} {i : Int32} (hd : decode (miC mi) pc = .ok (.baload, 1)) (ha : zar (miT mi) k = some (1, n)) (hin : vp_in i n) (hm : i.toNatClampNeg = m) (kk : Wr G mi dn (pc + 1) lv (.int (M.1 k m) :: st) M r) : Wr G mi dn pc lv (.int i :: .ref (G.2.2.2 k) :: st) M r := fun v' M' hr p e s m args below meth c' H locs ls B hP hS hl => by
  subst hm
  exact  va_bald B.1 B.2.1 B.2.2.2.2.2.1 hP k 1 (zWs_arr G M ha (by decide)) rfl hin hd (kk v' M' hr p e s m args below meth c' H locs ls B hP hS hl)
theorem r_zald {k n m : Nat} {i : Int32} (hd : decode (miC mi) pc = .ok (.baload, 1)) (ha : zar (miT mi) k = some (2, n)) (hin : vp_in i n) (hm : i.toNatClampNeg = m) (kk : Wr G mi dn (pc + 1) lv (.int (M.1 k m) :: st) M r) : Wr G mi dn pc lv (.int i :: .ref (G.2.2.2 k) :: st) M r := fun v' M' hr p e s m args below meth c' H locs ls B hP hS hl => by
  subst hm
  exact  va_zald B.1 B.2.1 B.2.2.2.2.2.1 hP k 2 (zWs_arr G M ha (by decide)) rfl hin hd (kk v' M' hr p e s m args below meth c' H locs ls B hP hS hl)
theorem r_lald {k n m : Nat} {i : Int32} (hd : decode (miC mi) pc = .ok (.laload, 1)) (ha : zar (miT mi) k = some (3, n)) (hin : vp_in i n) (hm : i.toNatClampNeg = m) (kk : Wr G mi dn (pc + 1) lv (.long (M.2 k m) :: st) M r) : Wr G mi dn pc lv (.int i :: .ref (G.2.2.2 k) :: st) M r := fun v' M' hr p e s m args below meth c' H locs ls B hP hS hl => by
  subst hm
  exact  va_lald B.1 B.2.1 B.2.2.2.2.2.1 hP k 3 (zWs_arrL G M ha) rfl hin hd (kk v' M' hr p e s m args below meth c' H locs ls B hP hS hl)
theorem r_iast {k n m : Nat} {i x : Int32} {f : Mem → σ} (hd : decode (miC mi) pc = .ok (.iastore, 1)) (ha : zar (miT mi) k = some (0, n)) (hin : vp_in i n) (hm : i.toNatClampNeg = m) (kk : ∀ M1 : Mem, Wr G mi dn (pc + 1) lv st M1 (f M1)) : Wr G mi dn pc lv (.int x :: .int i :: .ref (G.2.2.2 k) :: st) M (lt_ (uI M k m x) f) := fun v' M' hr p e s m args below meth c' H locs ls B hP hS hl => by
  subst hm
  refine va_iast B.1 B.2.1 B.2.2.2.2.2.1 hP (zD B.2.2.2.2.2.2.1 M) hS k 0 (zWs_arr G M ha (by decide)) rfl hin hd (fun H1 locs1 hP1 hD1 hS1 => ?_)
  rw [zset_arrI G M x ha (by decide)] at hP1
  exact kk _ v' M' hr p e s m args below meth c' H1 locs1 ls B hP1 hS1 hl
theorem r_bast {k n m : Nat} {i x y : Int32} {f : Mem → σ} (hd : decode (miC mi) pc = .ok (.bastore, 1)) (ha : zar (miT mi) k = some (1, n)) (hin : vp_in i n) (hm : i.toNatClampNeg = m) (hy : vp_nar .byte x = y) (kk : ∀ M1 : Mem, Wr G mi dn (pc + 1) lv st M1 (f M1)) : Wr G mi dn pc lv (.int x :: .int i :: .ref (G.2.2.2 k) :: st) M (lt_ (uI M k m y) f) := fun v' M' hr p e s m args below meth c' H locs ls B hP hS hl => by
  subst hm
  refine va_bast B.1 B.2.1 B.2.2.2.2.2.1 hP (zD B.2.2.2.2.2.2.1 M) hS k 1 (zWs_arr G M ha (by decide)) rfl hin hd (fun H1 locs1 hP1 hD1 hS1 => ?_)
  rw [hy, zset_arrI G M y ha (by decide)] at hP1
  exact kk _ v' M' hr p e s m args below meth c' H1 locs1 ls B hP1 hS1 hl
theorem r_zast {k n m : Nat} {i x y : Int32} {f : Mem → σ} (hd : decode (miC mi) pc = .ok (.bastore, 1)) (ha : zar (miT mi) k = some (2, n)) (hin : vp_in i n) (hm : i.toNatClampNeg = m) (hy : vp_nar .boolean x = y) (kk : ∀ M1 : Mem, Wr G mi dn (pc + 1) lv st M1 (f M1)) : Wr G mi dn pc lv (.int x :: .int i :: .ref (G.2.2.2 k) :: st) M (lt_ (uI M k m y) f) := fun v' M' hr p e s m args below meth c' H locs ls B hP hS hl => by
  subst hm
  refine va_zast B.1 B.2.1 B.2.2.2.2.2.1 hP (zD B.2.2.2.2.2.2.1 M) hS k 2 (zWs_arr G M ha (by decide)) rfl hin hd (fun H1 locs1 hP1 hD1 hS1 => ?_)
  rw [hy, zset_arrI G M y ha (by decide)] at hP1
  exact kk _ v' M' hr p e s m args below meth c' H1 locs1 ls B hP1 hS1 hl
theorem r_last {k n m : Nat} {i : Int32} {x : Int64} {f : Mem → σ} (hd : decode (miC mi) pc = .ok (.lastore, 1)) (ha : zar (miT mi) k = some (3, n)) (hin : vp_in i n) (hm : i.toNatClampNeg = m) (kk : ∀ M1 : Mem, Wr G mi dn (pc + 1) lv st M1 (f M1)) : Wr G mi dn pc lv (.long x :: .int i :: .ref (G.2.2.2 k) :: st) M (lt_ (uL M k m x) f) := fun v' M' hr p e s m args below meth c' H locs ls B hP hS hl => by
  subst hm
  refine va_last B.1 B.2.1 B.2.2.2.2.2.1 hP (zD B.2.2.2.2.2.2.1 M) hS k 3 (zWs_arrL G M ha) rfl hin hd (fun H1 locs1 hP1 hD1 hS1 => ?_)
  rw [zset_arrL G M x ha] at hP1
  exact kk _ v' M' hr p e s m args below meth c' H1 locs1 ls B hP1 hS1 hl
theorem r_alen {k t n : Nat} {v : Int32} (hd : decode (miC mi) pc = .ok (.arraylength, 1)) (ha : zar (miT mi) k = some (t, n)) (ht : t < 4) (hv : Int32.ofNat n = v) (kk : Wr G mi dn (pc + 1) lv (.int v :: st) M r) : Wr G mi dn pc lv (.ref (G.2.2.2 k) :: st) M r := fun v' M' hr p e s m args below meth c' H locs ls B hP hS hl => by
  have hT : (ztys G)[t]? = some (G.2.2.1 t, zty t) := by
    match t, ht with
    | 0, _ => rfl
    | 1, _ => rfl
    | 2, _ => rfl
    | 3, _ => rfl
  have hW := zWs_get G M (zar_spec ha)
  exact va_alen B.1 B.2.1 B.2.2.2.2.2.1 hP k t hW hT hv hd (kk v' M' hr p e s m args below meth c' H locs ls B hP hS hl)
theorem r_iret {ty : FieldType} {x : Int32} (hd : decode (miC mi) pc = .ok (.ireturn, 1)) (hR : miR mi = some ty) (hn : narrow ty (.int x) = .int x) (h : dn r = some (some (.int x), M)) : Wr G mi dn pc lv [.int x] M r := fun v' M' hr p e s m args below meth c' H locs ls B hP hS hl => by
  rw [h] at hr
  cases hr
  exact W.zret B.1 B.2.1 (B.2.2.2.2.2.2.2.2.1.trans hR) hn (fun t ht _ => ⟨rfl, by rw [ht]; exact hP, hS.F ht⟩) (fun q hq => hS.2.2 q hq) hd B.2.2.2.2.2.2.2.2.2
theorem r_lret {x : Int64} (hd : decode (miC mi) pc = .ok (.lreturn, 1)) (hR : miR mi = some .long) (h : dn r = some (some (.long x), M)) : Wr G mi dn pc lv [.long x] M r := fun v' M' hr p e s m args below meth c' H locs ls B hP hS hl => by
  rw [h] at hr
  cases hr
  exact W.lret B.1 B.2.1 (B.2.2.2.2.2.2.2.2.1.trans hR) (fun t ht _ => ⟨rfl, by rw [ht]; exact hP, hS.F ht⟩) (fun q hq => hS.2.2 q hq) hd B.2.2.2.2.2.2.2.2.2
theorem r_vret (hd : decode (miC mi) pc = .ok (.return_, 1)) (hR : miR mi = none) (h : dn r = some (none, M)) : Wr G mi dn pc lv [] M r := fun v' M' hr p e s m args below meth c' H locs ls B hP hS hl => by
  rw [h] at hr
  cases hr
  exact W.vret B.1 B.2.1 (B.2.2.2.2.2.2.2.2.1.trans hR) (fun t ht _ => ⟨rfl, by rw [ht]; exact hP, hS.F ht⟩) (fun q hq => hS.2.2 q hq) hd B.2.2.2.2.2.2.2.2.2
/-! constants out of the class file, texts, ROUNDS -/
theorem r_ldcI {idx : Nat} {x : Int32} (hd : decode (miC mi) pc = .ok (.ldc idx, 2)) (hc : Cond.constant (miO mi) idx x ∈ zTB) (kk : Wr G mi dn (pc + 2) lv (.int x :: st) M r) : Wr G mi dn pc lv st M r := fun v' M' hr p e s m args below meth c' H locs ls B hP hS hl =>
  lv_ldc B.1 B.2.1 B.2.2.2.1 (B.2.2.2.2.1 _ hc) hd (kk v' M' hr p e s m args below meth c' H locs ls B hP hS hl)
theorem r_ldcwI {idx : Nat} {x : Int32} (hd : decode (miC mi) pc = .ok (.ldc_w idx, 3)) (hc : Cond.constant (miO mi) idx x ∈ zTB) (kk : Wr G mi dn (pc + 3) lv (.int x :: st) M r) : Wr G mi dn pc lv st M r := fun v' M' hr p e s m args below meth c' H locs ls B hP hS hl =>
  lv_ldcw B.1 B.2.1 B.2.2.2.1 (B.2.2.2.2.1 _ hc) hd (kk v' M' hr p e s m args below meth c' H locs ls B hP hS hl)
theorem r_ldc2 {idx : Nat} {x : Int64} (hd : decode (miC mi) pc = .ok (.ldc2_w idx, 3)) (hc : Cond.constantLong (miO mi) idx x ∈ zTB) (kk : Wr G mi dn (pc + 3) lv (.long x :: st) M r) : Wr G mi dn pc lv st M r := fun v' M' hr p e s m args below meth c' H locs ls B hP hS hl =>
  lv_ldc2 B.1 B.2.1 B.2.2.2.1 (B.2.2.2.2.1 _ hc) hd (kk v' M' hr p e s m args below meth c' H locs ls B hP hS hl)
theorem r_ldcS {idx i : Nat} {tx : String} {bs : List Int32} (hd : decode (miC mi) pc = .ok (.ldc idx, 2)) (hq : zSR[i]? = some (miO mi, idx, tx, bs)) (kk : Wr G mi dn (pc + 2) lv (.ref (G.2.2.2 (1000 + i)) :: st) M r) : Wr G mi dn pc lv st M r := fun v' M' hr p e s m args below meth c' H locs ls B hP hS hl =>
  va_ldcS B.1 B.2.1 B.2.2.2.1 (B.2.2.2.2.2.2.2.1.1 i _ hq).1 hd (kk v' M' hr p e s m args below meth c' H locs ls B hP hS hl)
theorem r_gets {idx : Nat} (hd : decode (miC mi) pc = .ok (.getstatic idx, 3)) (hl0 : Cond.fieldLink (miO mi) idx "WeatherWages$Mill" "ROUNDS" "[I" ∈ zTB) (kk : Wr G mi dn (pc + 3) lv (.ref (G.2.2.2 3000) :: st) M r) : Wr G mi dn pc lv st M r := fun v' M' hr p e s m args below meth c' H locs ls B hP hS hl =>
  va_gets B.1 B.2.1 B.2.2.2.2.2.2.2.1.2.1.1 hS B.2.2.2.1 (B.2.2.2.2.1 _ hl0) (fun x h => h) hd (kk v' M' hr p e s m args below meth c' H locs ls B hP hS hl)
theorem r_tlen (hd : decode (miC mi) pc = .ok (.arraylength, 1)) (kk : Wr G mi dn (pc + 1) lv (.int 15 :: st) M r) : Wr G mi dn pc lv (.ref (G.2.2.2 3000) :: st) M r := fun v' M' hr p e s m args below meth c' H locs ls B hP hS hl =>
  va_tlen B.1 B.2.1 B.2.2.2.2.2.2.2.1.2.1.2 hS rfl hd (kk v' M' hr p e s m args below meth c' H locs ls B hP hS hl)
theorem r_ti {i : Int32} (hd : decode (miC mi) pc = .ok (.iaload, 1)) (hin : vp_in i 15) (kk : Wr G mi dn (pc + 1) lv (.int (zRounds.getD i.toNatClampNeg 0) :: st) M r) : Wr G mi dn pc lv (.int i :: .ref (G.2.2.2 3000) :: st) M r := fun v' M' hr p e s m args below meth c' H locs ls B hP hS hl =>
  va_ti B.1 B.2.1 B.2.2.2.2.2.2.2.1.2.1.2 hS hin rfl hd (kk v' M' hr p e s m args below meth c' H locs ls B hP hS hl)
end RULES2
