theorem dJ0_coder_7d493_0 : decode cJ0_coder_7d493 0 = .ok (.getstatic 38, 3) := by decide +kernel
theorem dJ0_coder_7d493_3 : decode cJ0_coder_7d493 3 = .ok (.ifCond .eq 10, 3) := by decide +kernel
theorem dJ0_coder_7d493_6 : decode cJ0_coder_7d493 6 = .ok (.aload_n 0, 1) := by decide +kernel
theorem dJ0_coder_7d493_7 : decode cJ0_coder_7d493 7 = .ok (.getfield 15, 3) := by decide +kernel
theorem dJ0_coder_7d493_10 : decode cJ0_coder_7d493 10 = .ok (.goto 4, 3) := by decide +kernel
theorem dJ0_coder_7d493_13 : decode cJ0_coder_7d493 13 = .ok (.iconst 1, 1) := by decide +kernel
theorem dJ0_coder_7d493_14 : decode cJ0_coder_7d493 14 = .ok (.ireturn, 1) := by decide +kernel
abbrev mi_J0_coder_7d493 : MI := (zTX, RJ0, yJ0_coder_7d493, cJ0_coder_7d493, 1, (some .byte), 1)
theorem cal_J0_coder_7d493 : zCalV mi_J0_coder_7d493 0 := ⟨⟨zTB_i3 30 (by decide +kernel), zTB_i3 28 (by decide +kernel), zTB_i3 29 (by decide +kernel), zTB_i1 14 (by decide +kernel)⟩, ⟨by decide, by decide, by decide +kernel⟩, by decide⟩
theorem dJ0_isLatin1_aae02_0 : decode cJ0_isLatin1_aae02 0 = .ok (.getstatic 38, 3) := by decide +kernel
theorem dJ0_isLatin1_aae02_3 : decode cJ0_isLatin1_aae02 3 = .ok (.ifCond .eq 14, 3) := by decide +kernel
theorem dJ0_isLatin1_aae02_6 : decode cJ0_isLatin1_aae02 6 = .ok (.aload_n 0, 1) := by decide +kernel
theorem dJ0_isLatin1_aae02_7 : decode cJ0_isLatin1_aae02 7 = .ok (.getfield 15, 3) := by decide +kernel
theorem dJ0_isLatin1_aae02_10 : decode cJ0_isLatin1_aae02 10 = .ok (.ifCond .ne 7, 3) := by decide +kernel
theorem dJ0_isLatin1_aae02_13 : decode cJ0_isLatin1_aae02 13 = .ok (.iconst 1, 1) := by decide +kernel
theorem dJ0_isLatin1_aae02_14 : decode cJ0_isLatin1_aae02 14 = .ok (.goto 4, 3) := by decide +kernel
theorem dJ0_isLatin1_aae02_17 : decode cJ0_isLatin1_aae02 17 = .ok (.iconst 0, 1) := by decide +kernel
theorem dJ0_isLatin1_aae02_18 : decode cJ0_isLatin1_aae02 18 = .ok (.ireturn, 1) := by decide +kernel
abbrev mi_J0_isLatin1_aae02 : MI := (zTX, RJ0, yJ0_isLatin1_aae02, cJ0_isLatin1_aae02, 1, (some .boolean), 1)
theorem cal_J0_isLatin1_aae02 : zCalV mi_J0_isLatin1_aae02 0 := ⟨⟨zTB_i3 40 (by decide +kernel), zTB_i3 38 (by decide +kernel), zTB_i3 39 (by decide +kernel), zTB_i1 14 (by decide +kernel)⟩, ⟨by decide, by decide, by decide +kernel⟩, by decide⟩
theorem dJ0_length_8abf5_0 : decode cJ0_length_8abf5 0 = .ok (.aload_n 0, 1) := by decide +kernel
theorem dJ0_length_8abf5_1 : decode cJ0_length_8abf5 1 = .ok (.getfield 9, 3) := by decide +kernel
theorem dJ0_length_8abf5_4 : decode cJ0_length_8abf5 4 = .ok (.arraylength, 1) := by decide +kernel
theorem dJ0_length_8abf5_5 : decode cJ0_length_8abf5 5 = .ok (.aload_n 0, 1) := by decide +kernel
theorem dJ0_length_8abf5_6 : decode cJ0_length_8abf5 6 = .ok (.invokevirtual 335, 3) := by decide +kernel
theorem dJ0_length_8abf5_9 : decode cJ0_length_8abf5 9 = .ok (.ishr, 1) := by decide +kernel
theorem dJ0_length_8abf5_10 : decode cJ0_length_8abf5 10 = .ok (.ireturn, 1) := by decide +kernel
abbrev mi_J0_length_8abf5 : MI := (zTX, RJ0, yJ0_length_8abf5, cJ0_length_8abf5, 1, (some .int), 3)
theorem cal_J0_length_8abf5 : zCalV mi_J0_length_8abf5 0 := ⟨⟨zTB_i3 26 (by decide +kernel), zTB_i3 24 (by decide +kernel), zTB_i3 25 (by decide +kernel), zTB_i1 14 (by decide +kernel)⟩, ⟨by decide, by decide, by decide +kernel⟩, by decide⟩
theorem dJ3_checkIndex_8e157_0 : decode cJ3_checkIndex_8e157 0 = .ok (.iload_n 0, 1) := by decide +kernel
theorem dJ3_checkIndex_8e157_1 : decode cJ3_checkIndex_8e157 1 = .ok (.ifCond .lt 8, 3) := by decide +kernel
theorem dJ3_checkIndex_8e157_4 : decode cJ3_checkIndex_8e157 4 = .ok (.iload_n 0, 1) := by decide +kernel
theorem dJ3_checkIndex_8e157_5 : decode cJ3_checkIndex_8e157 5 = .ok (.iload_n 1, 1) := by decide +kernel
theorem dJ3_checkIndex_8e157_6 : decode cJ3_checkIndex_8e157 6 = .ok (.if_icmp .lt 10, 3) := by decide +kernel
theorem dJ3_checkIndex_8e157_9 : decode cJ3_checkIndex_8e157 9 = .ok (.aload_n 2, 1) := by decide +kernel
theorem dJ3_checkIndex_8e157_10 : decode cJ3_checkIndex_8e157 10 = .ok (.iload_n 0, 1) := by decide +kernel
theorem dJ3_checkIndex_8e157_11 : decode cJ3_checkIndex_8e157 11 = .ok (.iload_n 1, 1) := by decide +kernel
theorem dJ3_checkIndex_8e157_12 : decode cJ3_checkIndex_8e157 12 = .ok (.invokestatic 95, 3) := by decide +kernel
theorem dJ3_checkIndex_8e157_15 : decode cJ3_checkIndex_8e157 15 = .ok (.athrow, 1) := by decide +kernel
theorem dJ3_checkIndex_8e157_16 : decode cJ3_checkIndex_8e157 16 = .ok (.iload_n 0, 1) := by decide +kernel
theorem dJ3_checkIndex_8e157_17 : decode cJ3_checkIndex_8e157 17 = .ok (.ireturn, 1) := by decide +kernel
abbrev mi_J3_checkIndex_8e157 : MI := (zTX, RJ3, yJ3_checkIndex_8e157, cJ3_checkIndex_8e157, 3, (some .int), 1)
theorem cal_J3_checkIndex_8e157 : zCalS mi_J3_checkIndex_8e157 3 := ⟨⟨zTB_i3 51 (by decide +kernel), zTB_i3 50 (by decide +kernel), zTB_i1 16 (by decide +kernel)⟩, ⟨by decide, by decide, by decide +kernel⟩, by decide⟩
theorem dJ0_checkIndex_df160_0 : decode cJ0_checkIndex_df160 0 = .ok (.iload_n 0, 1) := by decide +kernel
theorem dJ0_checkIndex_df160_1 : decode cJ0_checkIndex_df160 1 = .ok (.iload_n 1, 1) := by decide +kernel
theorem dJ0_checkIndex_df160_2 : decode cJ0_checkIndex_df160 2 = .ok (.getstatic 1053, 3) := by decide +kernel
theorem dJ0_checkIndex_df160_5 : decode cJ0_checkIndex_df160 5 = .ok (.invokestatic 1059, 3) := by decide +kernel
theorem dJ0_checkIndex_df160_8 : decode cJ0_checkIndex_df160 8 = .ok (.pop, 1) := by decide +kernel
theorem dJ0_checkIndex_df160_9 : decode cJ0_checkIndex_df160 9 = .ok (.return_, 1) := by decide +kernel
abbrev mi_J0_checkIndex_df160 : MI := (zTX, RJ0, yJ0_checkIndex_df160, cJ0_checkIndex_df160, 2, none, 3)
theorem cal_J0_checkIndex_df160 : zCalS mi_J0_checkIndex_df160 2 := ⟨⟨zTB_i3 46 (by decide +kernel), zTB_i3 45 (by decide +kernel), zTB_i1 14 (by decide +kernel)⟩, ⟨by decide, by decide, by decide +kernel⟩, by decide⟩
theorem dJ1_charAt_3b067_0 : decode cJ1_charAt_3b067 0 = .ok (.iload_n 1, 1) := by decide +kernel
theorem dJ1_charAt_3b067_1 : decode cJ1_charAt_3b067 1 = .ok (.aload_n 0, 1) := by decide +kernel
theorem dJ1_charAt_3b067_2 : decode cJ1_charAt_3b067 2 = .ok (.arraylength, 1) := by decide +kernel
theorem dJ1_charAt_3b067_3 : decode cJ1_charAt_3b067 3 = .ok (.invokestatic 9, 3) := by decide +kernel
theorem dJ1_charAt_3b067_6 : decode cJ1_charAt_3b067 6 = .ok (.aload_n 0, 1) := by decide +kernel
theorem dJ1_charAt_3b067_7 : decode cJ1_charAt_3b067 7 = .ok (.iload_n 1, 1) := by decide +kernel
theorem dJ1_charAt_3b067_8 : decode cJ1_charAt_3b067 8 = .ok (.baload, 1) := by decide +kernel
theorem dJ1_charAt_3b067_9 : decode cJ1_charAt_3b067 9 = .ok (.sipush 255, 3) := by decide +kernel
theorem dJ1_charAt_3b067_12 : decode cJ1_charAt_3b067 12 = .ok (.iand, 1) := by decide +kernel
theorem dJ1_charAt_3b067_13 : decode cJ1_charAt_3b067 13 = .ok (.i2c, 1) := by decide +kernel
theorem dJ1_charAt_3b067_14 : decode cJ1_charAt_3b067 14 = .ok (.ireturn, 1) := by decide +kernel
abbrev mi_J1_charAt_3b067 : MI := (zTX, RJ1, yJ1_charAt_3b067, cJ1_charAt_3b067, 2, (some .char), 5)
theorem cal_J1_charAt_3b067 : zCalS mi_J1_charAt_3b067 2 := ⟨⟨zTB_i3 43 (by decide +kernel), zTB_i3 42 (by decide +kernel), zTB_i1 15 (by decide +kernel)⟩, ⟨by decide, by decide, by decide +kernel⟩, by decide⟩
theorem dJ0_charAt_5068e_0 : decode cJ0_charAt_5068e 0 = .ok (.aload_n 0, 1) := by decide +kernel
theorem dJ0_charAt_5068e_1 : decode cJ0_charAt_5068e 1 = .ok (.invokevirtual 492, 3) := by decide +kernel
theorem dJ0_charAt_5068e_4 : decode cJ0_charAt_5068e 4 = .ok (.ifCond .eq 12, 3) := by decide +kernel
theorem dJ0_charAt_5068e_7 : decode cJ0_charAt_5068e 7 = .ok (.aload_n 0, 1) := by decide +kernel
theorem dJ0_charAt_5068e_8 : decode cJ0_charAt_5068e 8 = .ok (.getfield 9, 3) := by decide +kernel
theorem dJ0_charAt_5068e_11 : decode cJ0_charAt_5068e 11 = .ok (.iload_n 1, 1) := by decide +kernel
theorem dJ0_charAt_5068e_12 : decode cJ0_charAt_5068e 12 = .ok (.invokestatic 495, 3) := by decide +kernel
theorem dJ0_charAt_5068e_15 : decode cJ0_charAt_5068e 15 = .ok (.ireturn, 1) := by decide +kernel
theorem dJ0_charAt_5068e_16 : decode cJ0_charAt_5068e 16 = .ok (.aload_n 0, 1) := by decide +kernel
theorem dJ0_charAt_5068e_17 : decode cJ0_charAt_5068e 17 = .ok (.getfield 9, 3) := by decide +kernel
theorem dJ0_charAt_5068e_20 : decode cJ0_charAt_5068e 20 = .ok (.iload_n 1, 1) := by decide +kernel
theorem dJ0_charAt_5068e_21 : decode cJ0_charAt_5068e 21 = .ok (.invokestatic 498, 3) := by decide +kernel
theorem dJ0_charAt_5068e_24 : decode cJ0_charAt_5068e 24 = .ok (.ireturn, 1) := by decide +kernel
abbrev mi_J0_charAt_5068e : MI := (zTX, RJ0, yJ0_charAt_5068e, cJ0_charAt_5068e, 2, (some .char), 7)
theorem cal_J0_charAt_5068e : zCalV mi_J0_charAt_5068e 1 := ⟨⟨zTB_i3 36 (by decide +kernel), zTB_i3 34 (by decide +kernel), zTB_i3 35 (by decide +kernel), zTB_i1 14 (by decide +kernel)⟩, ⟨by decide, by decide, by decide +kernel⟩, by decide⟩
theorem lkf_J0_9 : Cond.fieldLink RJ0 9 "java/lang/String" "value" "[B" ∈ zTB := zTB_i9 137 (by decide +kernel)
theorem lkf_J0_15 : Cond.fieldLink RJ0 15 "java/lang/String" "coder" "B" ∈ zTB := zTB_i9 138 (by decide +kernel)
theorem lkf_J0_38 : Cond.fieldLink RJ0 38 "java/lang/String" "COMPACT_STRINGS" "Z" ∈ zTB := zTB_i3 31 (by decide +kernel)
theorem lkf_J0_1053 : Cond.fieldLink RJ0 1053 "jdk/internal/util/Preconditions" "SIOOBE_FORMATTER" "Ljava/util/function/BiFunction;" ∈ zTB := zTB_i3 47 (by decide +kernel)
theorem lkm_J0_335 : Cond.methodLink RJ0 335 yJ0_coder_7d493 ∈ zTB := zTB_i3 27 (by decide +kernel)
theorem lkm_J0_492 : Cond.methodLink RJ0 492 yJ0_isLatin1_aae02 ∈ zTB := zTB_i3 37 (by decide +kernel)
theorem lkm_J0_495 : Cond.methodLink RJ0 495 yJ1_charAt_3b067 ∈ zTB := zTB_i3 41 (by decide +kernel)
theorem lkm_J0_1059 : Cond.methodLink RJ0 1059 yJ3_checkIndex_8e157 ∈ zTB := zTB_i3 49 (by decide +kernel)
theorem lkm_J1_9 : Cond.methodLink RJ1 9 yJ0_checkIndex_df160 ∈ zTB := zTB_i3 44 (by decide +kernel)
def zsr (i : Nat) : String × Nat × String × List Int32 := zSR.getD i ("", 0, "", [])
theorem zsr_get {i : Nat} (h : i < 43) : zSR[i]? = some (zsr i) := by
  have hl : zSR.length = 43 := rfl
  rw [zsr, List.getD_eq_getElem?_getD, List.getElem?_eq_getElem (by omega)]
  rfl
def slen (i : Nat) : Nat := (zsr i).2.2.2.length
def sby (i j : Nat) : Int32 := (zsr i).2.2.2.getD j 0
def zSlen (w : Nat) : Int32 := nI (slen w)
def sch (w j : Nat) : Int32 := (((sby w j) &&& 255).toUInt32 % 65536).toInt32
def zSch (w : Nat) (i : Int32) : Option Int32 := gd_ (inb i (slen w) = true) (some (sch w i.toNatClampNeg))
def dU (M : Mem) (_ : Unit) : Option (Option Value × Mem) := some (none, M)
theorem slen_lt : ∀ i, i < 43 → slen i < 2 ^ 31 := by decide +kernel
theorem sch_char : ∀ i, i < 43 → ∀ j, j < slen i → narrow .char (.int (sch i j)) = .int (sch i j) := by decide +kernel
section JDK
variable {σ : Type} {G : Gh} {mi : MI} {dn : σ → Option (Option Value × Mem)} {pc : Nat} {lv : List (Option Value)} {st : List Value} {M : Mem} {r : σ}
theorem r_sval {i idx : Nat} (hi : i < 43) (hd : decode (miC mi) pc = .ok (.getfield idx, 3)) (hl0 : Cond.fieldLink (miO mi) idx "java/lang/String" "value" "[B" ∈ zTB) (kk : Wr G mi dn (pc + 3) lv (.ref (G.2.2.2 (2000 + i)) :: st) M r) : Wr G mi dn pc lv (.ref (G.2.2.2 (1000 + i)) :: st) M r := fun v' M' hr p e s m args below meth c' H locs ls B hP hS hl =>
  vk_getf B.1 B.2.1 (B.2.2.2.2.2.2.2.1.1 i _ (zsr_get hi)).2.2.2.1 hS B.2.2.2.1 (B.2.2.2.2.1 _ hl0) (fun x h => h) hd (kk v' M' hr p e s m args below meth c' H locs ls B hP hS hl)
theorem r_scod {i idx : Nat} (hi : i < 43) (hd : decode (miC mi) pc = .ok (.getfield idx, 3)) (hl0 : Cond.fieldLink (miO mi) idx "java/lang/String" "coder" "B" ∈ zTB) (kk : Wr G mi dn (pc + 3) lv (.int 0 :: st) M r) : Wr G mi dn pc lv (.ref (G.2.2.2 (1000 + i)) :: st) M r := fun v' M' hr p e s m args below meth c' H locs ls B hP hS hl =>
  vk_getf B.1 B.2.1 (B.2.2.2.2.2.2.2.1.1 i _ (zsr_get hi)).2.2.1 hS B.2.2.2.1 (B.2.2.2.2.1 _ hl0) (fun x h => h) hd (kk v' M' hr p e s m args below meth c' H locs ls B hP hS hl)
theorem r_compact {idx : Nat} (hd : decode (miC mi) pc = .ok (.getstatic idx, 3)) (hl0 : Cond.fieldLink (miO mi) idx "java/lang/String" "COMPACT_STRINGS" "Z" ∈ zTB) (kk : Wr G mi dn (pc + 3) lv (.int 1 :: st) M r) : Wr G mi dn pc lv st M r := fun v' M' hr p e s m args below meth c' H locs ls B hP hS hl =>
  va_gets B.1 B.2.1 B.2.2.2.2.2.2.2.1.2.2.1.1 hS B.2.2.2.1 (B.2.2.2.2.1 _ hl0) (fun x h => h) hd (kk v' M' hr p e s m args below meth c' H locs ls B hP hS hl)
theorem r_sioobe {idx : Nat} (hd : decode (miC mi) pc = .ok (.getstatic idx, 3)) (hl0 : Cond.fieldLink (miO mi) idx "jdk/internal/util/Preconditions" "SIOOBE_FORMATTER" "Ljava/util/function/BiFunction;" ∈ zTB) (kk : ∀ v : Value, (v = .null ∨ ∃ t : Nat, v = .ref t) → Wr G mi dn (pc + 3) lv (v :: st) M r) : Wr G mi dn pc lv st M r := fun v' M' hr p e s m args below meth c' H locs ls B hP hS hl => by
  rcases B.2.2.2.2.2.2.2.1.2.2.1.2 with hz | ⟨t, hz⟩
  · exact va_gets B.1 B.2.1 hz hS B.2.2.2.1 (B.2.2.2.2.1 _ hl0) (fun x h => h) hd (kk _ (Or.inl rfl) v' M' hr p e s m args below meth c' H locs ls B hP hS hl)
  · exact va_gets B.1 B.2.1 hz hS B.2.2.2.1 (B.2.2.2.2.1 _ hl0) (fun x h => h) hd (kk _ (Or.inr ⟨t, rfl⟩) v' M' hr p e s m args below meth c' H locs ls B hP hS hl)
theorem r_sblen {i : Nat} (hi : i < 43) (hd : decode (miC mi) pc = .ok (.arraylength, 1)) (kk : Wr G mi dn (pc + 1) lv (.int (zSlen i) :: st) M r) : Wr G mi dn pc lv (.ref (G.2.2.2 (2000 + i)) :: st) M r := fun v' M' hr p e s m args below meth c' H locs ls B hP hS hl =>
  va_tlen B.1 B.2.1 (B.2.2.2.2.2.2.2.1.1 i _ (zsr_get hi)).2.2.2.2 hS rfl hd (kk v' M' hr p e s m args below meth c' H locs ls B hP hS hl)
theorem r_sbld {i : Nat} {x : Int32} (hi : i < 43) (hd : decode (miC mi) pc = .ok (.baload, 1)) (hin : vp_in x (slen i)) (kk : Wr G mi dn (pc + 1) lv (.int (sby i x.toNatClampNeg) :: st) M r) : Wr G mi dn pc lv (.int x :: .ref (G.2.2.2 (2000 + i)) :: st) M r := fun v' M' hr p e s m args below meth c' H locs ls B hP hS hl =>
  va_tb B.1 B.2.1 (B.2.2.2.2.2.2.2.1.1 i _ (zsr_get hi)).2.2.2.2 hS hin rfl hd (kk v' M' hr p e s m args below meth c' H locs ls B hP hS hl)
theorem c_OU {τ : Type} {dn : Option τ → Option (Option Value × Mem)} (hs : dn none = none) {stk rest : List Value} {x : Option Unit} {f : Unit → Option τ} (h : zCall G mi pc lv stk rest M (dO (dU M) x)) (k : Wr G mi dn (pc + 3) lv rest M (f ())) : Wr G mi dn pc lv stk M (bo_ x f) := by
  cases x with
  | none => exact r_none hs
  | some y => exact h _ _ _ (fun v M1 e => by cases e; exact k) (fun e => by cases e)
theorem inv_VS {mi' : MI} {As rest stk : List Value} {i idx n : Nat} {x : Option (Option Value × Mem)} (hM : Mt G mi' (.ref (G.2.2.2 (1000 + i)) :: As) M x) (hT : miT mi' = miT mi) (hk : miK mi' + 1 ≤ miK mi) (hd : decode (miC mi) pc = .ok (.invokevirtual idx, 3)) (hl0 : Cond.methodLink (miO mi) idx (miY mi') ∈ zTB) (hcal : zCalV mi' n)
    (hi : i < 43) (hC : (miY mi').cls = "java/lang/String") (hn : As.length = n) (hW : (rest.map fun v => v.category).sum ≤ 8) (hst : As.reverse ++ .ref (G.2.2.2 (1000 + i)) :: rest = stk) : zCall G mi pc lv stk rest M x := by
  intro σ dn r k h0
  cases hx : x with
  | none => exact r_none (h0 hx)
  | some q =>
    obtain ⟨v, M1⟩ := q
    intro v' M' hr p e s m args below meth c' H locs ls B hP hS hl
    obtain ⟨⟨g1, g2, g3, g4⟩, g5, g6⟩ := hcal
    have gi : GoodIn zTB (wsV (miO mi) idx (miY mi').cls (miY mi') (.code (miY mi') (miC mi') (miL mi') (miR mi') :: zTB)) := zTB_sub (fun w hw => by
      simp only [wsV, List.cons_append, List.nil_append, List.mem_cons] at hw
      rcases hw with rfl | rfl | rfl | rfl | rfl | hw
      · exact hl0
      · exact g2
      · exact g3
      · exact g4
      · exact g1
      · exact hw)
    have hrecv : ∃ cellB : Cell, H[G.2.2.2 (1000 + i)]? = some cellB ∧ cellB.vm.isStatics = false ∧ s.vm.findClass (miY mi').cls = some cellB.cls := by
      obtain ⟨cell, h1, h2, h3, -⟩ := (B.2.2.2.2.2.2.2.1.1 i _ (zsr_get hi)).2.1.kept hS.2.1
      exact ⟨cell, h1, h2, by rw [hC]; exact h3⟩
    have hrun := va_runV (e := e) (below := below) (meth := meth) (locs := locs) (H := H) (cells := 0) (slots := 0) (R := zRm (miK mi)) ⟨B.1, B.2.1, B.2.2.1, B.2.2.2.1, B.2.2.2.2.1⟩ (hM v M1 hx) (cwV n B.2.2.2.2.1 gi rfl rfl rfl ⟨rfl, g5⟩ (zroom hk g6)) (b := G.2.2.2 (1000 + i)) (As := As) (rest := rest) (g := F0 m pc ls stk)
      ⟨zBp_blind, hrecv, zpre hT B hP hS⟩ rfl hn hl.1 (by rw [← hst]) (lv_room hW) hd ⟨Nat.zero_le _, Nat.zero_le _⟩
    exact zgo hT hrun hS (fun H1 locs1 hP1 hS1 => k v M1 hx v' M' hr p e s m args below meth c' H1 locs1 ls B hP1 hS1 hl)
end JDK
set_option maxRecDepth 100000 in
set_option maxHeartbeats 4000000 in
theorem J0_coder_ok (G : Gh) {w0 : Nat} (hw0 : w0 < 43) (M : Mem) : Mt G mi_J0_coder_7d493 [.ref (G.2.2.2 (1000 + w0))] M (dI M 0) := by
  refine Mt_of (lv := [some (.ref (G.2.2.2 (1000 + w0)))]) (by decide) rfl (Nat.le_of_ble_eq_true rfl) rfl ?_
  refine r_compact dJ0_coder_7d493_0 lkf_J0_38 ?_
  refine r_eq (r' := if (1 : Int32) = 0 then 0 else 0) rfl ?_
  refine r_if_eq (tgt := 13) dJ0_coder_7d493_3 rfl (fun h => absurd h (by decide)) (fun _ => ?_)
  refine r_aload_n dJ0_coder_7d493_6 rfl ?_
  refine r_scod hw0 dJ0_coder_7d493_7 lkf_J0_15 ?_
  refine r_goto (tgt := 14) dJ0_coder_7d493_10 rfl ?_
  exact r_iret (ty := .byte) dJ0_coder_7d493_14 rfl rfl rfl
set_option maxRecDepth 100000 in
set_option maxHeartbeats 4000000 in
theorem J0_isLatin1_ok (G : Gh) {w0 : Nat} (hw0 : w0 < 43) (M : Mem) : Mt G mi_J0_isLatin1_aae02 [.ref (G.2.2.2 (1000 + w0))] M (dI M 1) := by
  refine Mt_of (lv := [some (.ref (G.2.2.2 (1000 + w0)))]) (by decide) rfl (Nat.le_of_ble_eq_true rfl) rfl ?_
  refine r_compact dJ0_isLatin1_aae02_0 lkf_J0_38 ?_
  refine r_eq (r' := if (1 : Int32) = 0 then 1 else 1) rfl ?_
  refine r_if_eq (tgt := 17) dJ0_isLatin1_aae02_3 rfl (fun h => absurd h (by decide)) (fun _ => ?_)
  refine r_aload_n dJ0_isLatin1_aae02_6 rfl ?_
  refine r_scod hw0 dJ0_isLatin1_aae02_7 lkf_J0_15 ?_
  refine r_eq (r' := if (0 : Int32) = 0 then 1 else 1) rfl ?_
  refine r_if_ne (tgt := 17) dJ0_isLatin1_aae02_10 rfl (fun _ => ?_) (fun h => absurd rfl h)
  refine r_iconst (x := 1) dJ0_isLatin1_aae02_13 rfl ?_
  refine r_goto (tgt := 18) dJ0_isLatin1_aae02_14 rfl ?_
  exact r_iret (ty := .boolean) dJ0_isLatin1_aae02_18 rfl rfl rfl
theorem zshr0 (i : Nat) (h : i < 43) : zSlen i >>> ((0 : Int32) &&& 31) = zSlen i := by
  have : ∀ i, i < 43 → zSlen i >>> ((0 : Int32) &&& 31) = zSlen i := by decide +kernel
  exact this i h
set_option maxRecDepth 100000 in
set_option maxHeartbeats 4000000 in
theorem zSlen_ok (G : Gh) {w0 : Nat} (hw0 : w0 < 43) (M : Mem) : Mt G mi_J0_length_8abf5 [.ref (G.2.2.2 (1000 + w0))] M (dI M (zSlen w0)) := by
  refine Mt_of (lv := [some (.ref (G.2.2.2 (1000 + w0)))]) (by decide) rfl (Nat.le_of_ble_eq_true rfl) rfl ?_
  refine r_aload_n dJ0_length_8abf5_0 rfl ?_
  refine r_sval hw0 dJ0_length_8abf5_1 lkf_J0_9 ?_
  refine r_sblen hw0 dJ0_length_8abf5_4 ?_
  refine r_aload_n dJ0_length_8abf5_5 rfl ?_
  refine c_I (inv_VS (mi := mi_J0_length_8abf5) (i := w0) (rest := [.int (zSlen w0)]) (J0_coder_ok G hw0 M) rfl (by decide) dJ0_length_8abf5_6 lkm_J0_335 cal_J0_coder_7d493 hw0 rfl rfl (Nat.le_of_ble_eq_true rfl) rfl) ?_
  refine r_ishr dJ0_length_8abf5_9 ?_
  rw [zshr0 w0 hw0]
  exact r_iret (ty := .int) dJ0_length_8abf5_10 rfl rfl rfl
set_option maxRecDepth 100000 in
set_option maxHeartbeats 4000000 in
theorem J3_ck_ok (G : Gh) (x n : Int32) {v : Value} (hv : v = .null ∨ ∃ t : Nat, v = .ref t) (M : Mem) : Mt G mi_J3_checkIndex_8e157 [.int x, .int n, v] M (dO (dI M) (if x < 0 then none else if x < n then some x else none)) := by
  rcases hv with rfl | ⟨t, rfl⟩
  · refine Mt_of (lv := [some (.int x), some (.int n), some .null]) (by decide) rfl (Nat.le_of_ble_eq_true rfl) rfl ?_
    refine r_iload_n dJ3_checkIndex_8e157_0 rfl ?_
    refine r_if_lt (tgt := 9) dJ3_checkIndex_8e157_1 rfl (fun _ => r_none rfl) (fun h => ?_)
    refine r_iload_n dJ3_checkIndex_8e157_4 rfl ?_
    refine r_iload_n dJ3_checkIndex_8e157_5 rfl ?_
    refine r_icmp_lt (tgt := 16) dJ3_checkIndex_8e157_6 rfl (fun h2 => ?_) (fun _ => r_none rfl)
    refine r_iload_n dJ3_checkIndex_8e157_16 rfl ?_
    exact r_iret (ty := .int) dJ3_checkIndex_8e157_17 rfl rfl rfl
  · refine Mt_of (lv := [some (.int x), some (.int n), some (.ref t)]) (by decide) rfl (Nat.le_of_ble_eq_true rfl) rfl ?_
    refine r_iload_n dJ3_checkIndex_8e157_0 rfl ?_
    refine r_if_lt (tgt := 9) dJ3_checkIndex_8e157_1 rfl (fun _ => r_none rfl) (fun h => ?_)
    refine r_iload_n dJ3_checkIndex_8e157_4 rfl ?_
    refine r_iload_n dJ3_checkIndex_8e157_5 rfl ?_
    refine r_icmp_lt (tgt := 16) dJ3_checkIndex_8e157_6 rfl (fun h2 => ?_) (fun _ => r_none rfl)
    refine r_iload_n dJ3_checkIndex_8e157_16 rfl ?_
    exact r_iret (ty := .int) dJ3_checkIndex_8e157_17 rfl rfl rfl
set_option maxRecDepth 100000 in
set_option maxHeartbeats 4000000 in
theorem J0_ck_ok (G : Gh) (x n : Int32) (M : Mem) : Mt G mi_J0_checkIndex_df160 [.int x, .int n] M (dO (dU M) (bo_ (if x < 0 then none else if x < n then some x else none) fun _ => some ())) := by
  refine Mt_of (lv := [some (.int x), some (.int n)]) (by decide) rfl (Nat.le_of_ble_eq_true rfl) rfl ?_
  refine r_iload_n dJ0_checkIndex_df160_0 rfl ?_
  refine r_iload_n dJ0_checkIndex_df160_1 rfl ?_
  refine r_sioobe dJ0_checkIndex_df160_2 lkf_J0_1053 (fun v hv => ?_)
  refine c_OI rfl (inv_S (mi := mi_J0_checkIndex_df160) (rest := []) (J3_ck_ok G x n hv M) rfl (by decide) dJ0_checkIndex_df160_5 lkm_J0_1059 cal_J3_checkIndex_8e157 rfl (Nat.le_of_ble_eq_true rfl) rfl) (fun y => ?_)
  refine r_pop dJ0_checkIndex_df160_8 rfl ?_
  exact r_vret dJ0_checkIndex_df160_9 rfl rfl
theorem inb_or {x : Int32} {n : Nat} (hn : n < 2 ^ 31) : inb x n = true ↔ (¬ x < 0 ∧ x < nI n) := by
  simp only [inb, Bool.and_eq_true, decide_eq_true_eq]
  constructor
  · rintro ⟨h1, h2⟩
    refine ⟨zi_nlt h1, ?_⟩
    obtain ⟨j, hj, rfl⟩ := nI_of (zi_nlt h1)
    rw [nI_clamp hj] at h2
    exact nI_lt h2 hn
  · rintro ⟨h1, h2⟩
    obtain ⟨j, hj, rfl⟩ := nI_of h1
    rw [nI_clamp hj]
    exact ⟨Int32.not_lt.mp h1, (nI_ltI hj hn).mp h2⟩
set_option maxRecDepth 100000 in
set_option maxHeartbeats 4000000 in
theorem J1_charAt_ok (G : Gh) {w0 : Nat} (hw0 : w0 < 43) (x : Int32) (M : Mem) : Mt G mi_J1_charAt_3b067 [.ref (G.2.2.2 (2000 + w0)), .int x] M (dO (dI M) (zSch w0 x)) := by
  by_cases hb : inb x (slen w0) = true
  · obtain ⟨b1, b2⟩ := (inb_or (slen_lt w0 hw0)).mp hb
    have e : zSch w0 x = some (sch w0 x.toNatClampNeg) := by unfold zSch gd_; rw [if_pos hb]
    rw [e]
    have hlt : x.toNatClampNeg < slen w0 := by simp only [inb, Bool.and_eq_true, decide_eq_true_eq] at hb; exact hb.2
    refine Mt_of (lv := [some (.ref (G.2.2.2 (2000 + w0))), some (.int x)]) (by decide) rfl (Nat.le_of_ble_eq_true rfl) rfl ?_
    refine r_iload_n dJ1_charAt_3b067_0 rfl ?_
    refine r_aload_n dJ1_charAt_3b067_1 rfl ?_
    refine r_sblen hw0 dJ1_charAt_3b067_2 ?_
    refine r_eq (r' := bo_ (bo_ (if x < 0 then none else if x < zSlen w0 then some x else none) fun _ => some ()) fun _ => some (sch w0 x.toNatClampNeg)) (by rw [if_neg b1, if_pos (show x < zSlen w0 from b2)]; rfl) ?_
    refine c_OU rfl (inv_S (mi := mi_J1_charAt_3b067) (rest := []) (J0_ck_ok G x (zSlen w0) M) rfl (by decide) dJ1_charAt_3b067_3 lkm_J1_9 cal_J0_checkIndex_df160 rfl (Nat.le_of_ble_eq_true rfl) rfl) ?_
    refine r_aload_n dJ1_charAt_3b067_6 rfl ?_
    refine r_iload_n dJ1_charAt_3b067_7 rfl ?_
    refine r_sbld hw0 dJ1_charAt_3b067_8 (inb_in hb) ?_
    refine r_sipush (x := 255) dJ1_charAt_3b067_9 rfl ?_
    refine r_iand dJ1_charAt_3b067_12 ?_
    refine r_i2c dJ1_charAt_3b067_13 ?_
    exact r_iret (ty := .char) dJ1_charAt_3b067_14 rfl (sch_char w0 hw0 _ hlt) rfl
  · exact Mt_none (σ := Unit) (by unfold zSch gd_; rw [if_neg hb]; rfl)
set_option maxRecDepth 100000 in
set_option maxHeartbeats 4000000 in
theorem zSch_ok (G : Gh) {w0 : Nat} (hw0 : w0 < 43) (x : Int32) (M : Mem) : Mt G mi_J0_charAt_5068e [.ref (G.2.2.2 (1000 + w0)), .int x] M (dO (dI M) (zSch w0 x)) := by
  cases e : zSch w0 x with
  | none => exact Mt_none (σ := Unit) rfl
  | some y =>
    have hb : inb x (slen w0) = true := by
      unfold zSch gd_ at e
      split at e
      · assumption
      · cases e
    have hlt : x.toNatClampNeg < slen w0 := by simp only [inb, Bool.and_eq_true, decide_eq_true_eq] at hb; exact hb.2
    have ey : y = sch w0 x.toNatClampNeg := by
      unfold zSch gd_ at e
      rw [if_pos hb] at e
      exact (Option.some.inj e).symm
    refine Mt_of (lv := [some (.ref (G.2.2.2 (1000 + w0))), some (.int x)]) (by decide) rfl (Nat.le_of_ble_eq_true rfl) rfl ?_
    refine r_aload_n dJ0_charAt_5068e_0 rfl ?_
    refine c_I (inv_VS (mi := mi_J0_charAt_5068e) (i := w0) (rest := []) (J0_isLatin1_ok G hw0 M) rfl (by decide) dJ0_charAt_5068e_1 lkm_J0_492 cal_J0_isLatin1_aae02 hw0 rfl rfl (Nat.le_of_ble_eq_true rfl) rfl) ?_
    refine r_eq (r' := if (1 : Int32) = 0 then some y else some y) rfl ?_
    refine r_if_eq (tgt := 16) dJ0_charAt_5068e_4 rfl (fun h => absurd h (by decide)) (fun _ => ?_)
    refine r_aload_n dJ0_charAt_5068e_7 rfl ?_
    refine r_sval hw0 dJ0_charAt_5068e_8 lkf_J0_9 ?_
    refine r_iload_n dJ0_charAt_5068e_11 rfl ?_
    have hc : zCall G mi_J0_charAt_5068e 12 [some (.ref (G.2.2.2 (1000 + w0))), some (.int x)] [.int x, .ref (G.2.2.2 (2000 + w0))] [] M (dO (dI M) (zSch w0 x)) := inv_S (mi := mi_J0_charAt_5068e) (rest := []) (J1_charAt_ok G hw0 x M) rfl (by decide) dJ0_charAt_5068e_12 lkm_J0_495 cal_J1_charAt_3b067 rfl (Nat.le_of_ble_eq_true rfl) rfl
    refine hc _ _ _ (fun v M1 e2 => ?_) (fun e2 => by rw [e] at e2; cases e2)
    rw [e] at e2
    cases e2
    exact r_iret (ty := .char) dJ0_charAt_5068e_15 rfl (by rw [ey]; exact sch_char w0 hw0 _ hlt) rfl
