theorem dX12_isCompared_0 : decode cX12_isCompared 0 = .ok (.aload_n 0, 1) := by decide +kernel
theorem dX12_isCompared_1 : decode cX12_isCompared 1 = .ok (.getfield 358, 3) := by decide +kernel
theorem dX12_isCompared_4 : decode cX12_isCompared 4 = .ok (.iconst 1, 1) := by decide +kernel
theorem dX12_isCompared_5 : decode cX12_isCompared 5 = .ok (.isub, 1) := by decide +kernel
theorem dX12_isCompared_6 : decode cX12_isCompared 6 = .ok (.istore_n 1, 1) := by decide +kernel
theorem dX12_isCompared_7 : decode cX12_isCompared 7 = .ok (.aload_n 0, 1) := by decide +kernel
theorem dX12_isCompared_8 : decode cX12_isCompared 8 = .ok (.getfield 104, 3) := by decide +kernel
theorem dX12_isCompared_11 : decode cX12_isCompared 11 = .ok (.iload_n 1, 1) := by decide +kernel
theorem dX12_isCompared_12 : decode cX12_isCompared 12 = .ok (.iaload, 1) := by decide +kernel
theorem dX12_isCompared_13 : decode cX12_isCompared 13 = .ok (.iconst 5, 1) := by decide +kernel
theorem dX12_isCompared_14 : decode cX12_isCompared 14 = .ok (.if_icmp .eq 14, 3) := by decide +kernel
theorem dX12_isCompared_17 : decode cX12_isCompared 17 = .ok (.aload_n 0, 1) := by decide +kernel
theorem dX12_isCompared_18 : decode cX12_isCompared 18 = .ok (.getfield 104, 3) := by decide +kernel
theorem dX12_isCompared_21 : decode cX12_isCompared 21 = .ok (.iload_n 1, 1) := by decide +kernel
theorem dX12_isCompared_22 : decode cX12_isCompared 22 = .ok (.iaload, 1) := by decide +kernel
theorem dX12_isCompared_23 : decode cX12_isCompared 23 = .ok (.bipush 6, 2) := by decide +kernel
theorem dX12_isCompared_25 : decode cX12_isCompared 25 = .ok (.if_icmp .ne 9, 3) := by decide +kernel
theorem dX12_isCompared_28 : decode cX12_isCompared 28 = .ok (.iinc 1 (-1), 3) := by decide +kernel
theorem dX12_isCompared_31 : decode cX12_isCompared 31 = .ok (.goto (-24), 3) := by decide +kernel
theorem dX12_isCompared_34 : decode cX12_isCompared 34 = .ok (.aload_n 0, 1) := by decide +kernel
theorem dX12_isCompared_35 : decode cX12_isCompared 35 = .ok (.getfield 104, 3) := by decide +kernel
theorem dX12_isCompared_38 : decode cX12_isCompared 38 = .ok (.iload_n 1, 1) := by decide +kernel
theorem dX12_isCompared_39 : decode cX12_isCompared 39 = .ok (.iaload, 1) := by decide +kernel
theorem dX12_isCompared_40 : decode cX12_isCompared 40 = .ok (.iconst 4, 1) := by decide +kernel
theorem dX12_isCompared_41 : decode cX12_isCompared 41 = .ok (.if_icmp .ne 7, 3) := by decide +kernel
theorem dX12_isCompared_44 : decode cX12_isCompared 44 = .ok (.iconst 1, 1) := by decide +kernel
theorem dX12_isCompared_45 : decode cX12_isCompared 45 = .ok (.goto 4, 3) := by decide +kernel
theorem dX12_isCompared_48 : decode cX12_isCompared 48 = .ok (.iconst 0, 1) := by decide +kernel
theorem dX12_isCompared_49 : decode cX12_isCompared 49 = .ok (.ireturn, 1) := by decide +kernel
abbrev mi_X12_isCompared : MI := (zTM, RX12, yX12_isCompared, cX12_isCompared, 2, (some .boolean), 2)
theorem cal_X12_isCompared : zCalV mi_X12_isCompared 0 := ⟨⟨zTB_i8 34 (by decide +kernel), zTB_i8 33 (by decide +kernel), zTB_i0 77 (by decide +kernel), zTB_i1 13 (by decide +kernel)⟩, ⟨by decide, by decide, by decide +kernel⟩, by decide⟩
noncomputable def X12_isCompared_L1 (M : Mem) : Nat → Int32 → Option (Int32)
  | 0, _ => none
  | n + 1, c1 =>
    gd_ (inb c1 (90) = true) (
    l1_ (α := Bool) (
      if (M.1 30 c1.toNatClampNeg) = 5 then
        true
      else
      if (M.1 30 c1.toNatClampNeg) = 6 then
        true
      else
      false) fun t5 =>
    if t5 = true then
      X12_isCompared_L1 M n (c1 + (-1))
    else
    some c1)
noncomputable def X12_isCompared (M : Mem) : Option (Bool) :=
  lt_ (α := Int32) ((M.1 0 45) - 1) fun y1 =>
  b1_ (α := Int32) (X12_isCompared_L1 M zFU y1) fun e7 =>
  gd_ (inb e7 (90) = true) (
  if (M.1 30 e7.toNatClampNeg) = 4 then
    some true
  else
  some false)
set_option maxRecDepth 100000 in
set_option maxHeartbeats 4000000 in
theorem X12_isCompared_L1_ok (G : Gh) (M : Mem) {dn : Option (Int32) → Option (Option Value × Mem)} (hs : dn none = none) (hx : ∀ (e7 : Int32), Wr G mi_X12_isCompared dn 34 [some (.ref (G.2.2.2 (0))), some (.int e7)] [] M (some e7)) : ∀ (n : Nat) (c1 : Int32), Wr G mi_X12_isCompared dn 7 [some (.ref (G.2.2.2 (0))), some (.int c1)] [] M (X12_isCompared_L1 M n c1) := by
  intro n
  induction n with
  | zero => intro c1; exact r_none (by exact hs)
  | succ n ih =>
    intro c1
    rw [X12_isCompared_L1]
    refine r_aload_n dX12_isCompared_7 rfl ?_
    refine r_getf (v := .ref (G.2.2.2 (30))) dX12_isCompared_8 fM_0_38 kX12 (by decide) lkf_X12_104 rfl ?_
    refine r_iload_n dX12_isCompared_11 rfl ?_
    refine r_gd (by exact hs) (fun g2 => ?_)
    refine r_iald dX12_isCompared_12 aM_30 (inb_in g2) rfl ?_
    refine r_iconst (x := 5) dX12_isCompared_13 rfl ?_
    refine r_cL (jX := 28) (jY := 34) (lvX := [some (.ref (G.2.2.2 (0))), some (.int c1)]) (lvY := [some (.ref (G.2.2.2 (0))), some (.int c1)]) (stX := []) (M1 := M) (fun h6 => ?_) (fun h6 => ?_) (fun hX28 hY34 => ?_)
    · refine r_eq (if_pos rfl) ?_
      refine r_iinc (y := c1 + (-1)) (lv' := [some (.ref (G.2.2.2 (0))), some (.int (c1 + (-1)))]) dX12_isCompared_28 rfl rfl (Nat.le_of_ble_eq_true rfl) rfl rfl ?_
      refine r_goto (tgt := 7) dX12_isCompared_31 rfl ?_
      exact r_lk (ih (c1 + (-1))) (And.intro rfl (And.intro rfl True.intro))
    · refine r_eq (if_neg (by decide)) ?_
      exact r_lk (hx c1) (And.intro rfl (And.intro rfl True.intro))
    refine r_icmp_eq (tgt := 28) dX12_isCompared_14 rfl (fun h3 => ?_) (fun h3 => ?_)
    · exact r_lk hX28 (And.intro rfl (And.intro rfl True.intro))
    refine r_aload_n dX12_isCompared_17 rfl ?_
    refine r_getf (v := .ref (G.2.2.2 (30))) dX12_isCompared_18 fM_0_38 kX12 (by decide) lkf_X12_104 rfl ?_
    refine r_iload_n dX12_isCompared_21 rfl ?_
    refine r_iald dX12_isCompared_22 aM_30 (inb_in g2) rfl ?_
    refine r_bipush (x := 6) dX12_isCompared_23 rfl ?_
    refine r_icmp_ne (tgt := 34) dX12_isCompared_25 rfl (fun h4 => ?_) (fun h4 => ?_)
    · exact r_lk hX28 (And.intro rfl (And.intro rfl True.intro))
    exact r_lk hY34 (And.intro rfl (And.intro rfl True.intro))
set_option maxRecDepth 100000 in
set_option maxHeartbeats 4000000 in
theorem X12_isCompared_ok (G : Gh) (M : Mem) : Mt G mi_X12_isCompared [.ref (G.2.2.2 (0))] M ((dO (dZ M)) (X12_isCompared M)) := by
  refine Mt_of (lv := [some (.ref (G.2.2.2 (0)))]) (by decide) rfl (Nat.le_of_ble_eq_true rfl) rfl ?_
  refine r_le (lv' := [some (.ref (G.2.2.2 (0))), none]) (And.intro rfl True.intro) ?_
  unfold X12_isCompared
  refine r_aload_n dX12_isCompared_0 rfl ?_
  refine r_getf (v := .int (M.1 0 45)) dX12_isCompared_1 fM_0_45 kX12 (by decide) lkf_X12_358 rfl ?_
  refine r_iconst (x := 1) dX12_isCompared_4 rfl ?_
  refine r_isub dX12_isCompared_5 ?_
  refine r_letI (fun y1 => ?_)
  refine r_istore_n (lv' := [some (.ref (G.2.2.2 (0))), some (.int y1)]) dX12_isCompared_6 (Nat.le_of_ble_eq_true rfl) rfl rfl ?_
  refine r_jB1 (j := 34) (lvj := fun e7 => [some (.ref (G.2.2.2 (0))), some (.int e7)]) (stj := fun e7 => []) (Mj := fun e7 => M) (fun e7 => ?_) (fun hj34 => ?_)
  · refine r_aload_n dX12_isCompared_34 rfl ?_
    refine r_getf (v := .ref (G.2.2.2 (30))) dX12_isCompared_35 fM_0_38 kX12 (by decide) lkf_X12_104 rfl ?_
    refine r_iload_n dX12_isCompared_38 rfl ?_
    refine r_gd rfl (fun g8 => ?_)
    refine r_iald dX12_isCompared_39 aM_30 (inb_in g8) rfl ?_
    refine r_iconst (x := 4) dX12_isCompared_40 rfl ?_
    refine r_icmp_ne (tgt := 48) dX12_isCompared_41 rfl (fun h9 => ?_) (fun h9 => ?_)
    · refine r_iconst (x := 1) dX12_isCompared_44 rfl ?_
      refine r_goto (tgt := 49) dX12_isCompared_45 rfl ?_
      exact r_iret (ty := .boolean) dX12_isCompared_49 rfl rfl rfl
    refine r_iconst (x := 0) dX12_isCompared_48 rfl ?_
    exact r_iret (ty := .boolean) dX12_isCompared_49 rfl rfl rfl
  exact r_lk (X12_isCompared_L1_ok G M rfl hj34 zFU y1) (And.intro rfl (And.intro rfl True.intro))

theorem dX12_behindUnit_0 : decode cX12_behindUnit 0 = .ok (.aload_n 0, 1) := by decide +kernel
theorem dX12_behindUnit_1 : decode cX12_behindUnit 1 = .ok (.invokevirtual 379, 3) := by decide +kernel
theorem dX12_behindUnit_4 : decode cX12_behindUnit 4 = .ok (.istore_n 1, 1) := by decide +kernel
theorem dX12_behindUnit_5 : decode cX12_behindUnit 5 = .ok (.iload_n 1, 1) := by decide +kernel
theorem dX12_behindUnit_6 : decode cX12_behindUnit 6 = .ok (.iconst 4, 1) := by decide +kernel
theorem dX12_behindUnit_7 : decode cX12_behindUnit 7 = .ok (.if_icmp .ne 16, 3) := by decide +kernel
theorem dX12_behindUnit_10 : decode cX12_behindUnit 10 = .ok (.aload_n 0, 1) := by decide +kernel
theorem dX12_behindUnit_11 : decode cX12_behindUnit 11 = .ok (.invokevirtual 382, 3) := by decide +kernel
theorem dX12_behindUnit_14 : decode cX12_behindUnit 14 = .ok (.ifCond .eq 9, 3) := by decide +kernel
theorem dX12_behindUnit_17 : decode cX12_behindUnit 17 = .ok (.aload_n 0, 1) := by decide +kernel
theorem dX12_behindUnit_18 : decode cX12_behindUnit 18 = .ok (.invokevirtual 278, 3) := by decide +kernel
theorem dX12_behindUnit_21 : decode cX12_behindUnit 21 = .ok (.iconst 1, 1) := by decide +kernel
theorem dX12_behindUnit_22 : decode cX12_behindUnit 22 = .ok (.ireturn, 1) := by decide +kernel
theorem dX12_behindUnit_23 : decode cX12_behindUnit 23 = .ok (.aload_n 0, 1) := by decide +kernel
theorem dX12_behindUnit_24 : decode cX12_behindUnit 24 = .ok (.getfield 104, 3) := by decide +kernel
theorem dX12_behindUnit_27 : decode cX12_behindUnit 27 = .ok (.aload_n 0, 1) := by decide +kernel
theorem dX12_behindUnit_28 : decode cX12_behindUnit 28 = .ok (.getfield 358, 3) := by decide +kernel
theorem dX12_behindUnit_31 : decode cX12_behindUnit 31 = .ok (.iconst 1, 1) := by decide +kernel
theorem dX12_behindUnit_32 : decode cX12_behindUnit 32 = .ok (.isub, 1) := by decide +kernel
theorem dX12_behindUnit_33 : decode cX12_behindUnit 33 = .ok (.iaload, 1) := by decide +kernel
theorem dX12_behindUnit_34 : decode cX12_behindUnit 34 = .ok (.bipush 6, 2) := by decide +kernel
theorem dX12_behindUnit_36 : decode cX12_behindUnit 36 = .ok (.if_icmp .gt 68, 3) := by decide +kernel
theorem dX12_behindUnit_39 : decode cX12_behindUnit 39 = .ok (.aload_n 0, 1) := by decide +kernel
theorem dX12_behindUnit_40 : decode cX12_behindUnit 40 = .ok (.getfield 104, 3) := by decide +kernel
theorem dX12_behindUnit_43 : decode cX12_behindUnit 43 = .ok (.aload_n 0, 1) := by decide +kernel
theorem dX12_behindUnit_44 : decode cX12_behindUnit 44 = .ok (.getfield 358, 3) := by decide +kernel
theorem dX12_behindUnit_47 : decode cX12_behindUnit 47 = .ok (.iconst 1, 1) := by decide +kernel
theorem dX12_behindUnit_48 : decode cX12_behindUnit 48 = .ok (.isub, 1) := by decide +kernel
theorem dX12_behindUnit_49 : decode cX12_behindUnit 49 = .ok (.iaload, 1) := by decide +kernel
theorem dX12_behindUnit_50 : decode cX12_behindUnit 50 = .ok (.iload_n 1, 1) := by decide +kernel
theorem dX12_behindUnit_51 : decode cX12_behindUnit 51 = .ok (.if_icmp .lt 53, 3) := by decide +kernel
theorem dX12_behindUnit_54 : decode cX12_behindUnit 54 = .ok (.aload_n 0, 1) := by decide +kernel
theorem dX12_behindUnit_55 : decode cX12_behindUnit 55 = .ok (.dup, 1) := by decide +kernel
theorem dX12_behindUnit_56 : decode cX12_behindUnit 56 = .ok (.getfield 358, 3) := by decide +kernel
theorem dX12_behindUnit_59 : decode cX12_behindUnit 59 = .ok (.iconst 1, 1) := by decide +kernel
theorem dX12_behindUnit_60 : decode cX12_behindUnit 60 = .ok (.isub, 1) := by decide +kernel
theorem dX12_behindUnit_61 : decode cX12_behindUnit 61 = .ok (.putfield 358, 3) := by decide +kernel
theorem dX12_behindUnit_64 : decode cX12_behindUnit 64 = .ok (.aload_n 0, 1) := by decide +kernel
theorem dX12_behindUnit_65 : decode cX12_behindUnit 65 = .ok (.getfield 104, 3) := by decide +kernel
theorem dX12_behindUnit_68 : decode cX12_behindUnit 68 = .ok (.aload_n 0, 1) := by decide +kernel
theorem dX12_behindUnit_69 : decode cX12_behindUnit 69 = .ok (.getfield 358, 3) := by decide +kernel
theorem dX12_behindUnit_72 : decode cX12_behindUnit 72 = .ok (.iaload, 1) := by decide +kernel
theorem dX12_behindUnit_73 : decode cX12_behindUnit 73 = .ok (.iconst 3, 1) := by decide +kernel
theorem dX12_behindUnit_74 : decode cX12_behindUnit 74 = .ok (.if_icmp .ne 13, 3) := by decide +kernel
theorem dX12_behindUnit_77 : decode cX12_behindUnit 77 = .ok (.aload_n 0, 1) := by decide +kernel
theorem dX12_behindUnit_78 : decode cX12_behindUnit 78 = .ok (.dup, 1) := by decide +kernel
theorem dX12_behindUnit_79 : decode cX12_behindUnit 79 = .ok (.getfield 361, 3) := by decide +kernel
theorem dX12_behindUnit_82 : decode cX12_behindUnit 82 = .ok (.iconst 1, 1) := by decide +kernel
theorem dX12_behindUnit_83 : decode cX12_behindUnit 83 = .ok (.isub, 1) := by decide +kernel
theorem dX12_behindUnit_84 : decode cX12_behindUnit 84 = .ok (.putfield 361, 3) := by decide +kernel
theorem dX12_behindUnit_87 : decode cX12_behindUnit 87 = .ok (.aload_n 0, 1) := by decide +kernel
theorem dX12_behindUnit_88 : decode cX12_behindUnit 88 = .ok (.aload_n 0, 1) := by decide +kernel
theorem dX12_behindUnit_89 : decode cX12_behindUnit 89 = .ok (.getfield 107, 3) := by decide +kernel
theorem dX12_behindUnit_92 : decode cX12_behindUnit 92 = .ok (.aload_n 0, 1) := by decide +kernel
theorem dX12_behindUnit_93 : decode cX12_behindUnit 93 = .ok (.getfield 358, 3) := by decide +kernel
theorem dX12_behindUnit_96 : decode cX12_behindUnit 96 = .ok (.iaload, 1) := by decide +kernel
theorem dX12_behindUnit_97 : decode cX12_behindUnit 97 = .ok (.iconst 0, 1) := by decide +kernel
theorem dX12_behindUnit_98 : decode cX12_behindUnit 98 = .ok (.invokevirtual 376, 3) := by decide +kernel
theorem dX12_behindUnit_101 : decode cX12_behindUnit 101 = .ok (.goto (-78), 3) := by decide +kernel
theorem dX12_behindUnit_104 : decode cX12_behindUnit 104 = .ok (.iload_n 1, 1) := by decide +kernel
theorem dX12_behindUnit_105 : decode cX12_behindUnit 105 = .ok (.ifCond .le 42, 3) := by decide +kernel
theorem dX12_behindUnit_108 : decode cX12_behindUnit 108 = .ok (.aload_n 0, 1) := by decide +kernel
theorem dX12_behindUnit_109 : decode cX12_behindUnit 109 = .ok (.iload_n 1, 1) := by decide +kernel
theorem dX12_behindUnit_110 : decode cX12_behindUnit 110 = .ok (.iload_n 1, 1) := by decide +kernel
theorem dX12_behindUnit_111 : decode cX12_behindUnit 111 = .ok (.iconst 2, 1) := by decide +kernel
theorem dX12_behindUnit_112 : decode cX12_behindUnit 112 = .ok (.if_icmp .ne 8, 3) := by decide +kernel
theorem dX12_behindUnit_115 : decode cX12_behindUnit 115 = .ok (.bipush 38, 2) := by decide +kernel
theorem dX12_behindUnit_117 : decode cX12_behindUnit 117 = .ok (.goto 21, 3) := by decide +kernel
theorem dX12_behindUnit_120 : decode cX12_behindUnit 120 = .ok (.iload_n 1, 1) := by decide +kernel
theorem dX12_behindUnit_121 : decode cX12_behindUnit 121 = .ok (.iconst 1, 1) := by decide +kernel
theorem dX12_behindUnit_122 : decode cX12_behindUnit 122 = .ok (.if_icmp .ne 8, 3) := by decide +kernel
theorem dX12_behindUnit_125 : decode cX12_behindUnit 125 = .ok (.bipush 124, 2) := by decide +kernel
theorem dX12_behindUnit_127 : decode cX12_behindUnit 127 = .ok (.goto 11, 3) := by decide +kernel
theorem dX12_behindUnit_130 : decode cX12_behindUnit 130 = .ok (.aload_n 0, 1) := by decide +kernel
theorem dX12_behindUnit_131 : decode cX12_behindUnit 131 = .ok (.aload_n 0, 1) := by decide +kernel
theorem dX12_behindUnit_132 : decode cX12_behindUnit 132 = .ok (.getfield 236, 3) := by decide +kernel
theorem dX12_behindUnit_135 : decode cX12_behindUnit 135 = .ok (.invokevirtual 239, 3) := by decide +kernel
theorem dX12_behindUnit_138 : decode cX12_behindUnit 138 = .ok (.invokevirtual 364, 3) := by decide +kernel
theorem dX12_behindUnit_141 : decode cX12_behindUnit 141 = .ok (.aload_n 0, 1) := by decide +kernel
theorem dX12_behindUnit_142 : decode cX12_behindUnit 142 = .ok (.invokevirtual 275, 3) := by decide +kernel
theorem dX12_behindUnit_145 : decode cX12_behindUnit 145 = .ok (.iconst 1, 1) := by decide +kernel
theorem dX12_behindUnit_146 : decode cX12_behindUnit 146 = .ok (.ireturn, 1) := by decide +kernel
theorem dX12_behindUnit_147 : decode cX12_behindUnit 147 = .ok (.aload_n 0, 1) := by decide +kernel
theorem dX12_behindUnit_148 : decode cX12_behindUnit 148 = .ok (.dup, 1) := by decide +kernel
theorem dX12_behindUnit_149 : decode cX12_behindUnit 149 = .ok (.getfield 358, 3) := by decide +kernel
theorem dX12_behindUnit_152 : decode cX12_behindUnit 152 = .ok (.iconst 1, 1) := by decide +kernel
theorem dX12_behindUnit_153 : decode cX12_behindUnit 153 = .ok (.isub, 1) := by decide +kernel
theorem dX12_behindUnit_154 : decode cX12_behindUnit 154 = .ok (.putfield 358, 3) := by decide +kernel
theorem dX12_behindUnit_157 : decode cX12_behindUnit 157 = .ok (.aload_n 0, 1) := by decide +kernel
theorem dX12_behindUnit_158 : decode cX12_behindUnit 158 = .ok (.getfield 104, 3) := by decide +kernel
theorem dX12_behindUnit_161 : decode cX12_behindUnit 161 = .ok (.aload_n 0, 1) := by decide +kernel
theorem dX12_behindUnit_162 : decode cX12_behindUnit 162 = .ok (.getfield 358, 3) := by decide +kernel
theorem dX12_behindUnit_165 : decode cX12_behindUnit 165 = .ok (.iaload, 1) := by decide +kernel
theorem dX12_behindUnit_166 : decode cX12_behindUnit 166 = .ok (.bipush 7, 2) := by decide +kernel
theorem dX12_behindUnit_168 : decode cX12_behindUnit 168 = .ok (.if_icmp .ne 23, 3) := by decide +kernel
theorem dX12_behindUnit_171 : decode cX12_behindUnit 171 = .ok (.aload_n 0, 1) := by decide +kernel
theorem dX12_behindUnit_172 : decode cX12_behindUnit 172 = .ok (.dup, 1) := by decide +kernel
theorem dX12_behindUnit_173 : decode cX12_behindUnit 173 = .ok (.getfield 361, 3) := by decide +kernel
theorem dX12_behindUnit_176 : decode cX12_behindUnit 176 = .ok (.iconst 1, 1) := by decide +kernel
theorem dX12_behindUnit_177 : decode cX12_behindUnit 177 = .ok (.isub, 1) := by decide +kernel
theorem dX12_behindUnit_178 : decode cX12_behindUnit 178 = .ok (.putfield 361, 3) := by decide +kernel
theorem dX12_behindUnit_181 : decode cX12_behindUnit 181 = .ok (.aload_n 0, 1) := by decide +kernel
theorem dX12_behindUnit_182 : decode cX12_behindUnit 182 = .ok (.aload_n 0, 1) := by decide +kernel
theorem dX12_behindUnit_183 : decode cX12_behindUnit 183 = .ok (.bipush 41, 2) := by decide +kernel
theorem dX12_behindUnit_185 : decode cX12_behindUnit 185 = .ok (.invokevirtual 335, 3) := by decide +kernel
theorem dX12_behindUnit_188 : decode cX12_behindUnit 188 = .ok (.invokevirtual 284, 3) := by decide +kernel
theorem dX12_behindUnit_191 : decode cX12_behindUnit 191 = .ok (.iconst 0, 1) := by decide +kernel
theorem dX12_behindUnit_192 : decode cX12_behindUnit 192 = .ok (.ireturn, 1) := by decide +kernel
abbrev mi_X12_behindUnit : MI := (zTM, RX12, yX12_behindUnit, cX12_behindUnit, 2, (some .boolean), 5)
theorem cal_X12_behindUnit : zCalV mi_X12_behindUnit 0 := ⟨⟨zTB_i8 26 (by decide +kernel), zTB_i8 25 (by decide +kernel), zTB_i0 75 (by decide +kernel), zTB_i1 13 (by decide +kernel)⟩, ⟨by decide, by decide, by decide +kernel⟩, by decide⟩
noncomputable def X12_behindUnit_L1 (v1 : Int32) : Nat → Mem → Option (Mem)
  | 0, _ => none
  | n + 1, M =>
    gd_ (inb ((M.1 0 45) - 1) (90) = true) (
    if 6 < (M.1 30 (((M.1 0 45) - 1).toNatClampNeg)) then
      some M
    else
    if (M.1 30 (((M.1 0 45) - 1).toNatClampNeg)) < v1 then
      some M
    else
    lt_ (uI M 0 45 ((M.1 0 45) - 1)) fun M10 =>
    gd_ (inb (M10.1 0 45) (90) = true) (
    l1_ (α := Mem) (
      if (M10.1 30 ((M10.1 0 45).toNatClampNeg)) = 3 then
        lt_ (uI M10 0 44 ((M10.1 0 44) - 1)) fun M13 =>
        M13
      else
      M10) fun M14 =>
    gd_ (inb (M14.1 0 45) (90) = true) (
    bo_ (X12_emit (M14.1 31 ((M14.1 0 45).toNatClampNeg)) 0 M14) fun M16 =>
    X12_behindUnit_L1 v1 n M16)))
noncomputable def X12_behindUnit (M : Mem) : Option (Bool × Mem) :=
  bo_ (X12_rankHere M) fun v1 =>
  b1_ (α := Bool) (
    if v1 = 4 then
      bo_ (X12_isCompared M) fun b3 =>
      if b3 = true then
        some false
      else
      some true
    else
    some true) fun t5 =>
  if t5 = true then
    b1_ (α := Mem) (X12_behindUnit_L1 v1 zFU M) fun M17 =>
    if v1 ≤ 0 then
      lt_ (uI M17 0 45 ((M17.1 0 45) - 1)) fun M19 =>
      gd_ (inb (M19.1 0 45) (90) = true) (
      if (M19.1 30 ((M19.1 0 45).toNatClampNeg)) = 7 then
        lt_ (uI M19 0 44 ((M19.1 0 44) - 1)) fun M22 =>
        bo_ (X12_isSignHere 41 M22) fun b23 =>
        bo_ (X12_must (b2i (b23)) M22) fun M24 =>
        some (false, M24)
      else
      some (false, M19))
    else
    b1_ (α := Int32) (
      if v1 = 2 then
        some 38
      else
      if v1 = 1 then
        some 124
      else
      bo_ (X12_sign (M17.1 0 6) M17) fun v27 =>
      some v27) fun y28 =>
    bo_ (X12_pushE v1 y28 M17) fun M29 =>
    bo_ (X12_goOn M29) fun M30 =>
    some (true, M30)
  else
  lt_ (X12_misplaced M) fun M31 =>
  some (true, M31)
set_option maxRecDepth 100000 in
set_option maxHeartbeats 4000000 in
theorem X12_behindUnit_L1_ok (G : Gh) (v1 : Int32) {dn : Option (Mem) → Option (Option Value × Mem)} (hs : dn none = none) (hx : ∀ (M17 : Mem), Wr G mi_X12_behindUnit dn 104 [some (.ref (G.2.2.2 (0))), some (.int v1)] [] M17 (some M17)) : ∀ (n : Nat)  (M : Mem), Wr G mi_X12_behindUnit dn 23 [some (.ref (G.2.2.2 (0))), some (.int v1)] [] M (X12_behindUnit_L1 v1 n M) := by
  intro n
  induction n with
  | zero => intro M; exact r_none (by exact hs)
  | succ n ih =>
    intro M
    rw [X12_behindUnit_L1]
    refine r_aload_n dX12_behindUnit_23 rfl ?_
    refine r_getf (v := .ref (G.2.2.2 (30))) dX12_behindUnit_24 fM_0_38 kX12 (by decide) lkf_X12_104 rfl ?_
    refine r_aload_n dX12_behindUnit_27 rfl ?_
    refine r_getf (v := .int (M.1 0 45)) dX12_behindUnit_28 fM_0_45 kX12 (by decide) lkf_X12_358 rfl ?_
    refine r_iconst (x := 1) dX12_behindUnit_31 rfl ?_
    refine r_isub dX12_behindUnit_32 ?_
    refine r_gd (by exact hs) (fun g7 => ?_)
    refine r_iald dX12_behindUnit_33 aM_30 (inb_in g7) rfl ?_
    refine r_bipush (x := 6) dX12_behindUnit_34 rfl ?_
    refine r_icmp_gt (tgt := 104) dX12_behindUnit_36 rfl (fun h8 => ?_) (fun h8 => ?_)
    · exact r_lk (hx M) (And.intro rfl (And.intro rfl True.intro))
    refine r_aload_n dX12_behindUnit_39 rfl ?_
    refine r_getf (v := .ref (G.2.2.2 (30))) dX12_behindUnit_40 fM_0_38 kX12 (by decide) lkf_X12_104 rfl ?_
    refine r_aload_n dX12_behindUnit_43 rfl ?_
    refine r_getf (v := .int (M.1 0 45)) dX12_behindUnit_44 fM_0_45 kX12 (by decide) lkf_X12_358 rfl ?_
    refine r_iconst (x := 1) dX12_behindUnit_47 rfl ?_
    refine r_isub dX12_behindUnit_48 ?_
    refine r_iald dX12_behindUnit_49 aM_30 (inb_in g7) rfl ?_
    refine r_iload_n dX12_behindUnit_50 rfl ?_
    refine r_icmp_lt (tgt := 104) dX12_behindUnit_51 rfl (fun h9 => ?_) (fun h9 => ?_)
    · exact r_lk (hx M) (And.intro rfl (And.intro rfl True.intro))
    refine r_aload_n dX12_behindUnit_54 rfl ?_
    refine r_dup dX12_behindUnit_55 rfl ?_
    refine r_getf (v := .int (M.1 0 45)) dX12_behindUnit_56 fM_0_45 kX12 (by decide) lkf_X12_358 rfl ?_
    refine r_iconst (x := 1) dX12_behindUnit_59 rfl ?_
    refine r_isub dX12_behindUnit_60 ?_
    refine r_putI dX12_behindUnit_61 fM_0_45 kX12 (by decide) rfl rfl lkf_X12_358 (fun _ => rfl) rfl rfl (fun M10 => ?_)
    refine r_aload_n dX12_behindUnit_64 rfl ?_
    refine r_getf (v := .ref (G.2.2.2 (30))) dX12_behindUnit_65 fM_0_38 kX12 (by decide) lkf_X12_104 rfl ?_
    refine r_aload_n dX12_behindUnit_68 rfl ?_
    refine r_getf (v := .int (M10.1 0 45)) dX12_behindUnit_69 fM_0_45 kX12 (by decide) lkf_X12_358 rfl ?_
    refine r_gd (by exact hs) (fun g11 => ?_)
    refine r_iald dX12_behindUnit_72 aM_30 (inb_in g11) rfl ?_
    refine r_iconst (x := 3) dX12_behindUnit_73 rfl ?_
    refine r_jL1 (j := 87) (lvj := fun M14 => [some (.ref (G.2.2.2 (0))), some (.int v1)]) (stj := fun M14 => []) (Mj := fun M14 => M14) (fun M14 => ?_) (fun hj87 => ?_)
    · refine r_aload_n dX12_behindUnit_87 rfl ?_
      refine r_aload_n dX12_behindUnit_88 rfl ?_
      refine r_getf (v := .ref (G.2.2.2 (31))) dX12_behindUnit_89 fM_0_39 kX12 (by decide) lkf_X12_107 rfl ?_
      refine r_aload_n dX12_behindUnit_92 rfl ?_
      refine r_getf (v := .int (M14.1 0 45)) dX12_behindUnit_93 fM_0_45 kX12 (by decide) lkf_X12_358 rfl ?_
      refine r_gd (by exact hs) (fun g15 => ?_)
      refine r_iald dX12_behindUnit_96 aM_31 (inb_in g15) rfl ?_
      refine r_iconst (x := 0) dX12_behindUnit_97 rfl ?_
      refine c_OV (by exact hs) (inv_V (mi := mi_X12_behindUnit) (b := 0) (rest := []) (X12_emit_ok G (M14.1 31 ((M14.1 0 45).toNatClampNeg)) 0 M14) rfl (by decide) dX12_behindUnit_98 lkm_X12_376 cal_X12_emit cM_0 rfl rfl (Nat.le_of_ble_eq_true rfl) rfl) (fun M16 => ?_)
      refine r_goto (tgt := 23) dX12_behindUnit_101 rfl ?_
      exact r_lk (ih M16) (And.intro rfl (And.intro rfl True.intro))
    refine r_icmp_ne (tgt := 87) dX12_behindUnit_74 rfl (fun h12 => ?_) (fun h12 => ?_)
    · refine r_aload_n dX12_behindUnit_77 rfl ?_
      refine r_dup dX12_behindUnit_78 rfl ?_
      refine r_getf (v := .int (M10.1 0 44)) dX12_behindUnit_79 fM_0_44 kX12 (by decide) lkf_X12_361 rfl ?_
      refine r_iconst (x := 1) dX12_behindUnit_82 rfl ?_
      refine r_isub dX12_behindUnit_83 ?_
      refine r_putI dX12_behindUnit_84 fM_0_44 kX12 (by decide) rfl rfl lkf_X12_361 (fun _ => rfl) rfl rfl (fun M13 => ?_)
      exact r_lk (hj87 M13) (And.intro rfl (And.intro rfl True.intro))
    exact r_lk (hj87 M10) (And.intro rfl (And.intro rfl True.intro))
set_option maxRecDepth 100000 in
set_option maxHeartbeats 4000000 in
theorem X12_behindUnit_ok (G : Gh) (M : Mem) : Mt G mi_X12_behindUnit [.ref (G.2.2.2 (0))] M ((dO dZM) (X12_behindUnit M)) := by
  refine Mt_of (lv := [some (.ref (G.2.2.2 (0)))]) (by decide) rfl (Nat.le_of_ble_eq_true rfl) rfl ?_
  refine r_le (lv' := [some (.ref (G.2.2.2 (0))), none]) (And.intro rfl True.intro) ?_
  unfold X12_behindUnit
  refine r_aload_n dX12_behindUnit_0 rfl ?_
  refine c_OI rfl (inv_V (mi := mi_X12_behindUnit) (b := 0) (rest := []) (X12_rankHere_ok G M) rfl (by decide) dX12_behindUnit_1 lkm_X12_379 cal_X12_rankHere cM_0 rfl rfl (Nat.le_of_ble_eq_true rfl) rfl) (fun v1 => ?_)
  refine r_istore_n (lv' := [some (.ref (G.2.2.2 (0))), some (.int v1)]) dX12_behindUnit_4 (Nat.le_of_ble_eq_true rfl) rfl rfl ?_
  refine r_iload_n dX12_behindUnit_5 rfl ?_
  refine r_iconst (x := 4) dX12_behindUnit_6 rfl ?_
  refine r_cB (jX := 23) (jY := 17) (lvX := [some (.ref (G.2.2.2 (0))), some (.int v1)]) (lvY := [some (.ref (G.2.2.2 (0))), none]) (stX := []) (M1 := M) (fun h6 => ?_) (fun h6 => ?_) (fun hX23 hY17 => ?_)
  · refine r_eq (if_pos rfl) ?_
    refine r_jB1 (j := 104) (lvj := fun M17 => [some (.ref (G.2.2.2 (0))), some (.int v1)]) (stj := fun M17 => []) (Mj := fun M17 => M17) (fun M17 => ?_) (fun hj104 => ?_)
    · refine r_iload_n dX12_behindUnit_104 rfl ?_
      refine r_if_le (tgt := 147) dX12_behindUnit_105 rfl (fun h18 => ?_) (fun h18 => ?_)
      · refine r_aload_n dX12_behindUnit_147 rfl ?_
        refine r_dup dX12_behindUnit_148 rfl ?_
        refine r_getf (v := .int (M17.1 0 45)) dX12_behindUnit_149 fM_0_45 kX12 (by decide) lkf_X12_358 rfl ?_
        refine r_iconst (x := 1) dX12_behindUnit_152 rfl ?_
        refine r_isub dX12_behindUnit_153 ?_
        refine r_putI dX12_behindUnit_154 fM_0_45 kX12 (by decide) rfl rfl lkf_X12_358 (fun _ => rfl) rfl rfl (fun M19 => ?_)
        refine r_aload_n dX12_behindUnit_157 rfl ?_
        refine r_getf (v := .ref (G.2.2.2 (30))) dX12_behindUnit_158 fM_0_38 kX12 (by decide) lkf_X12_104 rfl ?_
        refine r_aload_n dX12_behindUnit_161 rfl ?_
        refine r_getf (v := .int (M19.1 0 45)) dX12_behindUnit_162 fM_0_45 kX12 (by decide) lkf_X12_358 rfl ?_
        refine r_gd rfl (fun g20 => ?_)
        refine r_iald dX12_behindUnit_165 aM_30 (inb_in g20) rfl ?_
        refine r_bipush (x := 7) dX12_behindUnit_166 rfl ?_
        refine r_icmp_ne (tgt := 191) dX12_behindUnit_168 rfl (fun h21 => ?_) (fun h21 => ?_)
        · refine r_aload_n dX12_behindUnit_171 rfl ?_
          refine r_dup dX12_behindUnit_172 rfl ?_
          refine r_getf (v := .int (M19.1 0 44)) dX12_behindUnit_173 fM_0_44 kX12 (by decide) lkf_X12_361 rfl ?_
          refine r_iconst (x := 1) dX12_behindUnit_176 rfl ?_
          refine r_isub dX12_behindUnit_177 ?_
          refine r_putI dX12_behindUnit_178 fM_0_44 kX12 (by decide) rfl rfl lkf_X12_361 (fun _ => rfl) rfl rfl (fun M22 => ?_)
          refine r_aload_n dX12_behindUnit_181 rfl ?_
          refine r_aload_n dX12_behindUnit_182 rfl ?_
          refine r_bipush (x := 41) dX12_behindUnit_183 rfl ?_
          refine c_OZ rfl (inv_V (mi := mi_X12_behindUnit) (b := 0) (rest := [.ref (G.2.2.2 (0))]) (X12_isSignHere_ok G 41 M22) rfl (by decide) dX12_behindUnit_185 lkm_X12_335 cal_X12_isSignHere cM_0 rfl rfl (Nat.le_of_ble_eq_true rfl) rfl) (fun b23 => ?_)
          refine c_OV rfl (inv_V (mi := mi_X12_behindUnit) (b := 0) (rest := []) (X12_must_ok G (b2i (b23)) M22) rfl (by decide) dX12_behindUnit_188 lkm_X12_284 cal_X12_must cM_0 rfl rfl (Nat.le_of_ble_eq_true rfl) rfl) (fun M24 => ?_)
          refine r_iconst (x := 0) dX12_behindUnit_191 rfl ?_
          exact r_iret (ty := .boolean) dX12_behindUnit_192 rfl rfl rfl
        refine r_iconst (x := 0) dX12_behindUnit_191 rfl ?_
        exact r_iret (ty := .boolean) dX12_behindUnit_192 rfl rfl rfl
      refine r_aload_n dX12_behindUnit_108 rfl ?_
      refine r_iload_n dX12_behindUnit_109 rfl ?_
      refine r_iload_n dX12_behindUnit_110 rfl ?_
      refine r_iconst (x := 2) dX12_behindUnit_111 rfl ?_
      refine r_jB1 (j := 138) (lvj := fun y28 => [some (.ref (G.2.2.2 (0))), none]) (stj := fun y28 => [.int y28, .int v1, .ref (G.2.2.2 (0))]) (Mj := fun y28 => M17) (fun y28 => ?_) (fun hj138 => ?_)
      · refine c_OV rfl (inv_V (mi := mi_X12_behindUnit) (b := 0) (rest := []) (X12_pushE_ok G v1 y28 M17) rfl (by decide) dX12_behindUnit_138 lkm_X12_364 cal_X12_pushE cM_0 rfl rfl (Nat.le_of_ble_eq_true rfl) rfl) (fun M29 => ?_)
        refine r_aload_n dX12_behindUnit_141 rfl ?_
        refine c_OV rfl (inv_V (mi := mi_X12_behindUnit) (b := 0) (rest := []) (X12_goOn_ok G M29) rfl (by decide) dX12_behindUnit_142 lkm_X12_275 cal_X12_goOn cM_0 rfl rfl (Nat.le_of_ble_eq_true rfl) rfl) (fun M30 => ?_)
        refine r_iconst (x := 1) dX12_behindUnit_145 rfl ?_
        exact r_iret (ty := .boolean) dX12_behindUnit_146 rfl rfl rfl
      refine r_icmp_ne (tgt := 120) dX12_behindUnit_112 rfl (fun h25 => ?_) (fun h25 => ?_)
      · refine r_bipush (x := 38) dX12_behindUnit_115 rfl ?_
        refine r_goto (tgt := 138) dX12_behindUnit_117 rfl ?_
        exact r_lk (hj138 38) (And.intro rfl True.intro)
      refine r_iload_n dX12_behindUnit_120 rfl ?_
      refine r_iconst (x := 1) dX12_behindUnit_121 rfl ?_
      refine r_icmp_ne (tgt := 130) dX12_behindUnit_122 rfl (fun h26 => ?_) (fun h26 => ?_)
      · refine r_bipush (x := 124) dX12_behindUnit_125 rfl ?_
        refine r_goto (tgt := 138) dX12_behindUnit_127 rfl ?_
        exact r_lk (hj138 124) (And.intro rfl True.intro)
      refine r_aload_n dX12_behindUnit_130 rfl ?_
      refine r_aload_n dX12_behindUnit_131 rfl ?_
      refine r_getf (v := .int (M17.1 0 6)) dX12_behindUnit_132 fM_0_6 kX12 (by decide) lkf_X12_236 rfl ?_
      refine c_OI rfl (inv_V (mi := mi_X12_behindUnit) (b := 0) (rest := [.int v1, .ref (G.2.2.2 (0))]) (X12_sign_ok G (M17.1 0 6) M17) rfl (by decide) dX12_behindUnit_135 lkm_X12_239 cal_X12_sign cM_0 rfl rfl (Nat.le_of_ble_eq_true rfl) rfl) (fun v27 => ?_)
      exact r_lk (hj138 v27) (And.intro rfl True.intro)
    exact r_lk (X12_behindUnit_L1_ok G v1 rfl hj104 zFU M) (And.intro rfl (And.intro rfl True.intro))
  · refine r_eq (if_neg (by decide)) ?_
    refine r_aload_n dX12_behindUnit_17 rfl ?_
    refine c_V (inv_V (mi := mi_X12_behindUnit) (b := 0) (rest := []) (X12_misplaced_ok G M) rfl (by decide) dX12_behindUnit_18 lkm_X12_278 cal_X12_misplaced cM_0 rfl rfl (Nat.le_of_ble_eq_true rfl) rfl) (fun M31 => ?_)
    refine r_iconst (x := 1) dX12_behindUnit_21 rfl ?_
    exact r_iret (ty := .boolean) dX12_behindUnit_22 rfl rfl rfl
  refine r_icmp_ne (tgt := 23) dX12_behindUnit_7 rfl (fun h2 => ?_) (fun h2 => ?_)
  · refine r_aload_n dX12_behindUnit_10 rfl ?_
    refine c_OZ rfl (inv_V (mi := mi_X12_behindUnit) (b := 0) (rest := []) (X12_isCompared_ok G M) rfl (by decide) dX12_behindUnit_11 lkm_X12_382 cal_X12_isCompared cM_0 rfl rfl (Nat.le_of_ble_eq_true rfl) rfl) (fun b3 => ?_)
    refine r_ifz_eq (tgt := 23) dX12_behindUnit_14 rfl (fun h4 => ?_) (fun h4 => ?_)
    · exact r_lk hY17 (And.intro rfl True.intro)
    exact r_lk hX23 (And.intro rfl (And.intro rfl True.intro))
  exact r_lk hX23 (And.intro rfl (And.intro rfl True.intro))

theorem dX12_e_0 : decode cX12_e 0 = .ok (.aload_n 0, 1) := by decide +kernel
theorem dX12_e_1 : decode cX12_e 1 = .ok (.iconst 0, 1) := by decide +kernel
theorem dX12_e_2 : decode cX12_e 2 = .ok (.putfield 358, 3) := by decide +kernel
theorem dX12_e_5 : decode cX12_e 5 = .ok (.aload_n 0, 1) := by decide +kernel
theorem dX12_e_6 : decode cX12_e 6 = .ok (.iconst 0, 1) := by decide +kernel
theorem dX12_e_7 : decode cX12_e 7 = .ok (.putfield 361, 3) := by decide +kernel
theorem dX12_e_10 : decode cX12_e 10 = .ok (.aload_n 0, 1) := by decide +kernel
theorem dX12_e_11 : decode cX12_e 11 = .ok (.bipush 8, 2) := by decide +kernel
theorem dX12_e_13 : decode cX12_e 13 = .ok (.iconst 0, 1) := by decide +kernel
theorem dX12_e_14 : decode cX12_e 14 = .ok (.invokevirtual 364, 3) := by decide +kernel
theorem dX12_e_17 : decode cX12_e 17 = .ok (.iconst 1, 1) := by decide +kernel
theorem dX12_e_18 : decode cX12_e 18 = .ok (.istore_n 1, 1) := by decide +kernel
theorem dX12_e_19 : decode cX12_e 19 = .ok (.aload_n 0, 1) := by decide +kernel
theorem dX12_e_20 : decode cX12_e 20 = .ok (.invokevirtual 271, 3) := by decide +kernel
theorem dX12_e_23 : decode cX12_e 23 = .ok (.ifCond .eq 29, 3) := by decide +kernel
theorem dX12_e_26 : decode cX12_e 26 = .ok (.aload_n 0, 1) := by decide +kernel
theorem dX12_e_27 : decode cX12_e 27 = .ok (.getfield 358, 3) := by decide +kernel
theorem dX12_e_30 : decode cX12_e 30 = .ok (.ifCond .le 22, 3) := by decide +kernel
theorem dX12_e_33 : decode cX12_e 33 = .ok (.iload_n 1, 1) := by decide +kernel
theorem dX12_e_34 : decode cX12_e 34 = .ok (.ifCond .eq 10, 3) := by decide +kernel
theorem dX12_e_37 : decode cX12_e 37 = .ok (.aload_n 0, 1) := by decide +kernel
theorem dX12_e_38 : decode cX12_e 38 = .ok (.invokevirtual 367, 3) := by decide +kernel
theorem dX12_e_41 : decode cX12_e 41 = .ok (.goto 7, 3) := by decide +kernel
theorem dX12_e_44 : decode cX12_e 44 = .ok (.aload_n 0, 1) := by decide +kernel
theorem dX12_e_45 : decode cX12_e 45 = .ok (.invokevirtual 370, 3) := by decide +kernel
theorem dX12_e_48 : decode cX12_e 48 = .ok (.istore_n 1, 1) := by decide +kernel
theorem dX12_e_49 : decode cX12_e 49 = .ok (.goto (-30), 3) := by decide +kernel
theorem dX12_e_52 : decode cX12_e 52 = .ok (.return_, 1) := by decide +kernel
abbrev mi_X12_e : MI := (zTM, RX12, yX12_e, cX12_e, 2, none, 6)
theorem cal_X12_e : zCalV mi_X12_e 0 := ⟨⟨zTB_i8 2 (by decide +kernel), zTB_i8 1 (by decide +kernel), zTB_i0 69 (by decide +kernel), zTB_i1 13 (by decide +kernel)⟩, ⟨by decide, by decide, by decide +kernel⟩, by decide⟩
noncomputable def X12_e_L1 : Nat → Int32 → Mem → Option (Mem)
  | 0, _, _ => none
  | n + 1, c1, M =>
    if (X12_isGood M) = true then
      if (M.1 0 45) ≤ 0 then
        some M
      else
      b2_ (α := Int32) (β := Mem) (
        if c1 = 0 then
          bp_ (X12_behindUnit M) fun b7 M8 =>
          some ((b2i (b7)), M8)
        else
        bp_ (X12_unit M) fun b9 M10 =>
        some ((b2i (b9)), M10)) fun y11 M12 =>
      X12_e_L1 n y11 M12
    else
    some M
noncomputable def X12_e (M : Mem) : Option (Mem) :=
  lt_ (uI M 0 45 0) fun M1 =>
  lt_ (uI M1 0 44 0) fun M2 =>
  bo_ (X12_pushE 8 0 M2) fun M3 =>
  b1_ (α := Mem) (X12_e_L1 zFU 1 M3) fun M13 =>
  some M13
set_option maxRecDepth 100000 in
set_option maxHeartbeats 4000000 in
theorem X12_e_L1_ok (G : Gh) {dn : Option (Mem) → Option (Option Value × Mem)} (hs : dn none = none) (hx : ∀ (M13 : Mem), Wr G mi_X12_e dn 52 [none, none] [] M13 (some M13)) : ∀ (n : Nat) (c1 : Int32) (M : Mem), Wr G mi_X12_e dn 19 [some (.ref (G.2.2.2 (0))), some (.int c1)] [] M (X12_e_L1 n c1 M) := by
  intro n
  induction n with
  | zero => intro c1 M; exact r_none (by exact hs)
  | succ n ih =>
    intro c1 M
    rw [X12_e_L1]
    refine r_aload_n dX12_e_19 rfl ?_
    refine c_Z (inv_V (mi := mi_X12_e) (b := 0) (rest := []) (X12_isGood_ok G M) rfl (by decide) dX12_e_20 lkm_X12_271 cal_X12_isGood cM_0 rfl rfl (Nat.le_of_ble_eq_true rfl) rfl) ?_
    refine r_ifz_eq (tgt := 52) dX12_e_23 rfl (fun h4 => ?_) (fun h4 => ?_)
    · refine r_aload_n dX12_e_26 rfl ?_
      refine r_getf (v := .int (M.1 0 45)) dX12_e_27 fM_0_45 kX12 (by decide) lkf_X12_358 rfl ?_
      refine r_if_le (tgt := 52) dX12_e_30 rfl (fun h5 => ?_) (fun h5 => ?_)
      · exact r_lk (hx M) True.intro
      refine r_iload_n dX12_e_33 rfl ?_
      refine r_jB2 (j := 48) (lvj := fun y11 M12 => [some (.ref (G.2.2.2 (0))), none]) (stj := fun y11 M12 => [.int y11]) (Mj := fun y11 M12 => M12) (fun y11 M12 => ?_) (fun hj48 => ?_)
      · refine r_istore_n (lv' := [some (.ref (G.2.2.2 (0))), some (.int y11)]) dX12_e_48 (Nat.le_of_ble_eq_true rfl) rfl rfl ?_
        refine r_goto (tgt := 19) dX12_e_49 rfl ?_
        exact r_lk (ih y11 M12) (And.intro rfl (And.intro rfl True.intro))
      refine r_if_eq (tgt := 44) dX12_e_34 rfl (fun h6 => ?_) (fun h6 => ?_)
      · refine r_aload_n dX12_e_44 rfl ?_
        refine c_OZM (by exact hs) (inv_V (mi := mi_X12_e) (b := 0) (rest := []) (X12_behindUnit_ok G M) rfl (by decide) dX12_e_45 lkm_X12_370 cal_X12_behindUnit cM_0 rfl rfl (Nat.le_of_ble_eq_true rfl) rfl) (fun b7 M8 => ?_)
        exact r_lk (hj48 (b2i (b7)) M8) (And.intro rfl True.intro)
      refine r_aload_n dX12_e_37 rfl ?_
      refine c_OZM (by exact hs) (inv_V (mi := mi_X12_e) (b := 0) (rest := []) (X12_unit_ok G M) rfl (by decide) dX12_e_38 lkm_X12_367 cal_X12_unit cM_0 rfl rfl (Nat.le_of_ble_eq_true rfl) rfl) (fun b9 M10 => ?_)
      refine r_goto (tgt := 48) dX12_e_41 rfl ?_
      exact r_lk (hj48 (b2i (b9)) M10) (And.intro rfl True.intro)
    exact r_lk (hx M) True.intro
set_option maxRecDepth 100000 in
set_option maxHeartbeats 4000000 in
theorem X12_e_ok (G : Gh) (M : Mem) : Mt G mi_X12_e [.ref (G.2.2.2 (0))] M ((dO dV) (X12_e M)) := by
  refine Mt_of (lv := [some (.ref (G.2.2.2 (0)))]) (by decide) rfl (Nat.le_of_ble_eq_true rfl) rfl ?_
  refine r_le (lv' := [some (.ref (G.2.2.2 (0))), none]) (And.intro rfl True.intro) ?_
  unfold X12_e
  refine r_aload_n dX12_e_0 rfl ?_
  refine r_iconst (x := 0) dX12_e_1 rfl ?_
  refine r_putI dX12_e_2 fM_0_45 kX12 (by decide) rfl rfl lkf_X12_358 (fun _ => rfl) rfl rfl (fun M1 => ?_)
  refine r_aload_n dX12_e_5 rfl ?_
  refine r_iconst (x := 0) dX12_e_6 rfl ?_
  refine r_putI dX12_e_7 fM_0_44 kX12 (by decide) rfl rfl lkf_X12_361 (fun _ => rfl) rfl rfl (fun M2 => ?_)
  refine r_aload_n dX12_e_10 rfl ?_
  refine r_bipush (x := 8) dX12_e_11 rfl ?_
  refine r_iconst (x := 0) dX12_e_13 rfl ?_
  refine c_OV rfl (inv_V (mi := mi_X12_e) (b := 0) (rest := []) (X12_pushE_ok G 8 0 M2) rfl (by decide) dX12_e_14 lkm_X12_364 cal_X12_pushE cM_0 rfl rfl (Nat.le_of_ble_eq_true rfl) rfl) (fun M3 => ?_)
  refine r_iconst (x := 1) dX12_e_17 rfl ?_
  refine r_istore_n (lv' := [some (.ref (G.2.2.2 (0))), some (.int 1)]) dX12_e_18 (Nat.le_of_ble_eq_true rfl) rfl rfl ?_
  refine r_jB1 (j := 52) (lvj := fun M13 => [none, none]) (stj := fun M13 => []) (Mj := fun M13 => M13) (fun M13 => ?_) (fun hj52 => ?_)
  · exact r_vret dX12_e_52 rfl rfl
  exact r_lk (X12_e_L1_ok G rfl hj52 zFU 1 M3) (And.intro rfl (And.intro rfl True.intro))

theorem dX12_readRule_0 : decode cX12_readRule 0 = .ok (.aload_n 0, 1) := by decide +kernel
theorem dX12_readRule_1 : decode cX12_readRule 1 = .ok (.iconst 0, 1) := by decide +kernel
theorem dX12_readRule_2 : decode cX12_readRule 2 = .ok (.putfield 352, 3) := by decide +kernel
theorem dX12_readRule_5 : decode cX12_readRule 5 = .ok (.aload_n 0, 1) := by decide +kernel
theorem dX12_readRule_6 : decode cX12_readRule 6 = .ok (.getfield 75, 3) := by decide +kernel
theorem dX12_readRule_9 : decode cX12_readRule 9 = .ok (.aload_n 0, 1) := by decide +kernel
theorem dX12_readRule_10 : decode cX12_readRule 10 = .ok (.getfield 292, 3) := by decide +kernel
theorem dX12_readRule_13 : decode cX12_readRule 13 = .ok (.iload_n 1, 1) := by decide +kernel
theorem dX12_readRule_14 : decode cX12_readRule 14 = .ok (.iadd, 1) := by decide +kernel
theorem dX12_readRule_15 : decode cX12_readRule 15 = .ok (.aload_n 0, 1) := by decide +kernel
theorem dX12_readRule_16 : decode cX12_readRule 16 = .ok (.getfield 295, 3) := by decide +kernel
theorem dX12_readRule_19 : decode cX12_readRule 19 = .ok (.iastore, 1) := by decide +kernel
theorem dX12_readRule_20 : decode cX12_readRule 20 = .ok (.aload_n 0, 1) := by decide +kernel
theorem dX12_readRule_21 : decode cX12_readRule 21 = .ok (.invokevirtual 355, 3) := by decide +kernel
theorem dX12_readRule_24 : decode cX12_readRule 24 = .ok (.aload_n 0, 1) := by decide +kernel
theorem dX12_readRule_25 : decode cX12_readRule 25 = .ok (.getfield 78, 3) := by decide +kernel
theorem dX12_readRule_28 : decode cX12_readRule 28 = .ok (.aload_n 0, 1) := by decide +kernel
theorem dX12_readRule_29 : decode cX12_readRule 29 = .ok (.getfield 292, 3) := by decide +kernel
theorem dX12_readRule_32 : decode cX12_readRule 32 = .ok (.iload_n 1, 1) := by decide +kernel
theorem dX12_readRule_33 : decode cX12_readRule 33 = .ok (.iadd, 1) := by decide +kernel
theorem dX12_readRule_34 : decode cX12_readRule 34 = .ok (.aload_n 0, 1) := by decide +kernel
theorem dX12_readRule_35 : decode cX12_readRule 35 = .ok (.getfield 295, 3) := by decide +kernel
theorem dX12_readRule_38 : decode cX12_readRule 38 = .ok (.iastore, 1) := by decide +kernel
theorem dX12_readRule_39 : decode cX12_readRule 39 = .ok (.return_, 1) := by decide +kernel
abbrev mi_X12_readRule : MI := (zTM, RX12, yX12_readRule, cX12_readRule, 2, none, 7)
theorem cal_X12_readRule : zCalV mi_X12_readRule 1 := ⟨⟨zTB_i7 238 (by decide +kernel), zTB_i7 237 (by decide +kernel), zTB_i0 68 (by decide +kernel), zTB_i1 13 (by decide +kernel)⟩, ⟨by decide, by decide, by decide +kernel⟩, by decide⟩
noncomputable def X12_readRule (x1 : Int32) (M : Mem) : Option (Mem) :=
  lt_ (uI M 0 46 0) fun M1 =>
  gd_ (inb ((M1.1 0 42) + x1) (2) = true) (
  lt_ (uI M1 21 (((M1.1 0 42) + x1).toNatClampNeg) (M1.1 0 43)) fun M3 =>
  bo_ (X12_e M3) fun M4 =>
  gd_ (inb ((M4.1 0 42) + x1) (2) = true) (
  lt_ (uI M4 22 (((M4.1 0 42) + x1).toNatClampNeg) (M4.1 0 43)) fun M6 =>
  some M6))
set_option maxRecDepth 100000 in
set_option maxHeartbeats 4000000 in
theorem X12_readRule_ok (G : Gh) (x1 : Int32) (M : Mem) : Mt G mi_X12_readRule [.ref (G.2.2.2 (0)), .int x1] M ((dO dV) (X12_readRule x1 M)) := by
  refine Mt_of (lv := [some (.ref (G.2.2.2 (0))), some (.int x1)]) (by decide) rfl (Nat.le_of_ble_eq_true rfl) rfl ?_
  unfold X12_readRule
  refine r_aload_n dX12_readRule_0 rfl ?_
  refine r_iconst (x := 0) dX12_readRule_1 rfl ?_
  refine r_putI dX12_readRule_2 fM_0_46 kX12 (by decide) rfl rfl lkf_X12_352 (fun _ => rfl) rfl rfl (fun M1 => ?_)
  refine r_aload_n dX12_readRule_5 rfl ?_
  refine r_getf (v := .ref (G.2.2.2 (21))) dX12_readRule_6 fM_0_29 kX12 (by decide) lkf_X12_75 rfl ?_
  refine r_aload_n dX12_readRule_9 rfl ?_
  refine r_getf (v := .int (M1.1 0 42)) dX12_readRule_10 fM_0_42 kX12 (by decide) lkf_X12_292 rfl ?_
  refine r_iload_n dX12_readRule_13 rfl ?_
  refine r_iadd dX12_readRule_14 ?_
  refine r_aload_n dX12_readRule_15 rfl ?_
  refine r_getf (v := .int (M1.1 0 43)) dX12_readRule_16 fM_0_43 kX12 (by decide) lkf_X12_295 rfl ?_
  refine r_gd rfl (fun g2 => ?_)
  refine r_iast dX12_readRule_19 aM_21 (inb_in g2) rfl (fun M3 => ?_)
  refine r_aload_n dX12_readRule_20 rfl ?_
  refine c_OV rfl (inv_V (mi := mi_X12_readRule) (b := 0) (rest := []) (X12_e_ok G M3) rfl (by decide) dX12_readRule_21 lkm_X12_355 cal_X12_e cM_0 rfl rfl (Nat.le_of_ble_eq_true rfl) rfl) (fun M4 => ?_)
  refine r_aload_n dX12_readRule_24 rfl ?_
  refine r_getf (v := .ref (G.2.2.2 (22))) dX12_readRule_25 fM_0_30 kX12 (by decide) lkf_X12_78 rfl ?_
  refine r_aload_n dX12_readRule_28 rfl ?_
  refine r_getf (v := .int (M4.1 0 42)) dX12_readRule_29 fM_0_42 kX12 (by decide) lkf_X12_292 rfl ?_
  refine r_iload_n dX12_readRule_32 rfl ?_
  refine r_iadd dX12_readRule_33 ?_
  refine r_aload_n dX12_readRule_34 rfl ?_
  refine r_getf (v := .int (M4.1 0 43)) dX12_readRule_35 fM_0_43 kX12 (by decide) lkf_X12_295 rfl ?_
  refine r_gd rfl (fun g5 => ?_)
  refine r_iast dX12_readRule_38 aM_22 (inb_in g5) rfl (fun M6 => ?_)
  exact r_vret dX12_readRule_39 rfl rfl

theorem dX12_readLine_0 : decode cX12_readLine 0 = .ok (.aload_n 0, 1) := by decide +kernel
theorem dX12_readLine_1 : decode cX12_readLine 1 = .ok (.getfield 250, 3) := by decide +kernel
theorem dX12_readLine_4 : decode cX12_readLine 4 = .ok (.lstore_n 1, 1) := by decide +kernel
theorem dX12_readLine_5 : decode cX12_readLine 5 = .ok (.aload_n 0, 1) := by decide +kernel
theorem dX12_readLine_6 : decode cX12_readLine 6 = .ok (.getfield 243, 3) := by decide +kernel
theorem dX12_readLine_9 : decode cX12_readLine 9 = .ok (.iconst 3, 1) := by decide +kernel
theorem dX12_readLine_10 : decode cX12_readLine 10 = .ok (.if_icmp .ne 10, 3) := by decide +kernel
theorem dX12_readLine_13 : decode cX12_readLine 13 = .ok (.aload_n 0, 1) := by decide +kernel
theorem dX12_readLine_14 : decode cX12_readLine 14 = .ok (.invokevirtual 307, 3) := by decide +kernel
theorem dX12_readLine_17 : decode cX12_readLine 17 = .ok (.ifCond .eq 7, 3) := by decide +kernel
theorem dX12_readLine_20 : decode cX12_readLine 20 = .ok (.aload_n 0, 1) := by decide +kernel
theorem dX12_readLine_21 : decode cX12_readLine 21 = .ok (.invokevirtual 278, 3) := by decide +kernel
theorem dX12_readLine_24 : decode cX12_readLine 24 = .ok (.aload_n 0, 1) := by decide +kernel
theorem dX12_readLine_25 : decode cX12_readLine 25 = .ok (.invokevirtual 271, 3) := by decide +kernel
theorem dX12_readLine_28 : decode cX12_readLine 28 = .ok (.ifCond .ne 4, 3) := by decide +kernel
theorem dX12_readLine_31 : decode cX12_readLine 31 = .ok (.return_, 1) := by decide +kernel
theorem dX12_readLine_32 : decode cX12_readLine 32 = .ok (.aload_n 0, 1) := by decide +kernel
theorem dX12_readLine_33 : decode cX12_readLine 33 = .ok (.invokevirtual 275, 3) := by decide +kernel
theorem dX12_readLine_36 : decode cX12_readLine 36 = .ok (.lload_n 1, 1) := by decide +kernel
theorem dX12_readLine_37 : decode cX12_readLine 37 = .ok (.ldc2_w 191, 3) := by decide +kernel
theorem dX12_readLine_40 : decode cX12_readLine 40 = .ok (.lcmp, 1) := by decide +kernel
theorem dX12_readLine_41 : decode cX12_readLine 41 = .ok (.ifCond .ne 45, 3) := by decide +kernel
theorem dX12_readLine_44 : decode cX12_readLine 44 = .ok (.aload_n 0, 1) := by decide +kernel
theorem dX12_readLine_45 : decode cX12_readLine 45 = .ok (.getfield 91, 3) := by decide +kernel
theorem dX12_readLine_48 : decode cX12_readLine 48 = .ok (.iconst 3, 1) := by decide +kernel
theorem dX12_readLine_49 : decode cX12_readLine 49 = .ok (.aload_n 0, 1) := by decide +kernel
theorem dX12_readLine_50 : decode cX12_readLine 50 = .ok (.getfield 292, 3) := by decide +kernel
theorem dX12_readLine_53 : decode cX12_readLine 53 = .ok (.imul, 1) := by decide +kernel
theorem dX12_readLine_54 : decode cX12_readLine 54 = .ok (.aload_n 0, 1) := by decide +kernel
theorem dX12_readLine_55 : decode cX12_readLine 55 = .ok (.getfield 20, 3) := by decide +kernel
theorem dX12_readLine_58 : decode cX12_readLine 58 = .ok (.aload_n 0, 1) := by decide +kernel
theorem dX12_readLine_59 : decode cX12_readLine 59 = .ok (.getfield 292, 3) := by decide +kernel
theorem dX12_readLine_62 : decode cX12_readLine 62 = .ok (.iaload, 1) := by decide +kernel
theorem dX12_readLine_63 : decode cX12_readLine 63 = .ok (.iadd, 1) := by decide +kernel
theorem dX12_readLine_64 : decode cX12_readLine 64 = .ok (.aload_n 0, 1) := by decide +kernel
theorem dX12_readLine_65 : decode cX12_readLine 65 = .ok (.aload_n 0, 1) := by decide +kernel
theorem dX12_readLine_66 : decode cX12_readLine 66 = .ok (.invokevirtual 310, 3) := by decide +kernel
theorem dX12_readLine_69 : decode cX12_readLine 69 = .ok (.invokevirtual 314, 3) := by decide +kernel
theorem dX12_readLine_72 : decode cX12_readLine 72 = .ok (.lastore, 1) := by decide +kernel
theorem dX12_readLine_73 : decode cX12_readLine 73 = .ok (.aload_n 0, 1) := by decide +kernel
theorem dX12_readLine_74 : decode cX12_readLine 74 = .ok (.getfield 20, 3) := by decide +kernel
theorem dX12_readLine_77 : decode cX12_readLine 77 = .ok (.aload_n 0, 1) := by decide +kernel
theorem dX12_readLine_78 : decode cX12_readLine 78 = .ok (.getfield 292, 3) := by decide +kernel
theorem dX12_readLine_81 : decode cX12_readLine 81 = .ok (.dup2, 1) := by decide +kernel
theorem dX12_readLine_82 : decode cX12_readLine 82 = .ok (.iaload, 1) := by decide +kernel
theorem dX12_readLine_83 : decode cX12_readLine 83 = .ok (.iconst 1, 1) := by decide +kernel
theorem dX12_readLine_84 : decode cX12_readLine 84 = .ok (.iadd, 1) := by decide +kernel
theorem dX12_readLine_85 : decode cX12_readLine 85 = .ok (.iastore, 1) := by decide +kernel
theorem dX12_readLine_86 : decode cX12_readLine 86 = .ok (.lload_n 1, 1) := by decide +kernel
theorem dX12_readLine_87 : decode cX12_readLine 87 = .ok (.ldc2_w 193, 3) := by decide +kernel
theorem dX12_readLine_90 : decode cX12_readLine 90 = .ok (.lcmp, 1) := by decide +kernel
theorem dX12_readLine_91 : decode cX12_readLine 91 = .ok (.ifCond .ne 7, 3) := by decide +kernel
theorem dX12_readLine_94 : decode cX12_readLine 94 = .ok (.aload_n 0, 1) := by decide +kernel
theorem dX12_readLine_95 : decode cX12_readLine 95 = .ok (.invokevirtual 318, 3) := by decide +kernel
theorem dX12_readLine_98 : decode cX12_readLine 98 = .ok (.lload_n 1, 1) := by decide +kernel
theorem dX12_readLine_99 : decode cX12_readLine 99 = .ok (.ldc2_w 199, 3) := by decide +kernel
theorem dX12_readLine_102 : decode cX12_readLine 102 = .ok (.lcmp, 1) := by decide +kernel
theorem dX12_readLine_103 : decode cX12_readLine 103 = .ok (.ifCond .ne 17, 3) := by decide +kernel
theorem dX12_readLine_106 : decode cX12_readLine 106 = .ok (.aload_n 0, 1) := by decide +kernel
theorem dX12_readLine_107 : decode cX12_readLine 107 = .ok (.aload_n 0, 1) := by decide +kernel
theorem dX12_readLine_108 : decode cX12_readLine 108 = .ok (.getfield 54, 3) := by decide +kernel
theorem dX12_readLine_111 : decode cX12_readLine 111 = .ok (.aload_n 0, 1) := by decide +kernel
theorem dX12_readLine_112 : decode cX12_readLine 112 = .ok (.getfield 60, 3) := by decide +kernel
theorem dX12_readLine_115 : decode cX12_readLine 115 = .ok (.bipush 60, 2) := by decide +kernel
theorem dX12_readLine_117 : decode cX12_readLine 117 = .ok (.invokevirtual 321, 3) := by decide +kernel
theorem dX12_readLine_120 : decode cX12_readLine 120 = .ok (.lload_n 1, 1) := by decide +kernel
theorem dX12_readLine_121 : decode cX12_readLine 121 = .ok (.ldc2_w 201, 3) := by decide +kernel
theorem dX12_readLine_124 : decode cX12_readLine 124 = .ok (.lcmp, 1) := by decide +kernel
theorem dX12_readLine_125 : decode cX12_readLine 125 = .ok (.ifCond .ne 17, 3) := by decide +kernel
theorem dX12_readLine_128 : decode cX12_readLine 128 = .ok (.aload_n 0, 1) := by decide +kernel
theorem dX12_readLine_129 : decode cX12_readLine 129 = .ok (.aload_n 0, 1) := by decide +kernel
theorem dX12_readLine_130 : decode cX12_readLine 130 = .ok (.getfield 57, 3) := by decide +kernel
theorem dX12_readLine_133 : decode cX12_readLine 133 = .ok (.aload_n 0, 1) := by decide +kernel
theorem dX12_readLine_134 : decode cX12_readLine 134 = .ok (.getfield 63, 3) := by decide +kernel
theorem dX12_readLine_137 : decode cX12_readLine 137 = .ok (.bipush 9, 2) := by decide +kernel
theorem dX12_readLine_139 : decode cX12_readLine 139 = .ok (.invokevirtual 321, 3) := by decide +kernel
theorem dX12_readLine_142 : decode cX12_readLine 142 = .ok (.lload_n 1, 1) := by decide +kernel
theorem dX12_readLine_143 : decode cX12_readLine 143 = .ok (.ldc2_w 203, 3) := by decide +kernel
theorem dX12_readLine_146 : decode cX12_readLine 146 = .ok (.lcmp, 1) := by decide +kernel
theorem dX12_readLine_147 : decode cX12_readLine 147 = .ok (.ifCond .ne 7, 3) := by decide +kernel
theorem dX12_readLine_150 : decode cX12_readLine 150 = .ok (.aload_n 0, 1) := by decide +kernel
theorem dX12_readLine_151 : decode cX12_readLine 151 = .ok (.invokevirtual 325, 3) := by decide +kernel
theorem dX12_readLine_154 : decode cX12_readLine 154 = .ok (.lload_n 1, 1) := by decide +kernel
theorem dX12_readLine_155 : decode cX12_readLine 155 = .ok (.ldc2_w 205, 3) := by decide +kernel
theorem dX12_readLine_158 : decode cX12_readLine 158 = .ok (.lcmp, 1) := by decide +kernel
theorem dX12_readLine_159 : decode cX12_readLine 159 = .ok (.ifCond .ne 7, 3) := by decide +kernel
theorem dX12_readLine_162 : decode cX12_readLine 162 = .ok (.aload_n 0, 1) := by decide +kernel
theorem dX12_readLine_163 : decode cX12_readLine 163 = .ok (.invokevirtual 328, 3) := by decide +kernel
theorem dX12_readLine_166 : decode cX12_readLine 166 = .ok (.lload_n 1, 1) := by decide +kernel
theorem dX12_readLine_167 : decode cX12_readLine 167 = .ok (.ldc2_w 209, 3) := by decide +kernel
theorem dX12_readLine_170 : decode cX12_readLine 170 = .ok (.lcmp, 1) := by decide +kernel
theorem dX12_readLine_171 : decode cX12_readLine 171 = .ok (.ifCond .ne 44, 3) := by decide +kernel
theorem dX12_readLine_174 : decode cX12_readLine 174 = .ok (.aload_n 0, 1) := by decide +kernel
theorem dX12_readLine_175 : decode cX12_readLine 175 = .ok (.getfield 72, 3) := by decide +kernel
theorem dX12_readLine_178 : decode cX12_readLine 178 = .ok (.iconst 5, 1) := by decide +kernel
theorem dX12_readLine_179 : decode cX12_readLine 179 = .ok (.aload_n 0, 1) := by decide +kernel
theorem dX12_readLine_180 : decode cX12_readLine 180 = .ok (.getfield 292, 3) := by decide +kernel
theorem dX12_readLine_183 : decode cX12_readLine 183 = .ok (.imul, 1) := by decide +kernel
theorem dX12_readLine_184 : decode cX12_readLine 184 = .ok (.aload_n 0, 1) := by decide +kernel
theorem dX12_readLine_185 : decode cX12_readLine 185 = .ok (.getfield 27, 3) := by decide +kernel
theorem dX12_readLine_188 : decode cX12_readLine 188 = .ok (.aload_n 0, 1) := by decide +kernel
theorem dX12_readLine_189 : decode cX12_readLine 189 = .ok (.getfield 292, 3) := by decide +kernel
theorem dX12_readLine_192 : decode cX12_readLine 192 = .ok (.iaload, 1) := by decide +kernel
theorem dX12_readLine_193 : decode cX12_readLine 193 = .ok (.iadd, 1) := by decide +kernel
theorem dX12_readLine_194 : decode cX12_readLine 194 = .ok (.aload_n 0, 1) := by decide +kernel
theorem dX12_readLine_195 : decode cX12_readLine 195 = .ok (.iconst 0, 1) := by decide +kernel
theorem dX12_readLine_196 : decode cX12_readLine 196 = .ok (.bipush 99, 2) := by decide +kernel
theorem dX12_readLine_198 : decode cX12_readLine 198 = .ok (.invokevirtual 288, 3) := by decide +kernel
theorem dX12_readLine_201 : decode cX12_readLine 201 = .ok (.iastore, 1) := by decide +kernel
theorem dX12_readLine_202 : decode cX12_readLine 202 = .ok (.aload_n 0, 1) := by decide +kernel
theorem dX12_readLine_203 : decode cX12_readLine 203 = .ok (.getfield 27, 3) := by decide +kernel
theorem dX12_readLine_206 : decode cX12_readLine 206 = .ok (.aload_n 0, 1) := by decide +kernel
theorem dX12_readLine_207 : decode cX12_readLine 207 = .ok (.getfield 292, 3) := by decide +kernel
theorem dX12_readLine_210 : decode cX12_readLine 210 = .ok (.dup2, 1) := by decide +kernel
theorem dX12_readLine_211 : decode cX12_readLine 211 = .ok (.iaload, 1) := by decide +kernel
theorem dX12_readLine_212 : decode cX12_readLine 212 = .ok (.iconst 1, 1) := by decide +kernel
theorem dX12_readLine_213 : decode cX12_readLine 213 = .ok (.iadd, 1) := by decide +kernel
theorem dX12_readLine_214 : decode cX12_readLine 214 = .ok (.iastore, 1) := by decide +kernel
theorem dX12_readLine_215 : decode cX12_readLine 215 = .ok (.lload_n 1, 1) := by decide +kernel
theorem dX12_readLine_216 : decode cX12_readLine 216 = .ok (.ldc2_w 211, 3) := by decide +kernel
theorem dX12_readLine_219 : decode cX12_readLine 219 = .ok (.lcmp, 1) := by decide +kernel
theorem dX12_readLine_220 : decode cX12_readLine 220 = .ok (.ifCond .ne 18, 3) := by decide +kernel
theorem dX12_readLine_223 : decode cX12_readLine 223 = .ok (.aload_n 0, 1) := by decide +kernel
theorem dX12_readLine_224 : decode cX12_readLine 224 = .ok (.getfield 81, 3) := by decide +kernel
theorem dX12_readLine_227 : decode cX12_readLine 227 = .ok (.aload_n 0, 1) := by decide +kernel
theorem dX12_readLine_228 : decode cX12_readLine 228 = .ok (.getfield 292, 3) := by decide +kernel
theorem dX12_readLine_231 : decode cX12_readLine 231 = .ok (.iconst 1, 1) := by decide +kernel
theorem dX12_readLine_232 : decode cX12_readLine 232 = .ok (.bastore, 1) := by decide +kernel
theorem dX12_readLine_233 : decode cX12_readLine 233 = .ok (.aload_n 0, 1) := by decide +kernel
theorem dX12_readLine_234 : decode cX12_readLine 234 = .ok (.iconst 0, 1) := by decide +kernel
theorem dX12_readLine_235 : decode cX12_readLine 235 = .ok (.invokevirtual 331, 3) := by decide +kernel
theorem dX12_readLine_238 : decode cX12_readLine 238 = .ok (.lload_n 1, 1) := by decide +kernel
theorem dX12_readLine_239 : decode cX12_readLine 239 = .ok (.ldc2_w 213, 3) := by decide +kernel
theorem dX12_readLine_242 : decode cX12_readLine 242 = .ok (.lcmp, 1) := by decide +kernel
theorem dX12_readLine_243 : decode cX12_readLine 243 = .ok (.ifCond .ne 29, 3) := by decide +kernel
theorem dX12_readLine_246 : decode cX12_readLine 246 = .ok (.aload_n 0, 1) := by decide +kernel
theorem dX12_readLine_247 : decode cX12_readLine 247 = .ok (.getfield 85, 3) := by decide +kernel
theorem dX12_readLine_250 : decode cX12_readLine 250 = .ok (.aload_n 0, 1) := by decide +kernel
theorem dX12_readLine_251 : decode cX12_readLine 251 = .ok (.getfield 292, 3) := by decide +kernel
theorem dX12_readLine_254 : decode cX12_readLine 254 = .ok (.iconst 1, 1) := by decide +kernel
theorem dX12_readLine_255 : decode cX12_readLine 255 = .ok (.bastore, 1) := by decide +kernel
theorem dX12_readLine_256 : decode cX12_readLine 256 = .ok (.aload_n 0, 1) := by decide +kernel
theorem dX12_readLine_257 : decode cX12_readLine 257 = .ok (.getfield 36, 3) := by decide +kernel
theorem dX12_readLine_260 : decode cX12_readLine 260 = .ok (.aload_n 0, 1) := by decide +kernel
theorem dX12_readLine_261 : decode cX12_readLine 261 = .ok (.getfield 292, 3) := by decide +kernel
theorem dX12_readLine_264 : decode cX12_readLine 264 = .ok (.aload_n 0, 1) := by decide +kernel
theorem dX12_readLine_265 : decode cX12_readLine 265 = .ok (.iconst 1, 1) := by decide +kernel
theorem dX12_readLine_266 : decode cX12_readLine 266 = .ok (.bipush 8, 2) := by decide +kernel
theorem dX12_readLine_268 : decode cX12_readLine 268 = .ok (.invokevirtual 288, 3) := by decide +kernel
theorem dX12_readLine_271 : decode cX12_readLine 271 = .ok (.iastore, 1) := by decide +kernel
theorem dX12_readLine_272 : decode cX12_readLine 272 = .ok (.lload_n 1, 1) := by decide +kernel
theorem dX12_readLine_273 : decode cX12_readLine 273 = .ok (.ldc2_w 215, 3) := by decide +kernel
theorem dX12_readLine_276 : decode cX12_readLine 276 = .ok (.lcmp, 1) := by decide +kernel
theorem dX12_readLine_277 : decode cX12_readLine 277 = .ok (.ifCond .ne 30, 3) := by decide +kernel
theorem dX12_readLine_280 : decode cX12_readLine 280 = .ok (.aload_n 0, 1) := by decide +kernel
theorem dX12_readLine_281 : decode cX12_readLine 281 = .ok (.getfield 88, 3) := by decide +kernel
theorem dX12_readLine_284 : decode cX12_readLine 284 = .ok (.aload_n 0, 1) := by decide +kernel
theorem dX12_readLine_285 : decode cX12_readLine 285 = .ok (.getfield 292, 3) := by decide +kernel
theorem dX12_readLine_288 : decode cX12_readLine 288 = .ok (.iconst 1, 1) := by decide +kernel
theorem dX12_readLine_289 : decode cX12_readLine 289 = .ok (.bastore, 1) := by decide +kernel
theorem dX12_readLine_290 : decode cX12_readLine 290 = .ok (.aload_n 0, 1) := by decide +kernel
theorem dX12_readLine_291 : decode cX12_readLine 291 = .ok (.getfield 39, 3) := by decide +kernel
theorem dX12_readLine_294 : decode cX12_readLine 294 = .ok (.aload_n 0, 1) := by decide +kernel
theorem dX12_readLine_295 : decode cX12_readLine 295 = .ok (.getfield 292, 3) := by decide +kernel
theorem dX12_readLine_298 : decode cX12_readLine 298 = .ok (.aload_n 0, 1) := by decide +kernel
theorem dX12_readLine_299 : decode cX12_readLine 299 = .ok (.iconst 0, 1) := by decide +kernel
theorem dX12_readLine_300 : decode cX12_readLine 300 = .ok (.sipush 999, 3) := by decide +kernel
theorem dX12_readLine_303 : decode cX12_readLine 303 = .ok (.invokevirtual 288, 3) := by decide +kernel
theorem dX12_readLine_306 : decode cX12_readLine 306 = .ok (.iastore, 1) := by decide +kernel
theorem dX12_readLine_307 : decode cX12_readLine 307 = .ok (.aload_n 0, 1) := by decide +kernel
theorem dX12_readLine_308 : decode cX12_readLine 308 = .ok (.aload_n 0, 1) := by decide +kernel
theorem dX12_readLine_309 : decode cX12_readLine 309 = .ok (.bipush 59, 2) := by decide +kernel
theorem dX12_readLine_311 : decode cX12_readLine 311 = .ok (.invokevirtual 335, 3) := by decide +kernel
theorem dX12_readLine_314 : decode cX12_readLine 314 = .ok (.invokevirtual 284, 3) := by decide +kernel
theorem dX12_readLine_317 : decode cX12_readLine 317 = .ok (.return_, 1) := by decide +kernel
abbrev mi_X12_readLine : MI := (zTM, RX12, yX12_readLine, cX12_readLine, 3, none, 8)
theorem cal_X12_readLine : zCalV mi_X12_readLine 0 := ⟨⟨zTB_i7 170 (by decide +kernel), zTB_i7 169 (by decide +kernel), zTB_i0 51 (by decide +kernel), zTB_i1 13 (by decide +kernel)⟩, ⟨by decide, by decide, by decide +kernel⟩, by decide⟩
noncomputable def X12_readLine (M : Mem) : Option (Mem) :=
  lt_ (α := Int64) (M.2 0 10) fun z1 =>
  b1_ (α := Mem) (
    b1_ (α := Bool) (
      if (M.1 0 8) = 3 then
        bo_ (X12_isFull M) fun b3 =>
        if b3 = true then
          some true
        else
        some false
      else
      some true) fun t5 =>
    if t5 = true then
      lt_ (X12_misplaced M) fun M7 =>
      some M7
    else
    some M) fun M8 =>
  if (X12_isGood M8) = true then
    bo_ (X12_goOn M8) fun M10 =>
    b1_ (α := Mem) (
      if (lg_cmp z1 1802071652) = 0 then
        gd_ (inb (M10.1 0 42) (2) = true) (
        bo_ (X12_kindHere M10) fun v13 =>
        bp_ (X12_fresh v13 M10) fun l14 M15 =>
        gd_ (inb ((3 * (M10.1 0 42)) + (M10.1 3 ((M10.1 0 42).toNatClampNeg))) (6) = true) (
        lt_ (uL M15 26 (((3 * (M10.1 0 42)) + (M10.1 3 ((M10.1 0 42).toNatClampNeg))).toNatClampNeg) l14) fun M17 =>
        gd_ (inb (M17.1 0 42) (2) = true) (
        lt_ (uI M17 3 ((M17.1 0 42).toNatClampNeg) ((M17.1 3 ((M17.1 0 42).toNatClampNeg)) + 1)) fun M19 =>
        some M19)))
      else
      some M10) fun M20 =>
    b1_ (α := Mem) (
      if (lg_cmp z1 7168366) = 0 then
        bo_ (X12_readMan M20) fun M22 =>
        some M22
      else
      some M20) fun M23 =>
    b1_ (α := Mem) (
      if (lg_cmp z1 483006772069) = 0 then
        bo_ (X12_readSum 14 16 60 M23) fun M25 =>
        some M25
      else
      some M23) fun M26 =>
    b1_ (α := Mem) (
      if (lg_cmp z1 7364985) = 0 then
        bo_ (X12_readSum 15 17 9 M26) fun M28 =>
        some M28
      else
      some M26) fun M29 =>
    b1_ (α := Mem) (
      if (lg_cmp z1 448377677669) = 0 then
        bo_ (X12_readHedge M29) fun M31 =>
        some M31
      else
      some M29) fun M32 =>
    b1_ (α := Mem) (
      if (lg_cmp z1 1918989413) = 0 then
        bo_ (X12_readRate M32) fun M34 =>
        some M34
      else
      some M32) fun M35 =>
    b1_ (α := Mem) (
      if (lg_cmp z1 1651470187) = 0 then
        gd_ (inb (M35.1 0 42) (2) = true) (
        bp_ (X12_numeral 0 99 M35) fun v38 M39 =>
        gd_ (inb ((5 * (M35.1 0 42)) + (M35.1 5 ((M35.1 0 42).toNatClampNeg))) (10) = true) (
        lt_ (uI M39 20 (((5 * (M35.1 0 42)) + (M35.1 5 ((M35.1 0 42).toNatClampNeg))).toNatClampNeg) v38) fun M41 =>
        gd_ (inb (M41.1 0 42) (2) = true) (
        lt_ (uI M41 5 ((M41.1 0 42).toNatClampNeg) ((M41.1 5 ((M41.1 0 42).toNatClampNeg)) + 1)) fun M43 =>
        some M43)))
      else
      some M35) fun M44 =>
    b1_ (α := Mem) (
      if (lg_cmp z1 1735552887) = 0 then
        gd_ (inb (M44.1 0 42) (2) = true) (
        lt_ (uI M44 23 ((M44.1 0 42).toNatClampNeg) 1) fun M47 =>
        bo_ (X12_readRule 0 M47) fun M48 =>
        some M48)
      else
      some M44) fun M49 =>
    b1_ (α := Mem) (
      if (lg_cmp z1 448546566771) = 0 then
        gd_ (inb (M49.1 0 42) (2) = true) (
        lt_ (uI M49 24 ((M49.1 0 42).toNatClampNeg) 1) fun M52 =>
        bp_ (X12_numeral 1 8 M52) fun v53 M54 =>
        gd_ (inb (M52.1 0 42) (2) = true) (
        lt_ (uI M54 8 ((M52.1 0 42).toNatClampNeg) v53) fun M56 =>
        some M56))
      else
      some M49) fun M57 =>
    b1_ (α := Mem) (
      if (lg_cmp z1 1685217655) = 0 then
        gd_ (inb (M57.1 0 42) (2) = true) (
        lt_ (uI M57 25 ((M57.1 0 42).toNatClampNeg) 1) fun M60 =>
        bp_ (X12_numeral 0 999 M60) fun v61 M62 =>
        gd_ (inb (M60.1 0 42) (2) = true) (
        lt_ (uI M62 9 ((M60.1 0 42).toNatClampNeg) v61) fun M64 =>
        some M64))
      else
      some M57) fun M65 =>
    bo_ (X12_isSignHere 59 M65) fun b66 =>
    bo_ (X12_must (b2i (b66)) M65) fun M67 =>
    some M67
  else
  some M8
set_option maxRecDepth 100000 in
set_option maxHeartbeats 4000000 in
theorem X12_readLine_ok (G : Gh) (M : Mem) : Mt G mi_X12_readLine [.ref (G.2.2.2 (0))] M ((dO dV) (X12_readLine M)) := by
  refine Mt_of (lv := [some (.ref (G.2.2.2 (0)))]) (by decide) rfl (Nat.le_of_ble_eq_true rfl) rfl ?_
  refine r_le (lv' := [some (.ref (G.2.2.2 (0))), none, none]) (And.intro rfl True.intro) ?_
  unfold X12_readLine
  refine r_aload_n dX12_readLine_0 rfl ?_
  refine r_getf (v := .long (M.2 0 10)) dX12_readLine_1 fM_0_10 kX12 (by decide) lkf_X12_250 rfl ?_
  refine r_letL (fun z1 => ?_)
  refine r_lstore_n (lv' := [some (.ref (G.2.2.2 (0))), some (.long (z1)), none]) dX12_readLine_4 (Nat.le_of_ble_eq_true rfl) rfl rfl ?_
  refine r_aload_n dX12_readLine_5 rfl ?_
  refine r_getf (v := .int (M.1 0 8)) dX12_readLine_6 fM_0_8 kX12 (by decide) lkf_X12_243 rfl ?_
  refine r_iconst (x := 3) dX12_readLine_9 rfl ?_
  refine r_jB1 (j := 24) (lvj := fun M8 => [some (.ref (G.2.2.2 (0))), some (.long (z1)), none]) (stj := fun M8 => []) (Mj := fun M8 => M8) (fun M8 => ?_) (fun hj24 => ?_)
  · refine r_aload_n dX12_readLine_24 rfl ?_
    refine c_Z (inv_V (mi := mi_X12_readLine) (b := 0) (rest := []) (X12_isGood_ok G M8) rfl (by decide) dX12_readLine_25 lkm_X12_271 cal_X12_isGood cM_0 rfl rfl (Nat.le_of_ble_eq_true rfl) rfl) ?_
    refine r_ifz_ne (tgt := 32) dX12_readLine_28 rfl (fun h9 => ?_) (fun h9 => ?_)
    · refine r_aload_n dX12_readLine_32 rfl ?_
      refine c_OV rfl (inv_V (mi := mi_X12_readLine) (b := 0) (rest := []) (X12_goOn_ok G M8) rfl (by decide) dX12_readLine_33 lkm_X12_275 cal_X12_goOn cM_0 rfl rfl (Nat.le_of_ble_eq_true rfl) rfl) (fun M10 => ?_)
      refine r_lload_n dX12_readLine_36 rfl ?_
      refine r_ldc2 (x := 1802071652) dX12_readLine_37 lkc_X12_191 ?_
      refine r_lcmp dX12_readLine_40 ?_
      refine r_jB1 (j := 86) (lvj := fun M20 => [some (.ref (G.2.2.2 (0))), some (.long (z1)), none]) (stj := fun M20 => []) (Mj := fun M20 => M20) (fun M20 => ?_) (fun hj86 => ?_)
      · refine r_lload_n dX12_readLine_86 rfl ?_
        refine r_ldc2 (x := 7168366) dX12_readLine_87 lkc_X12_193 ?_
        refine r_lcmp dX12_readLine_90 ?_
        refine r_jB1 (j := 98) (lvj := fun M23 => [some (.ref (G.2.2.2 (0))), some (.long (z1)), none]) (stj := fun M23 => []) (Mj := fun M23 => M23) (fun M23 => ?_) (fun hj98 => ?_)
        · refine r_lload_n dX12_readLine_98 rfl ?_
          refine r_ldc2 (x := 483006772069) dX12_readLine_99 lkc_X12_199 ?_
          refine r_lcmp dX12_readLine_102 ?_
          refine r_jB1 (j := 120) (lvj := fun M26 => [some (.ref (G.2.2.2 (0))), some (.long (z1)), none]) (stj := fun M26 => []) (Mj := fun M26 => M26) (fun M26 => ?_) (fun hj120 => ?_)
          · refine r_lload_n dX12_readLine_120 rfl ?_
            refine r_ldc2 (x := 7364985) dX12_readLine_121 lkc_X12_201 ?_
            refine r_lcmp dX12_readLine_124 ?_
            refine r_jB1 (j := 142) (lvj := fun M29 => [some (.ref (G.2.2.2 (0))), some (.long (z1)), none]) (stj := fun M29 => []) (Mj := fun M29 => M29) (fun M29 => ?_) (fun hj142 => ?_)
            · refine r_lload_n dX12_readLine_142 rfl ?_
              refine r_ldc2 (x := 448377677669) dX12_readLine_143 lkc_X12_203 ?_
              refine r_lcmp dX12_readLine_146 ?_
              refine r_jB1 (j := 154) (lvj := fun M32 => [some (.ref (G.2.2.2 (0))), some (.long (z1)), none]) (stj := fun M32 => []) (Mj := fun M32 => M32) (fun M32 => ?_) (fun hj154 => ?_)
              · refine r_lload_n dX12_readLine_154 rfl ?_
                refine r_ldc2 (x := 1918989413) dX12_readLine_155 lkc_X12_205 ?_
                refine r_lcmp dX12_readLine_158 ?_
                refine r_jB1 (j := 166) (lvj := fun M35 => [some (.ref (G.2.2.2 (0))), some (.long (z1)), none]) (stj := fun M35 => []) (Mj := fun M35 => M35) (fun M35 => ?_) (fun hj166 => ?_)
                · refine r_lload_n dX12_readLine_166 rfl ?_
                  refine r_ldc2 (x := 1651470187) dX12_readLine_167 lkc_X12_209 ?_
                  refine r_lcmp dX12_readLine_170 ?_
                  refine r_jB1 (j := 215) (lvj := fun M44 => [some (.ref (G.2.2.2 (0))), some (.long (z1)), none]) (stj := fun M44 => []) (Mj := fun M44 => M44) (fun M44 => ?_) (fun hj215 => ?_)
                  · refine r_lload_n dX12_readLine_215 rfl ?_
                    refine r_ldc2 (x := 1735552887) dX12_readLine_216 lkc_X12_211 ?_
                    refine r_lcmp dX12_readLine_219 ?_
                    refine r_jB1 (j := 238) (lvj := fun M49 => [some (.ref (G.2.2.2 (0))), some (.long (z1)), none]) (stj := fun M49 => []) (Mj := fun M49 => M49) (fun M49 => ?_) (fun hj238 => ?_)
                    · refine r_lload_n dX12_readLine_238 rfl ?_
                      refine r_ldc2 (x := 448546566771) dX12_readLine_239 lkc_X12_213 ?_
                      refine r_lcmp dX12_readLine_242 ?_
                      refine r_jB1 (j := 272) (lvj := fun M57 => [some (.ref (G.2.2.2 (0))), some (.long (z1)), none]) (stj := fun M57 => []) (Mj := fun M57 => M57) (fun M57 => ?_) (fun hj272 => ?_)
                      · refine r_lload_n dX12_readLine_272 rfl ?_
                        refine r_ldc2 (x := 1685217655) dX12_readLine_273 lkc_X12_215 ?_
                        refine r_lcmp dX12_readLine_276 ?_
                        refine r_jB1 (j := 307) (lvj := fun M65 => [some (.ref (G.2.2.2 (0))), none, none]) (stj := fun M65 => []) (Mj := fun M65 => M65) (fun M65 => ?_) (fun hj307 => ?_)
                        · refine r_aload_n dX12_readLine_307 rfl ?_
                          refine r_aload_n dX12_readLine_308 rfl ?_
                          refine r_bipush (x := 59) dX12_readLine_309 rfl ?_
                          refine c_OZ rfl (inv_V (mi := mi_X12_readLine) (b := 0) (rest := [.ref (G.2.2.2 (0))]) (X12_isSignHere_ok G 59 M65) rfl (by decide) dX12_readLine_311 lkm_X12_335 cal_X12_isSignHere cM_0 rfl rfl (Nat.le_of_ble_eq_true rfl) rfl) (fun b66 => ?_)
                          refine c_OV rfl (inv_V (mi := mi_X12_readLine) (b := 0) (rest := []) (X12_must_ok G (b2i (b66)) M65) rfl (by decide) dX12_readLine_314 lkm_X12_284 cal_X12_must cM_0 rfl rfl (Nat.le_of_ble_eq_true rfl) rfl) (fun M67 => ?_)
                          exact r_vret dX12_readLine_317 rfl rfl
                        refine r_if_ne (tgt := 307) dX12_readLine_277 rfl (fun h58 => ?_) (fun h58 => ?_)
                        · refine r_aload_n dX12_readLine_280 rfl ?_
                          refine r_getf (v := .ref (G.2.2.2 (25))) dX12_readLine_281 fM_0_33 kX12 (by decide) lkf_X12_88 rfl ?_
                          refine r_aload_n dX12_readLine_284 rfl ?_
                          refine r_getf (v := .int (M57.1 0 42)) dX12_readLine_285 fM_0_42 kX12 (by decide) lkf_X12_292 rfl ?_
                          refine r_iconst (x := 1) dX12_readLine_288 rfl ?_
                          refine r_gd rfl (fun g59 => ?_)
                          refine r_zast dX12_readLine_289 aM_25 (inb_in g59) rfl (y := 1) rfl (fun M60 => ?_)
                          refine r_aload_n dX12_readLine_290 rfl ?_
                          refine r_getf (v := .ref (G.2.2.2 (9))) dX12_readLine_291 fM_0_17 kX12 (by decide) lkf_X12_39 rfl ?_
                          refine r_aload_n dX12_readLine_294 rfl ?_
                          refine r_getf (v := .int (M60.1 0 42)) dX12_readLine_295 fM_0_42 kX12 (by decide) lkf_X12_292 rfl ?_
                          refine r_aload_n dX12_readLine_298 rfl ?_
                          refine r_iconst (x := 0) dX12_readLine_299 rfl ?_
                          refine r_sipush (x := 999) dX12_readLine_300 rfl ?_
                          refine c_OIM rfl (inv_V (mi := mi_X12_readLine) (b := 0) (rest := [.int (M60.1 0 42), .ref (G.2.2.2 (9))]) (X12_numeral_ok G 0 999 M60) rfl (by decide) dX12_readLine_303 lkm_X12_288 cal_X12_numeral cM_0 rfl rfl (Nat.le_of_ble_eq_true rfl) rfl) (fun v61 M62 => ?_)
                          refine r_gd rfl (fun g63 => ?_)
                          refine r_iast dX12_readLine_306 aM_9 (inb_in g63) rfl (fun M64 => ?_)
                          exact r_lk (hj307 M64) (And.intro rfl True.intro)
                        exact r_lk (hj307 M57) (And.intro rfl True.intro)
                      refine r_if_ne (tgt := 272) dX12_readLine_243 rfl (fun h50 => ?_) (fun h50 => ?_)
                      · refine r_aload_n dX12_readLine_246 rfl ?_
                        refine r_getf (v := .ref (G.2.2.2 (24))) dX12_readLine_247 fM_0_32 kX12 (by decide) lkf_X12_85 rfl ?_
                        refine r_aload_n dX12_readLine_250 rfl ?_
                        refine r_getf (v := .int (M49.1 0 42)) dX12_readLine_251 fM_0_42 kX12 (by decide) lkf_X12_292 rfl ?_
                        refine r_iconst (x := 1) dX12_readLine_254 rfl ?_
                        refine r_gd rfl (fun g51 => ?_)
                        refine r_zast dX12_readLine_255 aM_24 (inb_in g51) rfl (y := 1) rfl (fun M52 => ?_)
                        refine r_aload_n dX12_readLine_256 rfl ?_
                        refine r_getf (v := .ref (G.2.2.2 (8))) dX12_readLine_257 fM_0_16 kX12 (by decide) lkf_X12_36 rfl ?_
                        refine r_aload_n dX12_readLine_260 rfl ?_
                        refine r_getf (v := .int (M52.1 0 42)) dX12_readLine_261 fM_0_42 kX12 (by decide) lkf_X12_292 rfl ?_
                        refine r_aload_n dX12_readLine_264 rfl ?_
                        refine r_iconst (x := 1) dX12_readLine_265 rfl ?_
                        refine r_bipush (x := 8) dX12_readLine_266 rfl ?_
                        refine c_OIM rfl (inv_V (mi := mi_X12_readLine) (b := 0) (rest := [.int (M52.1 0 42), .ref (G.2.2.2 (8))]) (X12_numeral_ok G 1 8 M52) rfl (by decide) dX12_readLine_268 lkm_X12_288 cal_X12_numeral cM_0 rfl rfl (Nat.le_of_ble_eq_true rfl) rfl) (fun v53 M54 => ?_)
                        refine r_gd rfl (fun g55 => ?_)
                        refine r_iast dX12_readLine_271 aM_8 (inb_in g55) rfl (fun M56 => ?_)
                        exact r_lk (hj272 M56) (And.intro rfl (And.intro rfl True.intro))
                      exact r_lk (hj272 M49) (And.intro rfl (And.intro rfl True.intro))
                    refine r_if_ne (tgt := 238) dX12_readLine_220 rfl (fun h45 => ?_) (fun h45 => ?_)
                    · refine r_aload_n dX12_readLine_223 rfl ?_
                      refine r_getf (v := .ref (G.2.2.2 (23))) dX12_readLine_224 fM_0_31 kX12 (by decide) lkf_X12_81 rfl ?_
                      refine r_aload_n dX12_readLine_227 rfl ?_
                      refine r_getf (v := .int (M44.1 0 42)) dX12_readLine_228 fM_0_42 kX12 (by decide) lkf_X12_292 rfl ?_
                      refine r_iconst (x := 1) dX12_readLine_231 rfl ?_
                      refine r_gd rfl (fun g46 => ?_)
                      refine r_zast dX12_readLine_232 aM_23 (inb_in g46) rfl (y := 1) rfl (fun M47 => ?_)
                      refine r_aload_n dX12_readLine_233 rfl ?_
                      refine r_iconst (x := 0) dX12_readLine_234 rfl ?_
                      refine c_OV rfl (inv_V (mi := mi_X12_readLine) (b := 0) (rest := []) (X12_readRule_ok G 0 M47) rfl (by decide) dX12_readLine_235 lkm_X12_331 cal_X12_readRule cM_0 rfl rfl (Nat.le_of_ble_eq_true rfl) rfl) (fun M48 => ?_)
                      exact r_lk (hj238 M48) (And.intro rfl (And.intro rfl True.intro))
                    exact r_lk (hj238 M44) (And.intro rfl (And.intro rfl True.intro))
                  refine r_if_ne (tgt := 215) dX12_readLine_171 rfl (fun h36 => ?_) (fun h36 => ?_)
                  · refine r_aload_n dX12_readLine_174 rfl ?_
                    refine r_getf (v := .ref (G.2.2.2 (20))) dX12_readLine_175 fM_0_28 kX12 (by decide) lkf_X12_72 rfl ?_
                    refine r_iconst (x := 5) dX12_readLine_178 rfl ?_
                    refine r_aload_n dX12_readLine_179 rfl ?_
                    refine r_getf (v := .int (M35.1 0 42)) dX12_readLine_180 fM_0_42 kX12 (by decide) lkf_X12_292 rfl ?_
                    refine r_imul dX12_readLine_183 ?_
                    refine r_aload_n dX12_readLine_184 rfl ?_
                    refine r_getf (v := .ref (G.2.2.2 (5))) dX12_readLine_185 fM_0_13 kX12 (by decide) lkf_X12_27 rfl ?_
                    refine r_aload_n dX12_readLine_188 rfl ?_
                    refine r_getf (v := .int (M35.1 0 42)) dX12_readLine_189 fM_0_42 kX12 (by decide) lkf_X12_292 rfl ?_
                    refine r_gd rfl (fun g37 => ?_)
                    refine r_iald dX12_readLine_192 aM_5 (inb_in g37) rfl ?_
                    refine r_iadd dX12_readLine_193 ?_
                    refine r_aload_n dX12_readLine_194 rfl ?_
                    refine r_iconst (x := 0) dX12_readLine_195 rfl ?_
                    refine r_bipush (x := 99) dX12_readLine_196 rfl ?_
                    refine c_OIM rfl (inv_V (mi := mi_X12_readLine) (b := 0) (rest := [.int ((5 * (M35.1 0 42)) + (M35.1 5 ((M35.1 0 42).toNatClampNeg))), .ref (G.2.2.2 (20))]) (X12_numeral_ok G 0 99 M35) rfl (by decide) dX12_readLine_198 lkm_X12_288 cal_X12_numeral cM_0 rfl rfl (Nat.le_of_ble_eq_true rfl) rfl) (fun v38 M39 => ?_)
                    refine r_gd rfl (fun g40 => ?_)
                    refine r_iast dX12_readLine_201 aM_20 (inb_in g40) rfl (fun M41 => ?_)
                    refine r_aload_n dX12_readLine_202 rfl ?_
                    refine r_getf (v := .ref (G.2.2.2 (5))) dX12_readLine_203 fM_0_13 kX12 (by decide) lkf_X12_27 rfl ?_
                    refine r_aload_n dX12_readLine_206 rfl ?_
                    refine r_getf (v := .int (M41.1 0 42)) dX12_readLine_207 fM_0_42 kX12 (by decide) lkf_X12_292 rfl ?_
                    refine r_dup2 dX12_readLine_210 rfl rfl ?_
                    refine r_gd rfl (fun g42 => ?_)
                    refine r_iald dX12_readLine_211 aM_5 (inb_in g42) rfl ?_
                    refine r_iconst (x := 1) dX12_readLine_212 rfl ?_
                    refine r_iadd dX12_readLine_213 ?_
                    refine r_iast dX12_readLine_214 aM_5 (inb_in g42) rfl (fun M43 => ?_)
                    exact r_lk (hj215 M43) (And.intro rfl (And.intro rfl True.intro))
                  exact r_lk (hj215 M35) (And.intro rfl (And.intro rfl True.intro))
                refine r_if_ne (tgt := 166) dX12_readLine_159 rfl (fun h33 => ?_) (fun h33 => ?_)
                · refine r_aload_n dX12_readLine_162 rfl ?_
                  refine c_OV rfl (inv_V (mi := mi_X12_readLine) (b := 0) (rest := []) (X12_readRate_ok G M32) rfl (by decide) dX12_readLine_163 lkm_X12_328 cal_X12_readRate cM_0 rfl rfl (Nat.le_of_ble_eq_true rfl) rfl) (fun M34 => ?_)
                  exact r_lk (hj166 M34) (And.intro rfl (And.intro rfl True.intro))
                exact r_lk (hj166 M32) (And.intro rfl (And.intro rfl True.intro))
              refine r_if_ne (tgt := 154) dX12_readLine_147 rfl (fun h30 => ?_) (fun h30 => ?_)
              · refine r_aload_n dX12_readLine_150 rfl ?_
                refine c_OV rfl (inv_V (mi := mi_X12_readLine) (b := 0) (rest := []) (X12_readHedge_ok G M29) rfl (by decide) dX12_readLine_151 lkm_X12_325 cal_X12_readHedge cM_0 rfl rfl (Nat.le_of_ble_eq_true rfl) rfl) (fun M31 => ?_)
                exact r_lk (hj154 M31) (And.intro rfl (And.intro rfl True.intro))
              exact r_lk (hj154 M29) (And.intro rfl (And.intro rfl True.intro))
            refine r_if_ne (tgt := 142) dX12_readLine_125 rfl (fun h27 => ?_) (fun h27 => ?_)
            · refine r_aload_n dX12_readLine_128 rfl ?_
              refine r_aload_n dX12_readLine_129 rfl ?_
              refine r_getf (v := .ref (G.2.2.2 (15))) dX12_readLine_130 fM_0_23 kX12 (by decide) lkf_X12_57 rfl ?_
              refine r_aload_n dX12_readLine_133 rfl ?_
              refine r_getf (v := .ref (G.2.2.2 (17))) dX12_readLine_134 fM_0_25 kX12 (by decide) lkf_X12_63 rfl ?_
              refine r_bipush (x := 9) dX12_readLine_137 rfl ?_
              refine c_OV rfl (inv_V (mi := mi_X12_readLine) (b := 0) (rest := []) (X12_readSum_ok G aM_15p aM_17p 9 M26) rfl (by decide) dX12_readLine_139 lkm_X12_321 cal_X12_readSum cM_0 rfl rfl (Nat.le_of_ble_eq_true rfl) rfl) (fun M28 => ?_)
              exact r_lk (hj142 M28) (And.intro rfl (And.intro rfl True.intro))
            exact r_lk (hj142 M26) (And.intro rfl (And.intro rfl True.intro))
          refine r_if_ne (tgt := 120) dX12_readLine_103 rfl (fun h24 => ?_) (fun h24 => ?_)
          · refine r_aload_n dX12_readLine_106 rfl ?_
            refine r_aload_n dX12_readLine_107 rfl ?_
            refine r_getf (v := .ref (G.2.2.2 (14))) dX12_readLine_108 fM_0_22 kX12 (by decide) lkf_X12_54 rfl ?_
            refine r_aload_n dX12_readLine_111 rfl ?_
            refine r_getf (v := .ref (G.2.2.2 (16))) dX12_readLine_112 fM_0_24 kX12 (by decide) lkf_X12_60 rfl ?_
            refine r_bipush (x := 60) dX12_readLine_115 rfl ?_
            refine c_OV rfl (inv_V (mi := mi_X12_readLine) (b := 0) (rest := []) (X12_readSum_ok G aM_14p aM_16p 60 M23) rfl (by decide) dX12_readLine_117 lkm_X12_321 cal_X12_readSum cM_0 rfl rfl (Nat.le_of_ble_eq_true rfl) rfl) (fun M25 => ?_)
            exact r_lk (hj120 M25) (And.intro rfl (And.intro rfl True.intro))
          exact r_lk (hj120 M23) (And.intro rfl (And.intro rfl True.intro))
        refine r_if_ne (tgt := 98) dX12_readLine_91 rfl (fun h21 => ?_) (fun h21 => ?_)
        · refine r_aload_n dX12_readLine_94 rfl ?_
          refine c_OV rfl (inv_V (mi := mi_X12_readLine) (b := 0) (rest := []) (X12_readMan_ok G M20) rfl (by decide) dX12_readLine_95 lkm_X12_318 cal_X12_readMan cM_0 rfl rfl (Nat.le_of_ble_eq_true rfl) rfl) (fun M22 => ?_)
          exact r_lk (hj98 M22) (And.intro rfl (And.intro rfl True.intro))
        exact r_lk (hj98 M20) (And.intro rfl (And.intro rfl True.intro))
      refine r_if_ne (tgt := 86) dX12_readLine_41 rfl (fun h11 => ?_) (fun h11 => ?_)
      · refine r_aload_n dX12_readLine_44 rfl ?_
        refine r_getf (v := .ref (G.2.2.2 (26))) dX12_readLine_45 fM_0_34 kX12 (by decide) lkf_X12_91 rfl ?_
        refine r_iconst (x := 3) dX12_readLine_48 rfl ?_
        refine r_aload_n dX12_readLine_49 rfl ?_
        refine r_getf (v := .int (M10.1 0 42)) dX12_readLine_50 fM_0_42 kX12 (by decide) lkf_X12_292 rfl ?_
        refine r_imul dX12_readLine_53 ?_
        refine r_aload_n dX12_readLine_54 rfl ?_
        refine r_getf (v := .ref (G.2.2.2 (3))) dX12_readLine_55 fM_0_11 kX12 (by decide) lkf_X12_20 rfl ?_
        refine r_aload_n dX12_readLine_58 rfl ?_
        refine r_getf (v := .int (M10.1 0 42)) dX12_readLine_59 fM_0_42 kX12 (by decide) lkf_X12_292 rfl ?_
        refine r_gd rfl (fun g12 => ?_)
        refine r_iald dX12_readLine_62 aM_3 (inb_in g12) rfl ?_
        refine r_iadd dX12_readLine_63 ?_
        refine r_aload_n dX12_readLine_64 rfl ?_
        refine r_aload_n dX12_readLine_65 rfl ?_
        refine c_OI rfl (inv_V (mi := mi_X12_readLine) (b := 0) (rest := [.ref (G.2.2.2 (0)), .int ((3 * (M10.1 0 42)) + (M10.1 3 ((M10.1 0 42).toNatClampNeg))), .ref (G.2.2.2 (26))]) (X12_kindHere_ok G M10) rfl (by decide) dX12_readLine_66 lkm_X12_310 cal_X12_kindHere cM_0 rfl rfl (Nat.le_of_ble_eq_true rfl) rfl) (fun v13 => ?_)
        refine c_OLM rfl (inv_V (mi := mi_X12_readLine) (b := 0) (rest := [.int ((3 * (M10.1 0 42)) + (M10.1 3 ((M10.1 0 42).toNatClampNeg))), .ref (G.2.2.2 (26))]) (X12_fresh_ok G v13 M10) rfl (by decide) dX12_readLine_69 lkm_X12_314 cal_X12_fresh cM_0 rfl rfl (Nat.le_of_ble_eq_true rfl) rfl) (fun l14 M15 => ?_)
        refine r_gd rfl (fun g16 => ?_)
        refine r_last dX12_readLine_72 aM_26 (inb_in g16) rfl (fun M17 => ?_)
        refine r_aload_n dX12_readLine_73 rfl ?_
        refine r_getf (v := .ref (G.2.2.2 (3))) dX12_readLine_74 fM_0_11 kX12 (by decide) lkf_X12_20 rfl ?_
        refine r_aload_n dX12_readLine_77 rfl ?_
        refine r_getf (v := .int (M17.1 0 42)) dX12_readLine_78 fM_0_42 kX12 (by decide) lkf_X12_292 rfl ?_
        refine r_dup2 dX12_readLine_81 rfl rfl ?_
        refine r_gd rfl (fun g18 => ?_)
        refine r_iald dX12_readLine_82 aM_3 (inb_in g18) rfl ?_
        refine r_iconst (x := 1) dX12_readLine_83 rfl ?_
        refine r_iadd dX12_readLine_84 ?_
        refine r_iast dX12_readLine_85 aM_3 (inb_in g18) rfl (fun M19 => ?_)
        exact r_lk (hj86 M19) (And.intro rfl (And.intro rfl True.intro))
      exact r_lk (hj86 M10) (And.intro rfl (And.intro rfl True.intro))
    exact r_vret dX12_readLine_31 rfl rfl
  refine r_cB (jX := 20) (jY := 24) (lvX := [some (.ref (G.2.2.2 (0))), some (.long (z1)), none]) (lvY := [some (.ref (G.2.2.2 (0))), some (.long (z1)), none]) (stX := []) (M1 := M) (fun h6 => ?_) (fun h6 => ?_) (fun hX20 hY24 => ?_)
  · refine r_eq (if_pos rfl) ?_
    refine r_aload_n dX12_readLine_20 rfl ?_
    refine c_V (inv_V (mi := mi_X12_readLine) (b := 0) (rest := []) (X12_misplaced_ok G M) rfl (by decide) dX12_readLine_21 lkm_X12_278 cal_X12_misplaced cM_0 rfl rfl (Nat.le_of_ble_eq_true rfl) rfl) (fun M7 => ?_)
    exact r_lk (hj24 M7) (And.intro rfl (And.intro rfl True.intro))
  · refine r_eq (if_neg (by decide)) ?_
    exact r_lk (hj24 M) (And.intro rfl (And.intro rfl True.intro))
  refine r_icmp_ne (tgt := 20) dX12_readLine_10 rfl (fun h2 => ?_) (fun h2 => ?_)
  · refine r_aload_n dX12_readLine_13 rfl ?_
    refine c_OZ rfl (inv_V (mi := mi_X12_readLine) (b := 0) (rest := []) (X12_isFull_ok G M) rfl (by decide) dX12_readLine_14 lkm_X12_307 cal_X12_isFull cM_0 rfl rfl (Nat.le_of_ble_eq_true rfl) rfl) (fun b3 => ?_)
    refine r_ifz_eq (tgt := 24) dX12_readLine_17 rfl (fun h4 => ?_) (fun h4 => ?_)
    · exact r_lk hX20 (And.intro rfl (And.intro rfl True.intro))
    exact r_lk hY24 (And.intro rfl (And.intro rfl True.intro))
  exact r_lk hX20 (And.intro rfl (And.intro rfl True.intro))

theorem dX12_many_0 : decode cX12_many 0 = .ok (.aload_n 0, 1) := by decide +kernel
theorem dX12_many_1 : decode cX12_many 1 = .ok (.getfield 24, 3) := by decide +kernel
theorem dX12_many_4 : decode cX12_many 4 = .ok (.aload_n 0, 1) := by decide +kernel
theorem dX12_many_5 : decode cX12_many 5 = .ok (.getfield 301, 3) := by decide +kernel
theorem dX12_many_8 : decode cX12_many 8 = .ok (.iaload, 1) := by decide +kernel
theorem dX12_many_9 : decode cX12_many 9 = .ok (.ireturn, 1) := by decide +kernel
abbrev mi_X12_many : MI := (zTM, RX12, yX12_many, cX12_many, 1, (some .int), 2)
theorem cal_X12_many : zCalV mi_X12_many 0 := ⟨⟨zTB_i6 107 (by decide +kernel), zTB_i6 106 (by decide +kernel), zTB_i0 47 (by decide +kernel), zTB_i1 13 (by decide +kernel)⟩, ⟨by decide, by decide, by decide +kernel⟩, by decide⟩
noncomputable def X12_many (M : Mem) : Option (Int32) :=
  gd_ (inb (M.1 0 41) (2) = true) (
  some (M.1 4 ((M.1 0 41).toNatClampNeg)))
set_option maxRecDepth 100000 in
set_option maxHeartbeats 4000000 in
theorem X12_many_ok (G : Gh) (M : Mem) : Mt G mi_X12_many [.ref (G.2.2.2 (0))] M ((dO (dI M)) (X12_many M)) := by
  refine Mt_of (lv := [some (.ref (G.2.2.2 (0)))]) (by decide) rfl (Nat.le_of_ble_eq_true rfl) rfl ?_
  unfold X12_many
  refine r_aload_n dX12_many_0 rfl ?_
  refine r_getf (v := .ref (G.2.2.2 (4))) dX12_many_1 fM_0_12 kX12 (by decide) lkf_X12_24 rfl ?_
  refine r_aload_n dX12_many_4 rfl ?_
  refine r_getf (v := .int (M.1 0 41)) dX12_many_5 fM_0_41 kX12 (by decide) lkf_X12_301 rfl ?_
  refine r_gd rfl (fun g1 => ?_)
  refine r_iald dX12_many_8 aM_4 (inb_in g1) rfl ?_
  exact r_iret (ty := .int) dX12_many_9 rfl rfl rfl

theorem dX12_startAnew_0 : decode cX12_startAnew 0 = .ok (.iconst 0, 1) := by decide +kernel
theorem dX12_startAnew_1 : decode cX12_startAnew 1 = .ok (.istore_n 1, 1) := by decide +kernel
theorem dX12_startAnew_2 : decode cX12_startAnew 2 = .ok (.iload_n 1, 1) := by decide +kernel
theorem dX12_startAnew_3 : decode cX12_startAnew 3 = .ok (.bipush 42, 2) := by decide +kernel
theorem dX12_startAnew_5 : decode cX12_startAnew 5 = .ok (.if_icmp .ge 16, 3) := by decide +kernel
theorem dX12_startAnew_8 : decode cX12_startAnew 8 = .ok (.aload_n 0, 1) := by decide +kernel
theorem dX12_startAnew_9 : decode cX12_startAnew 9 = .ok (.getfield 113, 3) := by decide +kernel
theorem dX12_startAnew_12 : decode cX12_startAnew 12 = .ok (.iload_n 1, 1) := by decide +kernel
theorem dX12_startAnew_13 : decode cX12_startAnew 13 = .ok (.iconst 0, 1) := by decide +kernel
theorem dX12_startAnew_14 : decode cX12_startAnew 14 = .ok (.iastore, 1) := by decide +kernel
theorem dX12_startAnew_15 : decode cX12_startAnew 15 = .ok (.iinc 1 1, 3) := by decide +kernel
theorem dX12_startAnew_18 : decode cX12_startAnew 18 = .ok (.goto (-16), 3) := by decide +kernel
theorem dX12_startAnew_21 : decode cX12_startAnew 21 = .ok (.iconst 0, 1) := by decide +kernel
theorem dX12_startAnew_22 : decode cX12_startAnew 22 = .ok (.istore_n 1, 1) := by decide +kernel
theorem dX12_startAnew_23 : decode cX12_startAnew 23 = .ok (.iload_n 1, 1) := by decide +kernel
theorem dX12_startAnew_24 : decode cX12_startAnew 24 = .ok (.aload_n 0, 1) := by decide +kernel
theorem dX12_startAnew_25 : decode cX12_startAnew 25 = .ok (.invokevirtual 398, 3) := by decide +kernel
theorem dX12_startAnew_28 : decode cX12_startAnew 28 = .ok (.if_icmp .ge 73, 3) := by decide +kernel
theorem dX12_startAnew_31 : decode cX12_startAnew 31 = .ok (.aload_n 0, 1) := by decide +kernel
theorem dX12_startAnew_32 : decode cX12_startAnew 32 = .ok (.getfield 113, 3) := by decide +kernel
theorem dX12_startAnew_35 : decode cX12_startAnew 35 = .ok (.bipush 15, 2) := by decide +kernel
theorem dX12_startAnew_37 : decode cX12_startAnew 37 = .ok (.iload_n 1, 1) := by decide +kernel
theorem dX12_startAnew_38 : decode cX12_startAnew 38 = .ok (.iadd, 1) := by decide +kernel
theorem dX12_startAnew_39 : decode cX12_startAnew 39 = .ok (.aload_n 0, 1) := by decide +kernel
theorem dX12_startAnew_40 : decode cX12_startAnew 40 = .ok (.getfield 48, 3) := by decide +kernel
theorem dX12_startAnew_43 : decode cX12_startAnew 43 = .ok (.iconst 5, 1) := by decide +kernel
theorem dX12_startAnew_44 : decode cX12_startAnew 44 = .ok (.aload_n 0, 1) := by decide +kernel
theorem dX12_startAnew_45 : decode cX12_startAnew 45 = .ok (.getfield 301, 3) := by decide +kernel
theorem dX12_startAnew_48 : decode cX12_startAnew 48 = .ok (.imul, 1) := by decide +kernel
theorem dX12_startAnew_49 : decode cX12_startAnew 49 = .ok (.iload_n 1, 1) := by decide +kernel
theorem dX12_startAnew_50 : decode cX12_startAnew 50 = .ok (.iadd, 1) := by decide +kernel
theorem dX12_startAnew_51 : decode cX12_startAnew 51 = .ok (.iaload, 1) := by decide +kernel
theorem dX12_startAnew_52 : decode cX12_startAnew 52 = .ok (.iastore, 1) := by decide +kernel
theorem dX12_startAnew_53 : decode cX12_startAnew 53 = .ok (.iconst 0, 1) := by decide +kernel
theorem dX12_startAnew_54 : decode cX12_startAnew 54 = .ok (.istore_n 2, 1) := by decide +kernel
theorem dX12_startAnew_55 : decode cX12_startAnew 55 = .ok (.iload_n 2, 1) := by decide +kernel
theorem dX12_startAnew_56 : decode cX12_startAnew 56 = .ok (.iconst 3, 1) := by decide +kernel
theorem dX12_startAnew_57 : decode cX12_startAnew 57 = .ok (.if_icmp .ge 38, 3) := by decide +kernel
theorem dX12_startAnew_60 : decode cX12_startAnew 60 = .ok (.aload_n 0, 1) := by decide +kernel
theorem dX12_startAnew_61 : decode cX12_startAnew 61 = .ok (.getfield 113, 3) := by decide +kernel
theorem dX12_startAnew_64 : decode cX12_startAnew 64 = .ok (.iconst 0, 1) := by decide +kernel
theorem dX12_startAnew_65 : decode cX12_startAnew 65 = .ok (.iconst 3, 1) := by decide +kernel
theorem dX12_startAnew_66 : decode cX12_startAnew 66 = .ok (.iload_n 1, 1) := by decide +kernel
theorem dX12_startAnew_67 : decode cX12_startAnew 67 = .ok (.imul, 1) := by decide +kernel
theorem dX12_startAnew_68 : decode cX12_startAnew 68 = .ok (.iadd, 1) := by decide +kernel
theorem dX12_startAnew_69 : decode cX12_startAnew 69 = .ok (.iload_n 2, 1) := by decide +kernel
theorem dX12_startAnew_70 : decode cX12_startAnew 70 = .ok (.iadd, 1) := by decide +kernel
theorem dX12_startAnew_71 : decode cX12_startAnew 71 = .ok (.aload_n 0, 1) := by decide +kernel
theorem dX12_startAnew_72 : decode cX12_startAnew 72 = .ok (.getfield 54, 3) := by decide +kernel
theorem dX12_startAnew_75 : decode cX12_startAnew 75 = .ok (.iconst 3, 1) := by decide +kernel
theorem dX12_startAnew_76 : decode cX12_startAnew 76 = .ok (.iconst 5, 1) := by decide +kernel
theorem dX12_startAnew_77 : decode cX12_startAnew 77 = .ok (.aload_n 0, 1) := by decide +kernel
theorem dX12_startAnew_78 : decode cX12_startAnew 78 = .ok (.getfield 301, 3) := by decide +kernel
theorem dX12_startAnew_81 : decode cX12_startAnew 81 = .ok (.imul, 1) := by decide +kernel
theorem dX12_startAnew_82 : decode cX12_startAnew 82 = .ok (.iload_n 1, 1) := by decide +kernel
theorem dX12_startAnew_83 : decode cX12_startAnew 83 = .ok (.iadd, 1) := by decide +kernel
theorem dX12_startAnew_84 : decode cX12_startAnew 84 = .ok (.imul, 1) := by decide +kernel
theorem dX12_startAnew_85 : decode cX12_startAnew 85 = .ok (.iload_n 2, 1) := by decide +kernel
theorem dX12_startAnew_86 : decode cX12_startAnew 86 = .ok (.iadd, 1) := by decide +kernel
theorem dX12_startAnew_87 : decode cX12_startAnew 87 = .ok (.iaload, 1) := by decide +kernel
theorem dX12_startAnew_88 : decode cX12_startAnew 88 = .ok (.iastore, 1) := by decide +kernel
theorem dX12_startAnew_89 : decode cX12_startAnew 89 = .ok (.iinc 2 1, 3) := by decide +kernel
theorem dX12_startAnew_92 : decode cX12_startAnew 92 = .ok (.goto (-37), 3) := by decide +kernel
theorem dX12_startAnew_95 : decode cX12_startAnew 95 = .ok (.iinc 1 1, 3) := by decide +kernel
theorem dX12_startAnew_98 : decode cX12_startAnew 98 = .ok (.goto (-75), 3) := by decide +kernel
theorem dX12_startAnew_101 : decode cX12_startAnew 101 = .ok (.aload_n 0, 1) := by decide +kernel
theorem dX12_startAnew_102 : decode cX12_startAnew 102 = .ok (.getfield 113, 3) := by decide +kernel
theorem dX12_startAnew_105 : decode cX12_startAnew 105 = .ok (.bipush 41, 2) := by decide +kernel
theorem dX12_startAnew_107 : decode cX12_startAnew 107 = .ok (.aload_n 0, 1) := by decide +kernel
theorem dX12_startAnew_108 : decode cX12_startAnew 108 = .ok (.getfield 39, 3) := by decide +kernel
theorem dX12_startAnew_111 : decode cX12_startAnew 111 = .ok (.aload_n 0, 1) := by decide +kernel
theorem dX12_startAnew_112 : decode cX12_startAnew 112 = .ok (.getfield 301, 3) := by decide +kernel
theorem dX12_startAnew_115 : decode cX12_startAnew 115 = .ok (.iaload, 1) := by decide +kernel
theorem dX12_startAnew_116 : decode cX12_startAnew 116 = .ok (.iastore, 1) := by decide +kernel
theorem dX12_startAnew_117 : decode cX12_startAnew 117 = .ok (.aload_n 0, 1) := by decide +kernel
theorem dX12_startAnew_118 : decode cX12_startAnew 118 = .ok (.iconst 0, 1) := by decide +kernel
theorem dX12_startAnew_119 : decode cX12_startAnew 119 = .ok (.putfield 405, 3) := by decide +kernel
theorem dX12_startAnew_122 : decode cX12_startAnew 122 = .ok (.aload_n 0, 1) := by decide +kernel
theorem dX12_startAnew_123 : decode cX12_startAnew 123 = .ok (.iconst 0, 1) := by decide +kernel
theorem dX12_startAnew_124 : decode cX12_startAnew 124 = .ok (.putfield 408, 3) := by decide +kernel
theorem dX12_startAnew_127 : decode cX12_startAnew 127 = .ok (.aload_n 0, 1) := by decide +kernel
theorem dX12_startAnew_128 : decode cX12_startAnew 128 = .ok (.iconst 0, 1) := by decide +kernel
theorem dX12_startAnew_129 : decode cX12_startAnew 129 = .ok (.putfield 411, 3) := by decide +kernel
theorem dX12_startAnew_132 : decode cX12_startAnew 132 = .ok (.aload_n 0, 1) := by decide +kernel
theorem dX12_startAnew_133 : decode cX12_startAnew 133 = .ok (.iconst 0, 1) := by decide +kernel
theorem dX12_startAnew_134 : decode cX12_startAnew 134 = .ok (.putfield 414, 3) := by decide +kernel
theorem dX12_startAnew_137 : decode cX12_startAnew 137 = .ok (.iconst 0, 1) := by decide +kernel
theorem dX12_startAnew_138 : decode cX12_startAnew 138 = .ok (.istore_n 1, 1) := by decide +kernel
theorem dX12_startAnew_139 : decode cX12_startAnew 139 = .ok (.iload_n 1, 1) := by decide +kernel
theorem dX12_startAnew_140 : decode cX12_startAnew 140 = .ok (.iconst 3, 1) := by decide +kernel
theorem dX12_startAnew_141 : decode cX12_startAnew 141 = .ok (.if_icmp .ge 16, 3) := by decide +kernel
theorem dX12_startAnew_144 : decode cX12_startAnew 144 = .ok (.aload_n 0, 1) := by decide +kernel
theorem dX12_startAnew_145 : decode cX12_startAnew 145 = .ok (.getfield 176, 3) := by decide +kernel
theorem dX12_startAnew_148 : decode cX12_startAnew 148 = .ok (.iload_n 1, 1) := by decide +kernel
theorem dX12_startAnew_149 : decode cX12_startAnew 149 = .ok (.iconst 0, 1) := by decide +kernel
theorem dX12_startAnew_150 : decode cX12_startAnew 150 = .ok (.bastore, 1) := by decide +kernel
theorem dX12_startAnew_151 : decode cX12_startAnew 151 = .ok (.iinc 1 1, 3) := by decide +kernel
theorem dX12_startAnew_154 : decode cX12_startAnew 154 = .ok (.goto (-15), 3) := by decide +kernel
theorem dX12_startAnew_157 : decode cX12_startAnew 157 = .ok (.return_, 1) := by decide +kernel
abbrev mi_X12_startAnew : MI := (zTM, RX12, yX12_startAnew, cX12_startAnew, 3, none, 3)
theorem cal_X12_startAnew : zCalV mi_X12_startAnew 0 := ⟨⟨zTB_i6 103 (by decide +kernel), zTB_i6 102 (by decide +kernel), zTB_i0 46 (by decide +kernel), zTB_i1 13 (by decide +kernel)⟩, ⟨by decide, by decide, by decide +kernel⟩, by decide⟩
noncomputable def X12_startAnew_L4 : Nat → Int32 → Mem → Option (Mem)
  | 0, _, _ => none
  | n + 1, c1, M =>
    if 3 ≤ c1 then
      some M
    else
    gd_ (inb c1 (3) = true) (
    lt_ (uI M 54 c1.toNatClampNeg 0) fun M24 =>
    X12_startAnew_L4 n (c1 + 1) M24)
noncomputable def X12_startAnew_L3 (c1 : Int32) : Nat → Int32 → Mem → Option (Mem)
  | 0, _, _ => none
  | n + 1, c2, M =>
    if 3 ≤ c2 then
      some M
    else
    gd_ (inb ((3 * ((5 * (M.1 0 41)) + c1)) + c2) (30) = true) (
    gd_ (inb ((0 + (3 * c1)) + c2) (42) = true) (
    lt_ (uI M 33 (((0 + (3 * c1)) + c2).toNatClampNeg) (M.1 14 (((3 * ((5 * (M.1 0 41)) + c1)) + c2).toNatClampNeg))) fun M13 =>
    X12_startAnew_L3 c1 n (c2 + 1) M13))
noncomputable def X12_startAnew_L2 : Nat → Int32 → Mem → Option (Mem)
  | 0, _, _ => none
  | n + 1, c1, M =>
    bo_ (X12_many M) fun v5 =>
    if v5 ≤ c1 then
      some M
    else
    gd_ (inb ((5 * (M.1 0 41)) + c1) (10) = true) (
    gd_ (inb (15 + c1) (42) = true) (
    lt_ (uI M 33 ((15 + c1).toNatClampNeg) (M.1 12 (((5 * (M.1 0 41)) + c1).toNatClampNeg))) fun M9 =>
    b1_ (α := Mem) (X12_startAnew_L3 c1 zFU 0 M9) fun M14 =>
    X12_startAnew_L2 n (c1 + 1) M14))
noncomputable def X12_startAnew_L1 : Nat → Int32 → Mem → Option (Mem)
  | 0, _, _ => none
  | n + 1, c1, M =>
    if 42 ≤ c1 then
      some M
    else
    gd_ (inb c1 (42) = true) (
    lt_ (uI M 33 c1.toNatClampNeg 0) fun M3 =>
    X12_startAnew_L1 n (c1 + 1) M3)
noncomputable def X12_startAnew (M : Mem) : Option (Mem) :=
  b1_ (α := Mem) (X12_startAnew_L1 zFU 0 M) fun M4 =>
  b1_ (α := Mem) (X12_startAnew_L2 zFU 0 M4) fun M15 =>
  gd_ (inb (M15.1 0 41) (2) = true) (
  lt_ (uI M15 33 41 (M15.1 9 ((M15.1 0 41).toNatClampNeg))) fun M17 =>
  lt_ (uI M17 0 50 0) fun M18 =>
  lt_ (uI M18 0 51 0) fun M19 =>
  lt_ (uI M19 0 78 0) fun M20 =>
  lt_ (uI M20 0 55 0) fun M21 =>
  b1_ (α := Mem) (X12_startAnew_L4 zFU 0 M21) fun M25 =>
  some M25)
set_option maxRecDepth 100000 in
set_option maxHeartbeats 4000000 in
theorem X12_startAnew_L4_ok (G : Gh) {dn : Option (Mem) → Option (Option Value × Mem)} (hs : dn none = none) (hx : ∀ (M25 : Mem), Wr G mi_X12_startAnew dn 157 [none, none, none] [] M25 (some M25)) : ∀ (n : Nat) (c1 : Int32) (M : Mem), Wr G mi_X12_startAnew dn 139 [some (.ref (G.2.2.2 (0))), some (.int c1), none] [] M (X12_startAnew_L4 n c1 M) := by
  intro n
  induction n with
  | zero => intro c1 M; exact r_none (by exact hs)
  | succ n ih =>
    intro c1 M
    rw [X12_startAnew_L4]
    refine r_iload_n dX12_startAnew_139 rfl ?_
    refine r_iconst (x := 3) dX12_startAnew_140 rfl ?_
    refine r_icmp_ge (tgt := 157) dX12_startAnew_141 rfl (fun h22 => ?_) (fun h22 => ?_)
    · exact r_lk (hx M) True.intro
    refine r_aload_n dX12_startAnew_144 rfl ?_
    refine r_getf (v := .ref (G.2.2.2 (54))) dX12_startAnew_145 fM_0_82 kX12 (by decide) lkf_X12_176 rfl ?_
    refine r_iload_n dX12_startAnew_148 rfl ?_
    refine r_iconst (x := 0) dX12_startAnew_149 rfl ?_
    refine r_gd (by exact hs) (fun g23 => ?_)
    refine r_zast dX12_startAnew_150 aM_54 (inb_in g23) rfl (y := 0) rfl (fun M24 => ?_)
    refine r_iinc (y := c1 + 1) (lv' := [some (.ref (G.2.2.2 (0))), some (.int (c1 + 1)), none]) dX12_startAnew_151 rfl rfl (Nat.le_of_ble_eq_true rfl) rfl rfl ?_
    refine r_goto (tgt := 139) dX12_startAnew_154 rfl ?_
    exact r_lk (ih (c1 + 1) M24) (And.intro rfl (And.intro rfl True.intro))
set_option maxRecDepth 100000 in
set_option maxHeartbeats 4000000 in
theorem X12_startAnew_L3_ok (G : Gh) (c1 : Int32) {dn : Option (Mem) → Option (Option Value × Mem)} (hs : dn none = none) (hx : ∀ (M14 : Mem), Wr G mi_X12_startAnew dn 95 [some (.ref (G.2.2.2 (0))), some (.int c1), none] [] M14 (some M14)) : ∀ (n : Nat) (c2 : Int32) (M : Mem), Wr G mi_X12_startAnew dn 55 [some (.ref (G.2.2.2 (0))), some (.int c1), some (.int c2)] [] M (X12_startAnew_L3 c1 n c2 M) := by
  intro n
  induction n with
  | zero => intro c2 M; exact r_none (by exact hs)
  | succ n ih =>
    intro c2 M
    rw [X12_startAnew_L3]
    refine r_iload_n dX12_startAnew_55 rfl ?_
    refine r_iconst (x := 3) dX12_startAnew_56 rfl ?_
    refine r_icmp_ge (tgt := 95) dX12_startAnew_57 rfl (fun h10 => ?_) (fun h10 => ?_)
    · exact r_lk (hx M) (And.intro rfl (And.intro rfl True.intro))
    refine r_aload_n dX12_startAnew_60 rfl ?_
    refine r_getf (v := .ref (G.2.2.2 (33))) dX12_startAnew_61 fM_0_48 kX12 (by decide) lkf_X12_113 rfl ?_
    refine r_iconst (x := 0) dX12_startAnew_64 rfl ?_
    refine r_iconst (x := 3) dX12_startAnew_65 rfl ?_
    refine r_iload_n dX12_startAnew_66 rfl ?_
    refine r_imul dX12_startAnew_67 ?_
    refine r_iadd dX12_startAnew_68 ?_
    refine r_iload_n dX12_startAnew_69 rfl ?_
    refine r_iadd dX12_startAnew_70 ?_
    refine r_aload_n dX12_startAnew_71 rfl ?_
    refine r_getf (v := .ref (G.2.2.2 (14))) dX12_startAnew_72 fM_0_22 kX12 (by decide) lkf_X12_54 rfl ?_
    refine r_iconst (x := 3) dX12_startAnew_75 rfl ?_
    refine r_iconst (x := 5) dX12_startAnew_76 rfl ?_
    refine r_aload_n dX12_startAnew_77 rfl ?_
    refine r_getf (v := .int (M.1 0 41)) dX12_startAnew_78 fM_0_41 kX12 (by decide) lkf_X12_301 rfl ?_
    refine r_imul dX12_startAnew_81 ?_
    refine r_iload_n dX12_startAnew_82 rfl ?_
    refine r_iadd dX12_startAnew_83 ?_
    refine r_imul dX12_startAnew_84 ?_
    refine r_iload_n dX12_startAnew_85 rfl ?_
    refine r_iadd dX12_startAnew_86 ?_
    refine r_gd (by exact hs) (fun g11 => ?_)
    refine r_iald dX12_startAnew_87 aM_14 (inb_in g11) rfl ?_
    refine r_gd (by exact hs) (fun g12 => ?_)
    refine r_iast dX12_startAnew_88 aM_33 (inb_in g12) rfl (fun M13 => ?_)
    refine r_iinc (y := c2 + 1) (lv' := [some (.ref (G.2.2.2 (0))), some (.int c1), some (.int (c2 + 1))]) dX12_startAnew_89 rfl rfl (Nat.le_of_ble_eq_true rfl) rfl rfl ?_
    refine r_goto (tgt := 55) dX12_startAnew_92 rfl ?_
    exact r_lk (ih (c2 + 1) M13) (And.intro rfl (And.intro rfl (And.intro rfl True.intro)))
set_option maxRecDepth 100000 in
set_option maxHeartbeats 4000000 in
theorem X12_startAnew_L2_ok (G : Gh) {dn : Option (Mem) → Option (Option Value × Mem)} (hs : dn none = none) (hx : ∀ (M15 : Mem), Wr G mi_X12_startAnew dn 101 [some (.ref (G.2.2.2 (0))), none, none] [] M15 (some M15)) : ∀ (n : Nat) (c1 : Int32) (M : Mem), Wr G mi_X12_startAnew dn 23 [some (.ref (G.2.2.2 (0))), some (.int c1), none] [] M (X12_startAnew_L2 n c1 M) := by
  intro n
  induction n with
  | zero => intro c1 M; exact r_none (by exact hs)
  | succ n ih =>
    intro c1 M
    rw [X12_startAnew_L2]
    refine r_iload_n dX12_startAnew_23 rfl ?_
    refine r_aload_n dX12_startAnew_24 rfl ?_
    refine c_OI (by exact hs) (inv_V (mi := mi_X12_startAnew) (b := 0) (rest := [.int c1]) (X12_many_ok G M) rfl (by decide) dX12_startAnew_25 lkm_X12_398 cal_X12_many cM_0 rfl rfl (Nat.le_of_ble_eq_true rfl) rfl) (fun v5 => ?_)
    refine r_icmp_ge (tgt := 101) dX12_startAnew_28 rfl (fun h6 => ?_) (fun h6 => ?_)
    · exact r_lk (hx M) (And.intro rfl True.intro)
    refine r_aload_n dX12_startAnew_31 rfl ?_
    refine r_getf (v := .ref (G.2.2.2 (33))) dX12_startAnew_32 fM_0_48 kX12 (by decide) lkf_X12_113 rfl ?_
    refine r_bipush (x := 15) dX12_startAnew_35 rfl ?_
    refine r_iload_n dX12_startAnew_37 rfl ?_
    refine r_iadd dX12_startAnew_38 ?_
    refine r_aload_n dX12_startAnew_39 rfl ?_
    refine r_getf (v := .ref (G.2.2.2 (12))) dX12_startAnew_40 fM_0_20 kX12 (by decide) lkf_X12_48 rfl ?_
    refine r_iconst (x := 5) dX12_startAnew_43 rfl ?_
    refine r_aload_n dX12_startAnew_44 rfl ?_
    refine r_getf (v := .int (M.1 0 41)) dX12_startAnew_45 fM_0_41 kX12 (by decide) lkf_X12_301 rfl ?_
    refine r_imul dX12_startAnew_48 ?_
    refine r_iload_n dX12_startAnew_49 rfl ?_
    refine r_iadd dX12_startAnew_50 ?_
    refine r_gd (by exact hs) (fun g7 => ?_)
    refine r_iald dX12_startAnew_51 aM_12 (inb_in g7) rfl ?_
    refine r_gd (by exact hs) (fun g8 => ?_)
    refine r_iast dX12_startAnew_52 aM_33 (inb_in g8) rfl (fun M9 => ?_)
    refine r_iconst (x := 0) dX12_startAnew_53 rfl ?_
    refine r_istore_n (lv' := [some (.ref (G.2.2.2 (0))), some (.int c1), some (.int 0)]) dX12_startAnew_54 (Nat.le_of_ble_eq_true rfl) rfl rfl ?_
    refine r_jB1 (j := 95) (lvj := fun M14 => [some (.ref (G.2.2.2 (0))), some (.int c1), none]) (stj := fun M14 => []) (Mj := fun M14 => M14) (fun M14 => ?_) (fun hj95 => ?_)
    · refine r_iinc (y := c1 + 1) (lv' := [some (.ref (G.2.2.2 (0))), some (.int (c1 + 1)), none]) dX12_startAnew_95 rfl rfl (Nat.le_of_ble_eq_true rfl) rfl rfl ?_
      refine r_goto (tgt := 23) dX12_startAnew_98 rfl ?_
      exact r_lk (ih (c1 + 1) M14) (And.intro rfl (And.intro rfl True.intro))
    exact r_lk (X12_startAnew_L3_ok G c1 (by exact hs) hj95 zFU 0 M9) (And.intro rfl (And.intro rfl (And.intro rfl True.intro)))
set_option maxRecDepth 100000 in
set_option maxHeartbeats 4000000 in
theorem X12_startAnew_L1_ok (G : Gh) {dn : Option (Mem) → Option (Option Value × Mem)} (hs : dn none = none) (hx : ∀ (M4 : Mem), Wr G mi_X12_startAnew dn 21 [some (.ref (G.2.2.2 (0))), none, none] [] M4 (some M4)) : ∀ (n : Nat) (c1 : Int32) (M : Mem), Wr G mi_X12_startAnew dn 2 [some (.ref (G.2.2.2 (0))), some (.int c1), none] [] M (X12_startAnew_L1 n c1 M) := by
  intro n
  induction n with
  | zero => intro c1 M; exact r_none (by exact hs)
  | succ n ih =>
    intro c1 M
    rw [X12_startAnew_L1]
    refine r_iload_n dX12_startAnew_2 rfl ?_
    refine r_bipush (x := 42) dX12_startAnew_3 rfl ?_
    refine r_icmp_ge (tgt := 21) dX12_startAnew_5 rfl (fun h1 => ?_) (fun h1 => ?_)
    · exact r_lk (hx M) (And.intro rfl True.intro)
    refine r_aload_n dX12_startAnew_8 rfl ?_
    refine r_getf (v := .ref (G.2.2.2 (33))) dX12_startAnew_9 fM_0_48 kX12 (by decide) lkf_X12_113 rfl ?_
    refine r_iload_n dX12_startAnew_12 rfl ?_
    refine r_iconst (x := 0) dX12_startAnew_13 rfl ?_
    refine r_gd (by exact hs) (fun g2 => ?_)
    refine r_iast dX12_startAnew_14 aM_33 (inb_in g2) rfl (fun M3 => ?_)
    refine r_iinc (y := c1 + 1) (lv' := [some (.ref (G.2.2.2 (0))), some (.int (c1 + 1)), none]) dX12_startAnew_15 rfl rfl (Nat.le_of_ble_eq_true rfl) rfl rfl ?_
    refine r_goto (tgt := 2) dX12_startAnew_18 rfl ?_
    exact r_lk (ih (c1 + 1) M3) (And.intro rfl (And.intro rfl True.intro))
set_option maxRecDepth 100000 in
set_option maxHeartbeats 4000000 in
theorem X12_startAnew_ok (G : Gh) (M : Mem) : Mt G mi_X12_startAnew [.ref (G.2.2.2 (0))] M ((dO dV) (X12_startAnew M)) := by
  refine Mt_of (lv := [some (.ref (G.2.2.2 (0)))]) (by decide) rfl (Nat.le_of_ble_eq_true rfl) rfl ?_
  refine r_le (lv' := [some (.ref (G.2.2.2 (0))), none, none]) (And.intro rfl True.intro) ?_
  unfold X12_startAnew
  refine r_iconst (x := 0) dX12_startAnew_0 rfl ?_
  refine r_istore_n (lv' := [some (.ref (G.2.2.2 (0))), some (.int 0), none]) dX12_startAnew_1 (Nat.le_of_ble_eq_true rfl) rfl rfl ?_
  refine r_jB1 (j := 21) (lvj := fun M4 => [some (.ref (G.2.2.2 (0))), none, none]) (stj := fun M4 => []) (Mj := fun M4 => M4) (fun M4 => ?_) (fun hj21 => ?_)
  · refine r_iconst (x := 0) dX12_startAnew_21 rfl ?_
    refine r_istore_n (lv' := [some (.ref (G.2.2.2 (0))), some (.int 0), none]) dX12_startAnew_22 (Nat.le_of_ble_eq_true rfl) rfl rfl ?_
    refine r_jB1 (j := 101) (lvj := fun M15 => [some (.ref (G.2.2.2 (0))), none, none]) (stj := fun M15 => []) (Mj := fun M15 => M15) (fun M15 => ?_) (fun hj101 => ?_)
    · refine r_aload_n dX12_startAnew_101 rfl ?_
      refine r_getf (v := .ref (G.2.2.2 (33))) dX12_startAnew_102 fM_0_48 kX12 (by decide) lkf_X12_113 rfl ?_
      refine r_bipush (x := 41) dX12_startAnew_105 rfl ?_
      refine r_aload_n dX12_startAnew_107 rfl ?_
      refine r_getf (v := .ref (G.2.2.2 (9))) dX12_startAnew_108 fM_0_17 kX12 (by decide) lkf_X12_39 rfl ?_
      refine r_aload_n dX12_startAnew_111 rfl ?_
      refine r_getf (v := .int (M15.1 0 41)) dX12_startAnew_112 fM_0_41 kX12 (by decide) lkf_X12_301 rfl ?_
      refine r_gd rfl (fun g16 => ?_)
      refine r_iald dX12_startAnew_115 aM_9 (inb_in g16) rfl ?_
      refine r_iast dX12_startAnew_116 aM_33 (inb_in (i := 41) (n := 42) rfl) (m := 41) rfl (fun M17 => ?_)
      refine r_aload_n dX12_startAnew_117 rfl ?_
      refine r_iconst (x := 0) dX12_startAnew_118 rfl ?_
      refine r_putI dX12_startAnew_119 fM_0_50 kX12 (by decide) rfl rfl lkf_X12_405 (fun _ => rfl) rfl rfl (fun M18 => ?_)
      refine r_aload_n dX12_startAnew_122 rfl ?_
      refine r_iconst (x := 0) dX12_startAnew_123 rfl ?_
      refine r_putI dX12_startAnew_124 fM_0_51 kX12 (by decide) rfl rfl lkf_X12_408 (fun _ => rfl) rfl rfl (fun M19 => ?_)
      refine r_aload_n dX12_startAnew_127 rfl ?_
      refine r_iconst (x := 0) dX12_startAnew_128 rfl ?_
      refine r_putI dX12_startAnew_129 fM_0_78 kX12 (by decide) rfl rfl lkf_X12_411 (fun _ => rfl) rfl rfl (fun M20 => ?_)
      refine r_aload_n dX12_startAnew_132 rfl ?_
      refine r_iconst (x := 0) dX12_startAnew_133 rfl ?_
      refine r_putI dX12_startAnew_134 fM_0_55 kX12 (by decide) rfl rfl lkf_X12_414 (fun _ => rfl) rfl rfl (fun M21 => ?_)
      refine r_iconst (x := 0) dX12_startAnew_137 rfl ?_
      refine r_istore_n (lv' := [some (.ref (G.2.2.2 (0))), some (.int 0), none]) dX12_startAnew_138 (Nat.le_of_ble_eq_true rfl) rfl rfl ?_
      refine r_jB1 (j := 157) (lvj := fun M25 => [none, none, none]) (stj := fun M25 => []) (Mj := fun M25 => M25) (fun M25 => ?_) (fun hj157 => ?_)
      · exact r_vret dX12_startAnew_157 rfl rfl
      exact r_lk (X12_startAnew_L4_ok G rfl hj157 zFU 0 M21) (And.intro rfl (And.intro rfl True.intro))
    exact r_lk (X12_startAnew_L2_ok G rfl hj101 zFU 0 M4) (And.intro rfl (And.intro rfl True.intro))
  exact r_lk (X12_startAnew_L1_ok G rfl hj21 zFU 0 M) (And.intro rfl (And.intro rfl True.intro))

theorem dX12_mill_0 : decode cX12_mill 0 = .ok (.aload_n 0, 1) := by decide +kernel
theorem dX12_mill_1 : decode cX12_mill 1 = .ok (.iconst 0, 1) := by decide +kernel
theorem dX12_mill_2 : decode cX12_mill 2 = .ok (.putfield 188, 3) := by decide +kernel
theorem dX12_mill_5 : decode cX12_mill 5 = .ok (.aload_n 0, 1) := by decide +kernel
theorem dX12_mill_6 : decode cX12_mill 6 = .ok (.iconst (-1), 1) := by decide +kernel
theorem dX12_mill_7 : decode cX12_mill 7 = .ok (.putfield 16, 3) := by decide +kernel
theorem dX12_mill_10 : decode cX12_mill 10 = .ok (.aload_n 0, 1) := by decide +kernel
theorem dX12_mill_11 : decode cX12_mill 11 = .ok (.aload_n 0, 1) := by decide +kernel
theorem dX12_mill_12 : decode cX12_mill 12 = .ok (.getfield 298, 3) := by decide +kernel
theorem dX12_mill_15 : decode cX12_mill 15 = .ok (.putfield 185, 3) := by decide +kernel
theorem dX12_mill_18 : decode cX12_mill 18 = .ok (.iconst 0, 1) := by decide +kernel
theorem dX12_mill_19 : decode cX12_mill 19 = .ok (.istore_n 1, 1) := by decide +kernel
theorem dX12_mill_20 : decode cX12_mill 20 = .ok (.iload_n 1, 1) := by decide +kernel
theorem dX12_mill_21 : decode cX12_mill 21 = .ok (.aload_n 0, 1) := by decide +kernel
theorem dX12_mill_22 : decode cX12_mill 22 = .ok (.getfield 185, 3) := by decide +kernel
theorem dX12_mill_25 : decode cX12_mill 25 = .ok (.if_icmp .ge 21, 3) := by decide +kernel
theorem dX12_mill_28 : decode cX12_mill 28 = .ok (.aload_n 0, 1) := by decide +kernel
theorem dX12_mill_29 : decode cX12_mill 29 = .ok (.getfield 13, 3) := by decide +kernel
theorem dX12_mill_32 : decode cX12_mill 32 = .ok (.iload_n 1, 1) := by decide +kernel
theorem dX12_mill_33 : decode cX12_mill 33 = .ok (.aload_n 0, 1) := by decide +kernel
theorem dX12_mill_34 : decode cX12_mill 34 = .ok (.getfield 7, 3) := by decide +kernel
theorem dX12_mill_37 : decode cX12_mill 37 = .ok (.iload_n 1, 1) := by decide +kernel
theorem dX12_mill_38 : decode cX12_mill 38 = .ok (.baload, 1) := by decide +kernel
theorem dX12_mill_39 : decode cX12_mill 39 = .ok (.bastore, 1) := by decide +kernel
theorem dX12_mill_40 : decode cX12_mill 40 = .ok (.iinc 1 1, 3) := by decide +kernel
theorem dX12_mill_43 : decode cX12_mill 43 = .ok (.goto (-23), 3) := by decide +kernel
theorem dX12_mill_46 : decode cX12_mill 46 = .ok (.aload_n 0, 1) := by decide +kernel
theorem dX12_mill_47 : decode cX12_mill 47 = .ok (.iconst 0, 1) := by decide +kernel
theorem dX12_mill_48 : decode cX12_mill 48 = .ok (.putfield 298, 3) := by decide +kernel
theorem dX12_mill_51 : decode cX12_mill 51 = .ok (.aload_n 0, 1) := by decide +kernel
theorem dX12_mill_52 : decode cX12_mill 52 = .ok (.iconst 0, 1) := by decide +kernel
theorem dX12_mill_53 : decode cX12_mill 53 = .ok (.putfield 233, 3) := by decide +kernel
theorem dX12_mill_56 : decode cX12_mill 56 = .ok (.aload_n 0, 1) := by decide +kernel
theorem dX12_mill_57 : decode cX12_mill 57 = .ok (.iconst 1, 1) := by decide +kernel
theorem dX12_mill_58 : decode cX12_mill 58 = .ok (.aload_n 0, 1) := by decide +kernel
theorem dX12_mill_59 : decode cX12_mill 59 = .ok (.getfield 301, 3) := by decide +kernel
theorem dX12_mill_62 : decode cX12_mill 62 = .ok (.isub, 1) := by decide +kernel
theorem dX12_mill_63 : decode cX12_mill 63 = .ok (.putfield 292, 3) := by decide +kernel
theorem dX12_mill_66 : decode cX12_mill 66 = .ok (.aload_n 0, 1) := by decide +kernel
theorem dX12_mill_67 : decode cX12_mill 67 = .ok (.invokevirtual 179, 3) := by decide +kernel
theorem dX12_mill_70 : decode cX12_mill 70 = .ok (.aload_n 0, 1) := by decide +kernel
theorem dX12_mill_71 : decode cX12_mill 71 = .ok (.invokevirtual 275, 3) := by decide +kernel
theorem dX12_mill_74 : decode cX12_mill 74 = .ok (.aload_n 0, 1) := by decide +kernel
theorem dX12_mill_75 : decode cX12_mill 75 = .ok (.invokevirtual 271, 3) := by decide +kernel
theorem dX12_mill_78 : decode cX12_mill 78 = .ok (.ifCond .eq 17, 3) := by decide +kernel
theorem dX12_mill_81 : decode cX12_mill 81 = .ok (.aload_n 0, 1) := by decide +kernel
theorem dX12_mill_82 : decode cX12_mill 82 = .ok (.getfield 243, 3) := by decide +kernel
theorem dX12_mill_85 : decode cX12_mill 85 = .ok (.ifCond .eq 10, 3) := by decide +kernel
theorem dX12_mill_88 : decode cX12_mill 88 = .ok (.aload_n 0, 1) := by decide +kernel
theorem dX12_mill_89 : decode cX12_mill 89 = .ok (.invokevirtual 304, 3) := by decide +kernel
theorem dX12_mill_92 : decode cX12_mill 92 = .ok (.goto (-18), 3) := by decide +kernel
theorem dX12_mill_95 : decode cX12_mill 95 = .ok (.aload_n 0, 1) := by decide +kernel
theorem dX12_mill_96 : decode cX12_mill 96 = .ok (.invokevirtual 271, 3) := by decide +kernel
theorem dX12_mill_99 : decode cX12_mill 99 = .ok (.ifCond .ne 5, 3) := by decide +kernel
theorem dX12_mill_102 : decode cX12_mill 102 = .ok (.iconst (-1), 1) := by decide +kernel
theorem dX12_mill_103 : decode cX12_mill 103 = .ok (.ireturn, 1) := by decide +kernel
theorem dX12_mill_104 : decode cX12_mill 104 = .ok (.aload_n 0, 1) := by decide +kernel
theorem dX12_mill_105 : decode cX12_mill 105 = .ok (.aload_n 0, 1) := by decide +kernel
theorem dX12_mill_106 : decode cX12_mill 106 = .ok (.getfield 292, 3) := by decide +kernel
theorem dX12_mill_109 : decode cX12_mill 109 = .ok (.putfield 301, 3) := by decide +kernel
theorem dX12_mill_112 : decode cX12_mill 112 = .ok (.aload_n 0, 1) := by decide +kernel
theorem dX12_mill_113 : decode cX12_mill 113 = .ok (.invokevirtual 182, 3) := by decide +kernel
theorem dX12_mill_116 : decode cX12_mill 116 = .ok (.aload_n 0, 1) := by decide +kernel
theorem dX12_mill_117 : decode cX12_mill 117 = .ok (.getfield 24, 3) := by decide +kernel
theorem dX12_mill_120 : decode cX12_mill 120 = .ok (.aload_n 0, 1) := by decide +kernel
theorem dX12_mill_121 : decode cX12_mill 121 = .ok (.getfield 301, 3) := by decide +kernel
theorem dX12_mill_124 : decode cX12_mill 124 = .ok (.iaload, 1) := by decide +kernel
theorem dX12_mill_125 : decode cX12_mill 125 = .ok (.ireturn, 1) := by decide +kernel
abbrev mi_X12_mill : MI := (zTM, RX12, yX12_mill, cX12_mill, 2, (some .int), 9)
theorem cal_X12_mill : zCalV mi_X12_mill 0 := ⟨⟨zTB_i7 121 (by decide +kernel), zTB_i7 119 (by decide +kernel), zTB_i7 120 (by decide +kernel), zTB_i1 13 (by decide +kernel)⟩, ⟨by decide, by decide, by decide +kernel⟩, by decide⟩
noncomputable def X12_mill_L2 : Nat → Mem → Option (Mem)
  | 0, _ => none
  | n + 1, M =>
    if (X12_isGood M) = true then
      if (M.1 0 8) = 0 then
        some M
      else
      bo_ (X12_readLine M) fun M16 =>
      X12_mill_L2 n M16
    else
    some M
noncomputable def X12_mill_L1 : Nat → Int32 → Mem → Option (Mem)
  | 0, _, _ => none
  | n + 1, c1, M =>
    if (M.1 0 3) ≤ c1 then
      some M
    else
    gd_ (inb c1 (1620) = true) (
    gd_ (inb c1 (1600) = true) (
    lt_ (uI M 2 c1.toNatClampNeg ((M.1 1 c1.toNatClampNeg).toInt8.toInt32)) fun M7 =>
    X12_mill_L1 n (c1 + 1) M7))
noncomputable def X12_mill (M : Mem) : Option (Int32 × Mem) :=
  lt_ (uI M 0 4 0) fun M1 =>
  lt_ (uI M1 0 5 (-1)) fun M2 =>
  lt_ (uI M2 0 3 (M2.1 0 2)) fun M3 =>
  b1_ (α := Mem) (X12_mill_L1 zFU 0 M3) fun M8 =>
  lt_ (uI M8 0 2 0) fun M9 =>
  lt_ (uI M9 0 7 0) fun M10 =>
  lt_ (uI M10 0 42 (1 - (M10.1 0 41))) fun M11 =>
  bo_ (X12_clearBank M11) fun M12 =>
  bo_ (X12_goOn M12) fun M13 =>
  b1_ (α := Mem) (X12_mill_L2 zFU M13) fun M17 =>
  if (X12_isGood M17) = true then
    lt_ (uI M17 0 41 (M17.1 0 42)) fun M19 =>
    bo_ (X12_startAnew M19) fun M20 =>
    gd_ (inb (M20.1 0 41) (2) = true) (
    some (M20.1 4 ((M20.1 0 41).toNatClampNeg), M20))
  else
  some ((-1), M17)
set_option maxRecDepth 100000 in
set_option maxHeartbeats 4000000 in
theorem X12_mill_L2_ok (G : Gh) {dn : Option (Mem) → Option (Option Value × Mem)} (hs : dn none = none) (hx : ∀ (M17 : Mem), Wr G mi_X12_mill dn 95 [some (.ref (G.2.2.2 (0))), none] [] M17 (some M17)) : ∀ (n : Nat)  (M : Mem), Wr G mi_X12_mill dn 74 [some (.ref (G.2.2.2 (0))), none] [] M (X12_mill_L2 n M) := by
  intro n
  induction n with
  | zero => intro M; exact r_none (by exact hs)
  | succ n ih =>
    intro M
    rw [X12_mill_L2]
    refine r_aload_n dX12_mill_74 rfl ?_
    refine c_Z (inv_V (mi := mi_X12_mill) (b := 0) (rest := []) (X12_isGood_ok G M) rfl (by decide) dX12_mill_75 lkm_X12_271 cal_X12_isGood cM_0 rfl rfl (Nat.le_of_ble_eq_true rfl) rfl) ?_
    refine r_ifz_eq (tgt := 95) dX12_mill_78 rfl (fun h14 => ?_) (fun h14 => ?_)
    · refine r_aload_n dX12_mill_81 rfl ?_
      refine r_getf (v := .int (M.1 0 8)) dX12_mill_82 fM_0_8 kX12 (by decide) lkf_X12_243 rfl ?_
      refine r_if_eq (tgt := 95) dX12_mill_85 rfl (fun h15 => ?_) (fun h15 => ?_)
      · exact r_lk (hx M) (And.intro rfl True.intro)
      refine r_aload_n dX12_mill_88 rfl ?_
      refine c_OV (by exact hs) (inv_V (mi := mi_X12_mill) (b := 0) (rest := []) (X12_readLine_ok G M) rfl (by decide) dX12_mill_89 lkm_X12_304 cal_X12_readLine cM_0 rfl rfl (Nat.le_of_ble_eq_true rfl) rfl) (fun M16 => ?_)
      refine r_goto (tgt := 74) dX12_mill_92 rfl ?_
      exact r_lk (ih M16) (And.intro rfl True.intro)
    exact r_lk (hx M) (And.intro rfl True.intro)
set_option maxRecDepth 100000 in
set_option maxHeartbeats 4000000 in
theorem X12_mill_L1_ok (G : Gh) {dn : Option (Mem) → Option (Option Value × Mem)} (hs : dn none = none) (hx : ∀ (M8 : Mem), Wr G mi_X12_mill dn 46 [some (.ref (G.2.2.2 (0))), none] [] M8 (some M8)) : ∀ (n : Nat) (c1 : Int32) (M : Mem), Wr G mi_X12_mill dn 20 [some (.ref (G.2.2.2 (0))), some (.int c1)] [] M (X12_mill_L1 n c1 M) := by
  intro n
  induction n with
  | zero => intro c1 M; exact r_none (by exact hs)
  | succ n ih =>
    intro c1 M
    rw [X12_mill_L1]
    refine r_iload_n dX12_mill_20 rfl ?_
    refine r_aload_n dX12_mill_21 rfl ?_
    refine r_getf (v := .int (M.1 0 3)) dX12_mill_22 fM_0_3 kX12 (by decide) lkf_X12_185 rfl ?_
    refine r_icmp_ge (tgt := 46) dX12_mill_25 rfl (fun h4 => ?_) (fun h4 => ?_)
    · exact r_lk (hx M) (And.intro rfl True.intro)
    refine r_aload_n dX12_mill_28 rfl ?_
    refine r_getf (v := .ref (G.2.2.2 (2))) dX12_mill_29 fM_0_1 kX12 (by decide) lkf_X12_13 rfl ?_
    refine r_iload_n dX12_mill_32 rfl ?_
    refine r_aload_n dX12_mill_33 rfl ?_
    refine r_getf (v := .ref (G.2.2.2 (1))) dX12_mill_34 fM_0_0 kX12 (by decide) lkf_X12_7 rfl ?_
    refine r_iload_n dX12_mill_37 rfl ?_
    refine r_gd (by exact hs) (fun g5 => ?_)
    refine r_bald dX12_mill_38 aM_1 (inb_in g5) rfl ?_
    refine r_gd (by exact hs) (fun g6 => ?_)
    refine r_bast dX12_mill_39 aM_2 (inb_in g6) rfl (y := (M.1 1 c1.toNatClampNeg).toInt8.toInt32) rfl (fun M7 => ?_)
    refine r_iinc (y := c1 + 1) (lv' := [some (.ref (G.2.2.2 (0))), some (.int (c1 + 1))]) dX12_mill_40 rfl rfl (Nat.le_of_ble_eq_true rfl) rfl rfl ?_
    refine r_goto (tgt := 20) dX12_mill_43 rfl ?_
    exact r_lk (ih (c1 + 1) M7) (And.intro rfl (And.intro rfl True.intro))
set_option maxRecDepth 100000 in
set_option maxHeartbeats 4000000 in
theorem X12_mill_ok (G : Gh) (M : Mem) : Mt G mi_X12_mill [.ref (G.2.2.2 (0))] M ((dO dIM) (X12_mill M)) := by
  refine Mt_of (lv := [some (.ref (G.2.2.2 (0)))]) (by decide) rfl (Nat.le_of_ble_eq_true rfl) rfl ?_
  refine r_le (lv' := [some (.ref (G.2.2.2 (0))), none]) (And.intro rfl True.intro) ?_
  unfold X12_mill
  refine r_aload_n dX12_mill_0 rfl ?_
  refine r_iconst (x := 0) dX12_mill_1 rfl ?_
  refine r_putI dX12_mill_2 fM_0_4 kX12 (by decide) rfl rfl lkf_X12_188 (fun _ => rfl) rfl rfl (fun M1 => ?_)
  refine r_aload_n dX12_mill_5 rfl ?_
  refine r_iconst (x := (-1)) dX12_mill_6 rfl ?_
  refine r_putI dX12_mill_7 fM_0_5 kX12 (by decide) rfl rfl lkf_X12_16 (fun _ => rfl) rfl rfl (fun M2 => ?_)
  refine r_aload_n dX12_mill_10 rfl ?_
  refine r_aload_n dX12_mill_11 rfl ?_
  refine r_getf (v := .int (M2.1 0 2)) dX12_mill_12 fM_0_2 kX12 (by decide) lkf_X12_298 rfl ?_
  refine r_putI dX12_mill_15 fM_0_3 kX12 (by decide) rfl rfl lkf_X12_185 (fun _ => rfl) rfl rfl (fun M3 => ?_)
  refine r_iconst (x := 0) dX12_mill_18 rfl ?_
  refine r_istore_n (lv' := [some (.ref (G.2.2.2 (0))), some (.int 0)]) dX12_mill_19 (Nat.le_of_ble_eq_true rfl) rfl rfl ?_
  refine r_jB1 (j := 46) (lvj := fun M8 => [some (.ref (G.2.2.2 (0))), none]) (stj := fun M8 => []) (Mj := fun M8 => M8) (fun M8 => ?_) (fun hj46 => ?_)
  · refine r_aload_n dX12_mill_46 rfl ?_
    refine r_iconst (x := 0) dX12_mill_47 rfl ?_
    refine r_putI dX12_mill_48 fM_0_2 kX12 (by decide) rfl rfl lkf_X12_298 (fun _ => rfl) rfl rfl (fun M9 => ?_)
    refine r_aload_n dX12_mill_51 rfl ?_
    refine r_iconst (x := 0) dX12_mill_52 rfl ?_
    refine r_putI dX12_mill_53 fM_0_7 kX12 (by decide) rfl rfl lkf_X12_233 (fun _ => rfl) rfl rfl (fun M10 => ?_)
    refine r_aload_n dX12_mill_56 rfl ?_
    refine r_iconst (x := 1) dX12_mill_57 rfl ?_
    refine r_aload_n dX12_mill_58 rfl ?_
    refine r_getf (v := .int (M10.1 0 41)) dX12_mill_59 fM_0_41 kX12 (by decide) lkf_X12_301 rfl ?_
    refine r_isub dX12_mill_62 ?_
    refine r_putI dX12_mill_63 fM_0_42 kX12 (by decide) rfl rfl lkf_X12_292 (fun _ => rfl) rfl rfl (fun M11 => ?_)
    refine r_aload_n dX12_mill_66 rfl ?_
    refine c_OV rfl (inv_V (mi := mi_X12_mill) (b := 0) (rest := []) (X12_clearBank_ok G M11) rfl (by decide) dX12_mill_67 lkm_X12_179 cal_X12_clearBank cM_0 rfl rfl (Nat.le_of_ble_eq_true rfl) rfl) (fun M12 => ?_)
    refine r_aload_n dX12_mill_70 rfl ?_
    refine c_OV rfl (inv_V (mi := mi_X12_mill) (b := 0) (rest := []) (X12_goOn_ok G M12) rfl (by decide) dX12_mill_71 lkm_X12_275 cal_X12_goOn cM_0 rfl rfl (Nat.le_of_ble_eq_true rfl) rfl) (fun M13 => ?_)
    refine r_jB1 (j := 95) (lvj := fun M17 => [some (.ref (G.2.2.2 (0))), none]) (stj := fun M17 => []) (Mj := fun M17 => M17) (fun M17 => ?_) (fun hj95 => ?_)
    · refine r_aload_n dX12_mill_95 rfl ?_
      refine c_Z (inv_V (mi := mi_X12_mill) (b := 0) (rest := []) (X12_isGood_ok G M17) rfl (by decide) dX12_mill_96 lkm_X12_271 cal_X12_isGood cM_0 rfl rfl (Nat.le_of_ble_eq_true rfl) rfl) ?_
      refine r_ifz_ne (tgt := 104) dX12_mill_99 rfl (fun h18 => ?_) (fun h18 => ?_)
      · refine r_aload_n dX12_mill_104 rfl ?_
        refine r_aload_n dX12_mill_105 rfl ?_
        refine r_getf (v := .int (M17.1 0 42)) dX12_mill_106 fM_0_42 kX12 (by decide) lkf_X12_292 rfl ?_
        refine r_putI dX12_mill_109 fM_0_41 kX12 (by decide) rfl rfl lkf_X12_301 (fun _ => rfl) rfl rfl (fun M19 => ?_)
        refine r_aload_n dX12_mill_112 rfl ?_
        refine c_OV rfl (inv_V (mi := mi_X12_mill) (b := 0) (rest := []) (X12_startAnew_ok G M19) rfl (by decide) dX12_mill_113 lkm_X12_182 cal_X12_startAnew cM_0 rfl rfl (Nat.le_of_ble_eq_true rfl) rfl) (fun M20 => ?_)
        refine r_aload_n dX12_mill_116 rfl ?_
        refine r_getf (v := .ref (G.2.2.2 (4))) dX12_mill_117 fM_0_12 kX12 (by decide) lkf_X12_24 rfl ?_
        refine r_aload_n dX12_mill_120 rfl ?_
        refine r_getf (v := .int (M20.1 0 41)) dX12_mill_121 fM_0_41 kX12 (by decide) lkf_X12_301 rfl ?_
        refine r_gd rfl (fun g21 => ?_)
        refine r_iald dX12_mill_124 aM_4 (inb_in g21) rfl ?_
        exact r_iret (ty := .int) dX12_mill_125 rfl rfl rfl
      refine r_iconst (x := (-1)) dX12_mill_102 rfl ?_
      exact r_iret (ty := .int) dX12_mill_103 rfl rfl rfl
    exact r_lk (X12_mill_L2_ok G rfl hj95 zFU M13) (And.intro rfl True.intro)
  exact r_lk (X12_mill_L1_ok G rfl hj46 zFU 0 M3) (And.intro rfl (And.intro rfl True.intro))

theorem dX12_fault_0 : decode cX12_fault 0 = .ok (.iload_n 1, 1) := by decide +kernel
theorem dX12_fault_1 : decode cX12_fault 1 = .ok (.ifCond .ne 10, 3) := by decide +kernel
theorem dX12_fault_4 : decode cX12_fault 4 = .ok (.aload_n 0, 1) := by decide +kernel
theorem dX12_fault_5 : decode cX12_fault 5 = .ok (.getfield 188, 3) := by decide +kernel
theorem dX12_fault_8 : decode cX12_fault 8 = .ok (.goto 16, 3) := by decide +kernel
theorem dX12_fault_11 : decode cX12_fault 11 = .ok (.iload_n 1, 1) := by decide +kernel
theorem dX12_fault_12 : decode cX12_fault 12 = .ok (.iconst 1, 1) := by decide +kernel
theorem dX12_fault_13 : decode cX12_fault 13 = .ok (.if_icmp .ne 10, 3) := by decide +kernel
theorem dX12_fault_16 : decode cX12_fault 16 = .ok (.aload_n 0, 1) := by decide +kernel
theorem dX12_fault_17 : decode cX12_fault 17 = .ok (.getfield 16, 3) := by decide +kernel
theorem dX12_fault_20 : decode cX12_fault 20 = .ok (.goto 4, 3) := by decide +kernel
theorem dX12_fault_23 : decode cX12_fault 23 = .ok (.iconst (-1), 1) := by decide +kernel
theorem dX12_fault_24 : decode cX12_fault 24 = .ok (.ireturn, 1) := by decide +kernel
abbrev mi_X12_fault : MI := (zTM, RX12, yX12_fault, cX12_fault, 2, (some .int), 2)
theorem cal_X12_fault : zCalV mi_X12_fault 1 := ⟨⟨zTB_i8 38 (by decide +kernel), zTB_i8 36 (by decide +kernel), zTB_i8 37 (by decide +kernel), zTB_i1 13 (by decide +kernel)⟩, ⟨by decide, by decide, by decide +kernel⟩, by decide⟩
noncomputable def X12_fault (x1 : Int32) (M : Mem) : Int32 :=
  if x1 = 0 then
    M.1 0 4
  else
  if x1 = 1 then
    M.1 0 5
  else
  (-1)
set_option maxRecDepth 100000 in
set_option maxHeartbeats 4000000 in
theorem X12_fault_ok (G : Gh) (x1 : Int32) (M : Mem) : Mt G mi_X12_fault [.ref (G.2.2.2 (0)), .int x1] M ((dI M) (X12_fault x1 M)) := by
  refine Mt_of (lv := [some (.ref (G.2.2.2 (0))), some (.int x1)]) (by decide) rfl (Nat.le_of_ble_eq_true rfl) rfl ?_
  unfold X12_fault
  refine r_iload_n dX12_fault_0 rfl ?_
  refine r_if_ne (tgt := 11) dX12_fault_1 rfl (fun h1 => ?_) (fun h1 => ?_)
  · refine r_aload_n dX12_fault_4 rfl ?_
    refine r_getf (v := .int (M.1 0 4)) dX12_fault_5 fM_0_4 kX12 (by decide) lkf_X12_188 rfl ?_
    refine r_goto (tgt := 24) dX12_fault_8 rfl ?_
    exact r_iret (ty := .int) dX12_fault_24 rfl rfl rfl
  refine r_iload_n dX12_fault_11 rfl ?_
  refine r_iconst (x := 1) dX12_fault_12 rfl ?_
  refine r_icmp_ne (tgt := 23) dX12_fault_13 rfl (fun h2 => ?_) (fun h2 => ?_)
  · refine r_aload_n dX12_fault_16 rfl ?_
    refine r_getf (v := .int (M.1 0 5)) dX12_fault_17 fM_0_5 kX12 (by decide) lkf_X12_16 rfl ?_
    refine r_goto (tgt := 24) dX12_fault_20 rfl ?_
    exact r_iret (ty := .int) dX12_fault_24 rfl rfl rfl
  refine r_iconst (x := (-1)) dX12_fault_23 rfl ?_
  exact r_iret (ty := .int) dX12_fault_24 rfl rfl rfl

theorem dX12_isIn_0 : decode cX12_isIn 0 = .ok (.iload_n 0, 1) := by decide +kernel
theorem dX12_isIn_1 : decode cX12_isIn 1 = .ok (.iload_n 1, 1) := by decide +kernel
theorem dX12_isIn_2 : decode cX12_isIn 2 = .ok (.if_icmp .lt 12, 3) := by decide +kernel
theorem dX12_isIn_5 : decode cX12_isIn 5 = .ok (.iload_n 0, 1) := by decide +kernel
theorem dX12_isIn_6 : decode cX12_isIn 6 = .ok (.iload_n 2, 1) := by decide +kernel
theorem dX12_isIn_7 : decode cX12_isIn 7 = .ok (.if_icmp .gt 7, 3) := by decide +kernel
theorem dX12_isIn_10 : decode cX12_isIn 10 = .ok (.iconst 1, 1) := by decide +kernel
theorem dX12_isIn_11 : decode cX12_isIn 11 = .ok (.goto 4, 3) := by decide +kernel
theorem dX12_isIn_14 : decode cX12_isIn 14 = .ok (.iconst 0, 1) := by decide +kernel
theorem dX12_isIn_15 : decode cX12_isIn 15 = .ok (.ireturn, 1) := by decide +kernel
abbrev mi_X12_isIn : MI := (zTM, RX12, yX12_isIn, cX12_isIn, 3, (some .boolean), 2)
theorem cal_X12_isIn : zCalS mi_X12_isIn 3 := ⟨⟨zTB_i8 49 (by decide +kernel), zTB_i8 48 (by decide +kernel), zTB_i1 13 (by decide +kernel)⟩, ⟨by decide, by decide, by decide +kernel⟩, by decide⟩
noncomputable def X12_isIn (x0 : Int32) (x1 : Int32) (x2 : Int32) : Bool :=
  if x0 < x1 then
    false
  else
  if x2 < x0 then
    false
  else
  true
set_option maxRecDepth 100000 in
set_option maxHeartbeats 4000000 in
theorem X12_isIn_ok (G : Gh) (x0 : Int32) (x1 : Int32) (x2 : Int32) (M : Mem) : Mt G mi_X12_isIn [.int x0, .int x1, .int x2] M ((dZ M) (X12_isIn x0 x1 x2)) := by
  refine Mt_of (lv := [some (.int x0), some (.int x1), some (.int x2)]) (by decide) rfl (Nat.le_of_ble_eq_true rfl) rfl ?_
  unfold X12_isIn
  refine r_iload_n dX12_isIn_0 rfl ?_
  refine r_iload_n dX12_isIn_1 rfl ?_
  refine r_icmp_lt (tgt := 14) dX12_isIn_2 rfl (fun h1 => ?_) (fun h1 => ?_)
  · refine r_iconst (x := 0) dX12_isIn_14 rfl ?_
    exact r_iret (ty := .boolean) dX12_isIn_15 rfl rfl rfl
  refine r_iload_n dX12_isIn_5 rfl ?_
  refine r_iload_n dX12_isIn_6 rfl ?_
  refine r_icmp_gt (tgt := 14) dX12_isIn_7 rfl (fun h2 => ?_) (fun h2 => ?_)
  · refine r_iconst (x := 0) dX12_isIn_14 rfl ?_
    exact r_iret (ty := .boolean) dX12_isIn_15 rfl rfl rfl
  refine r_iconst (x := 1) dX12_isIn_10 rfl ?_
  refine r_goto (tgt := 15) dX12_isIn_11 rfl ?_
  exact r_iret (ty := .boolean) dX12_isIn_15 rfl rfl rfl

theorem dX12_isMan_0 : decode cX12_isMan 0 = .ok (.iload_n 1, 1) := by decide +kernel
theorem dX12_isMan_1 : decode cX12_isMan 1 = .ok (.iconst 0, 1) := by decide +kernel
theorem dX12_isMan_2 : decode cX12_isMan 2 = .ok (.aload_n 0, 1) := by decide +kernel
theorem dX12_isMan_3 : decode cX12_isMan 3 = .ok (.invokevirtual 398, 3) := by decide +kernel
theorem dX12_isMan_6 : decode cX12_isMan 6 = .ok (.iconst 1, 1) := by decide +kernel
theorem dX12_isMan_7 : decode cX12_isMan 7 = .ok (.isub, 1) := by decide +kernel
theorem dX12_isMan_8 : decode cX12_isMan 8 = .ok (.invokestatic 401, 3) := by decide +kernel
theorem dX12_isMan_11 : decode cX12_isMan 11 = .ok (.ireturn, 1) := by decide +kernel
abbrev mi_X12_isMan : MI := (zTM, RX12, yX12_isMan, cX12_isMan, 2, (some .boolean), 3)
theorem cal_X12_isMan : zCalV mi_X12_isMan 1 := ⟨⟨zTB_i8 46 (by decide +kernel), zTB_i8 45 (by decide +kernel), zTB_i0 78 (by decide +kernel), zTB_i1 13 (by decide +kernel)⟩, ⟨by decide, by decide, by decide +kernel⟩, by decide⟩
noncomputable def X12_isMan (x1 : Int32) (M : Mem) : Option (Bool) :=
  bo_ (X12_many M) fun v1 =>
  some (X12_isIn x1 0 (v1 - 1))
set_option maxRecDepth 100000 in
set_option maxHeartbeats 4000000 in
theorem X12_isMan_ok (G : Gh) (x1 : Int32) (M : Mem) : Mt G mi_X12_isMan [.ref (G.2.2.2 (0)), .int x1] M ((dO (dZ M)) (X12_isMan x1 M)) := by
  refine Mt_of (lv := [some (.ref (G.2.2.2 (0))), some (.int x1)]) (by decide) rfl (Nat.le_of_ble_eq_true rfl) rfl ?_
  unfold X12_isMan
  refine r_iload_n dX12_isMan_0 rfl ?_
  refine r_iconst (x := 0) dX12_isMan_1 rfl ?_
  refine r_aload_n dX12_isMan_2 rfl ?_
  refine c_OI rfl (inv_V (mi := mi_X12_isMan) (b := 0) (rest := [.int 0, .int x1]) (X12_many_ok G M) rfl (by decide) dX12_isMan_3 lkm_X12_398 cal_X12_many cM_0 rfl rfl (Nat.le_of_ble_eq_true rfl) rfl) (fun v1 => ?_)
  refine r_iconst (x := 1) dX12_isMan_6 rfl ?_
  refine r_isub dX12_isMan_7 ?_
  refine c_Z (inv_S (mi := mi_X12_isMan) (rest := []) (X12_isIn_ok G x1 0 (v1 - 1) M) rfl (by decide) dX12_isMan_8 lkm_X12_401 cal_X12_isIn rfl (Nat.le_of_ble_eq_true rfl) rfl) ?_
  exact r_iret (ty := .boolean) dX12_isMan_11 rfl (b2i_n _) rfl

theorem dX12_overOf_0 : decode cX12_overOf 0 = .ok (.iload_n 2, 1) := by decide +kernel
theorem dX12_overOf_1 : decode cX12_overOf 1 = .ok (.aload_n 0, 1) := by decide +kernel
theorem dX12_overOf_2 : decode cX12_overOf 2 = .ok (.getfield 20, 3) := by decide +kernel
theorem dX12_overOf_5 : decode cX12_overOf 5 = .ok (.aload_n 0, 1) := by decide +kernel
theorem dX12_overOf_6 : decode cX12_overOf 6 = .ok (.getfield 301, 3) := by decide +kernel
theorem dX12_overOf_9 : decode cX12_overOf 9 = .ok (.iaload, 1) := by decide +kernel
theorem dX12_overOf_10 : decode cX12_overOf 10 = .ok (.if_icmp .ge 19, 3) := by decide +kernel
theorem dX12_overOf_13 : decode cX12_overOf 13 = .ok (.aload_n 0, 1) := by decide +kernel
theorem dX12_overOf_14 : decode cX12_overOf 14 = .ok (.getfield 113, 3) := by decide +kernel
theorem dX12_overOf_17 : decode cX12_overOf 17 = .ok (.bipush 20, 2) := by decide +kernel
theorem dX12_overOf_19 : decode cX12_overOf 19 = .ok (.iconst 3, 1) := by decide +kernel
theorem dX12_overOf_20 : decode cX12_overOf 20 = .ok (.iload_n 1, 1) := by decide +kernel
theorem dX12_overOf_21 : decode cX12_overOf 21 = .ok (.imul, 1) := by decide +kernel
theorem dX12_overOf_22 : decode cX12_overOf 22 = .ok (.iadd, 1) := by decide +kernel
theorem dX12_overOf_23 : decode cX12_overOf 23 = .ok (.iload_n 2, 1) := by decide +kernel
theorem dX12_overOf_24 : decode cX12_overOf 24 = .ok (.iadd, 1) := by decide +kernel
theorem dX12_overOf_25 : decode cX12_overOf 25 = .ok (.iaload, 1) := by decide +kernel
theorem dX12_overOf_26 : decode cX12_overOf 26 = .ok (.goto 4, 3) := by decide +kernel
theorem dX12_overOf_29 : decode cX12_overOf 29 = .ok (.iconst 0, 1) := by decide +kernel
theorem dX12_overOf_30 : decode cX12_overOf 30 = .ok (.ireturn, 1) := by decide +kernel
abbrev mi_X12_overOf : MI := (zTM, RX12, yX12_overOf, cX12_overOf, 3, (some .int), 2)
theorem cal_X12_overOf : zCalV mi_X12_overOf 2 := ⟨⟨zTB_i8 58 (by decide +kernel), zTB_i8 57 (by decide +kernel), zTB_i0 80 (by decide +kernel), zTB_i1 13 (by decide +kernel)⟩, ⟨by decide, by decide, by decide +kernel⟩, by decide⟩
noncomputable def X12_overOf (x1 : Int32) (x2 : Int32) (M : Mem) : Option (Int32) :=
  gd_ (inb (M.1 0 41) (2) = true) (
  if (M.1 3 ((M.1 0 41).toNatClampNeg)) ≤ x2 then
    some 0
  else
  gd_ (inb ((20 + (3 * x1)) + x2) (42) = true) (
  some (M.1 33 (((20 + (3 * x1)) + x2).toNatClampNeg))))
set_option maxRecDepth 100000 in
set_option maxHeartbeats 4000000 in
theorem X12_overOf_ok (G : Gh) (x1 : Int32) (x2 : Int32) (M : Mem) : Mt G mi_X12_overOf [.ref (G.2.2.2 (0)), .int x1, .int x2] M ((dO (dI M)) (X12_overOf x1 x2 M)) := by
  refine Mt_of (lv := [some (.ref (G.2.2.2 (0))), some (.int x1), some (.int x2)]) (by decide) rfl (Nat.le_of_ble_eq_true rfl) rfl ?_
  unfold X12_overOf
  refine r_iload_n dX12_overOf_0 rfl ?_
  refine r_aload_n dX12_overOf_1 rfl ?_
  refine r_getf (v := .ref (G.2.2.2 (3))) dX12_overOf_2 fM_0_11 kX12 (by decide) lkf_X12_20 rfl ?_
  refine r_aload_n dX12_overOf_5 rfl ?_
  refine r_getf (v := .int (M.1 0 41)) dX12_overOf_6 fM_0_41 kX12 (by decide) lkf_X12_301 rfl ?_
  refine r_gd rfl (fun g1 => ?_)
  refine r_iald dX12_overOf_9 aM_3 (inb_in g1) rfl ?_
  refine r_icmp_ge (tgt := 29) dX12_overOf_10 rfl (fun h2 => ?_) (fun h2 => ?_)
  · refine r_iconst (x := 0) dX12_overOf_29 rfl ?_
    exact r_iret (ty := .int) dX12_overOf_30 rfl rfl rfl
  refine r_aload_n dX12_overOf_13 rfl ?_
  refine r_getf (v := .ref (G.2.2.2 (33))) dX12_overOf_14 fM_0_48 kX12 (by decide) lkf_X12_113 rfl ?_
  refine r_bipush (x := 20) dX12_overOf_17 rfl ?_
  refine r_iconst (x := 3) dX12_overOf_19 rfl ?_
  refine r_iload_n dX12_overOf_20 rfl ?_
  refine r_imul dX12_overOf_21 ?_
  refine r_iadd dX12_overOf_22 ?_
  refine r_iload_n dX12_overOf_23 rfl ?_
  refine r_iadd dX12_overOf_24 ?_
  refine r_gd rfl (fun g3 => ?_)
  refine r_iald dX12_overOf_25 aM_33 (inb_in g3) rfl ?_
  refine r_goto (tgt := 30) dX12_overOf_26 rfl ?_
  exact r_iret (ty := .int) dX12_overOf_30 rfl rfl rfl

theorem dX12_asked_0 : decode cX12_asked 0 = .ok (.iload_n 1, 1) := by decide +kernel
theorem dX12_asked_1 : decode cX12_asked 1 = .ok (.lookupswitch 115 #[(99, 89), (102, 59), (112, 110), (115, 69), (116, 79), (119, 102)], 59) := by decide +kernel
theorem dX12_asked_60 : decode cX12_asked 60 = .ok (.aload_n 0, 1) := by decide +kernel
theorem dX12_asked_61 : decode cX12_asked 61 = .ok (.aload_n 0, 1) := by decide +kernel
theorem dX12_asked_62 : decode cX12_asked 62 = .ok (.getfield 385, 3) := by decide +kernel
theorem dX12_asked_65 : decode cX12_asked 65 = .ok (.iconst 0, 1) := by decide +kernel
theorem dX12_asked_66 : decode cX12_asked 66 = .ok (.invokevirtual 388, 3) := by decide +kernel
theorem dX12_asked_69 : decode cX12_asked 69 = .ok (.ireturn, 1) := by decide +kernel
theorem dX12_asked_70 : decode cX12_asked 70 = .ok (.aload_n 0, 1) := by decide +kernel
theorem dX12_asked_71 : decode cX12_asked 71 = .ok (.aload_n 0, 1) := by decide +kernel
theorem dX12_asked_72 : decode cX12_asked 72 = .ok (.getfield 385, 3) := by decide +kernel
theorem dX12_asked_75 : decode cX12_asked 75 = .ok (.iconst 1, 1) := by decide +kernel
theorem dX12_asked_76 : decode cX12_asked 76 = .ok (.invokevirtual 388, 3) := by decide +kernel
theorem dX12_asked_79 : decode cX12_asked 79 = .ok (.ireturn, 1) := by decide +kernel
theorem dX12_asked_80 : decode cX12_asked 80 = .ok (.aload_n 0, 1) := by decide +kernel
theorem dX12_asked_81 : decode cX12_asked 81 = .ok (.aload_n 0, 1) := by decide +kernel
theorem dX12_asked_82 : decode cX12_asked 82 = .ok (.getfield 385, 3) := by decide +kernel
theorem dX12_asked_85 : decode cX12_asked 85 = .ok (.iconst 2, 1) := by decide +kernel
theorem dX12_asked_86 : decode cX12_asked 86 = .ok (.invokevirtual 388, 3) := by decide +kernel
theorem dX12_asked_89 : decode cX12_asked 89 = .ok (.ireturn, 1) := by decide +kernel
theorem dX12_asked_90 : decode cX12_asked 90 = .ok (.aload_n 0, 1) := by decide +kernel
theorem dX12_asked_91 : decode cX12_asked 91 = .ok (.getfield 113, 3) := by decide +kernel
theorem dX12_asked_94 : decode cX12_asked 94 = .ok (.bipush 15, 2) := by decide +kernel
theorem dX12_asked_96 : decode cX12_asked 96 = .ok (.aload_n 0, 1) := by decide +kernel
theorem dX12_asked_97 : decode cX12_asked 97 = .ok (.getfield 385, 3) := by decide +kernel
theorem dX12_asked_100 : decode cX12_asked 100 = .ok (.iadd, 1) := by decide +kernel
theorem dX12_asked_101 : decode cX12_asked 101 = .ok (.iaload, 1) := by decide +kernel
theorem dX12_asked_102 : decode cX12_asked 102 = .ok (.ireturn, 1) := by decide +kernel
theorem dX12_asked_103 : decode cX12_asked 103 = .ok (.aload_n 0, 1) := by decide +kernel
theorem dX12_asked_104 : decode cX12_asked 104 = .ok (.getfield 113, 3) := by decide +kernel
theorem dX12_asked_107 : decode cX12_asked 107 = .ok (.bipush 40, 2) := by decide +kernel
theorem dX12_asked_109 : decode cX12_asked 109 = .ok (.iaload, 1) := by decide +kernel
theorem dX12_asked_110 : decode cX12_asked 110 = .ok (.ireturn, 1) := by decide +kernel
theorem dX12_asked_111 : decode cX12_asked 111 = .ok (.aload_n 0, 1) := by decide +kernel
theorem dX12_asked_112 : decode cX12_asked 112 = .ok (.getfield 385, 3) := by decide +kernel
theorem dX12_asked_115 : decode cX12_asked 115 = .ok (.ireturn, 1) := by decide +kernel
theorem dX12_asked_116 : decode cX12_asked 116 = .ok (.iload_n 2, 1) := by decide +kernel
theorem dX12_asked_117 : decode cX12_asked 117 = .ok (.ireturn, 1) := by decide +kernel
abbrev mi_X12_asked : MI := (zTM, RX12, yX12_asked, cX12_asked, 3, (some .int), 3)
theorem cal_X12_asked : zCalV mi_X12_asked 2 := ⟨⟨zTB_i8 66 (by decide +kernel), zTB_i8 65 (by decide +kernel), zTB_i0 82 (by decide +kernel), zTB_i1 13 (by decide +kernel)⟩, ⟨by decide, by decide, by decide +kernel⟩, by decide⟩
noncomputable def X12_asked (x1 : Int32) (x2 : Int32) (M : Mem) : Option (Int32) :=
  if x1 = 99 then
    gd_ (inb (15 + (M.1 0 47)) (42) = true) (
    some (M.1 33 ((15 + (M.1 0 47)).toNatClampNeg)))
  else
  if x1 = 102 then
    bo_ (X12_overOf (M.1 0 47) 0 M) fun v4 =>
    some v4
  else
  if x1 = 112 then
    some (M.1 0 47)
  else
  if x1 = 115 then
    bo_ (X12_overOf (M.1 0 47) 1 M) fun v7 =>
    some v7
  else
  if x1 = 116 then
    bo_ (X12_overOf (M.1 0 47) 2 M) fun v9 =>
    some v9
  else
  if x1 = 119 then
    some (M.1 33 40)
  else
  some x2
set_option maxRecDepth 100000 in
set_option maxHeartbeats 4000000 in
theorem X12_asked_ok (G : Gh) (x1 : Int32) (x2 : Int32) (M : Mem) : Mt G mi_X12_asked [.ref (G.2.2.2 (0)), .int x1, .int x2] M ((dO (dI M)) (X12_asked x1 x2 M)) := by
  refine Mt_of (lv := [some (.ref (G.2.2.2 (0))), some (.int x1), some (.int x2)]) (by decide) rfl (Nat.le_of_ble_eq_true rfl) rfl ?_
  unfold X12_asked
  refine r_iload_n dX12_asked_0 rfl ?_
  refine r_ite (fun h1 => ?_) (fun h1 => ?_)
  · refine r_lswIn (c := 99) (tgt := 90) dX12_asked_1 h1 rfl rfl rfl ?_
    refine r_aload_n dX12_asked_90 rfl ?_
    refine r_getf (v := .ref (G.2.2.2 (33))) dX12_asked_91 fM_0_48 kX12 (by decide) lkf_X12_113 rfl ?_
    refine r_bipush (x := 15) dX12_asked_94 rfl ?_
    refine r_aload_n dX12_asked_96 rfl ?_
    refine r_getf (v := .int (M.1 0 47)) dX12_asked_97 fM_0_47 kX12 (by decide) lkf_X12_385 rfl ?_
    refine r_iadd dX12_asked_100 ?_
    refine r_gd rfl (fun g2 => ?_)
    refine r_iald dX12_asked_101 aM_33 (inb_in g2) rfl ?_
    exact r_iret (ty := .int) dX12_asked_102 rfl rfl rfl
  refine r_ite (fun h3 => ?_) (fun h3 => ?_)
  · refine r_lswIn (c := 102) (tgt := 60) dX12_asked_1 h3 rfl rfl rfl ?_
    refine r_aload_n dX12_asked_60 rfl ?_
    refine r_aload_n dX12_asked_61 rfl ?_
    refine r_getf (v := .int (M.1 0 47)) dX12_asked_62 fM_0_47 kX12 (by decide) lkf_X12_385 rfl ?_
    refine r_iconst (x := 0) dX12_asked_65 rfl ?_
    refine c_OI rfl (inv_V (mi := mi_X12_asked) (b := 0) (rest := []) (X12_overOf_ok G (M.1 0 47) 0 M) rfl (by decide) dX12_asked_66 lkm_X12_388 cal_X12_overOf cM_0 rfl rfl (Nat.le_of_ble_eq_true rfl) rfl) (fun v4 => ?_)
    exact r_iret (ty := .int) dX12_asked_69 rfl rfl rfl
  refine r_ite (fun h5 => ?_) (fun h5 => ?_)
  · refine r_lswIn (c := 112) (tgt := 111) dX12_asked_1 h5 rfl rfl rfl ?_
    refine r_aload_n dX12_asked_111 rfl ?_
    refine r_getf (v := .int (M.1 0 47)) dX12_asked_112 fM_0_47 kX12 (by decide) lkf_X12_385 rfl ?_
    exact r_iret (ty := .int) dX12_asked_115 rfl rfl rfl
  refine r_ite (fun h6 => ?_) (fun h6 => ?_)
  · refine r_lswIn (c := 115) (tgt := 70) dX12_asked_1 h6 rfl rfl rfl ?_
    refine r_aload_n dX12_asked_70 rfl ?_
    refine r_aload_n dX12_asked_71 rfl ?_
    refine r_getf (v := .int (M.1 0 47)) dX12_asked_72 fM_0_47 kX12 (by decide) lkf_X12_385 rfl ?_
    refine r_iconst (x := 1) dX12_asked_75 rfl ?_
    refine c_OI rfl (inv_V (mi := mi_X12_asked) (b := 0) (rest := []) (X12_overOf_ok G (M.1 0 47) 1 M) rfl (by decide) dX12_asked_76 lkm_X12_388 cal_X12_overOf cM_0 rfl rfl (Nat.le_of_ble_eq_true rfl) rfl) (fun v7 => ?_)
    exact r_iret (ty := .int) dX12_asked_79 rfl rfl rfl
  refine r_ite (fun h8 => ?_) (fun h8 => ?_)
  · refine r_lswIn (c := 116) (tgt := 80) dX12_asked_1 h8 rfl rfl rfl ?_
    refine r_aload_n dX12_asked_80 rfl ?_
    refine r_aload_n dX12_asked_81 rfl ?_
    refine r_getf (v := .int (M.1 0 47)) dX12_asked_82 fM_0_47 kX12 (by decide) lkf_X12_385 rfl ?_
    refine r_iconst (x := 2) dX12_asked_85 rfl ?_
    refine c_OI rfl (inv_V (mi := mi_X12_asked) (b := 0) (rest := []) (X12_overOf_ok G (M.1 0 47) 2 M) rfl (by decide) dX12_asked_86 lkm_X12_388 cal_X12_overOf cM_0 rfl rfl (Nat.le_of_ble_eq_true rfl) rfl) (fun v9 => ?_)
    exact r_iret (ty := .int) dX12_asked_89 rfl rfl rfl
  refine r_ite (fun h10 => ?_) (fun h10 => ?_)
  · refine r_lswIn (c := 119) (tgt := 103) dX12_asked_1 h10 rfl rfl rfl ?_
    refine r_aload_n dX12_asked_103 rfl ?_
    refine r_getf (v := .ref (G.2.2.2 (33))) dX12_asked_104 fM_0_48 kX12 (by decide) lkf_X12_113 rfl ?_
    refine r_bipush (x := 40) dX12_asked_107 rfl ?_
    refine r_iald dX12_asked_109 aM_33 (inb_in (i := 40) (n := 42) rfl) (m := 40) rfl ?_
    exact r_iret (ty := .int) dX12_asked_110 rfl rfl rfl
  refine r_lswD (cs := [99, 102, 112, 115, 116, 119]) (tgt := 116) dX12_asked_1 rfl (by decide) (fun c hc => by simp only [List.mem_cons, List.not_mem_nil, or_false] at hc; rcases hc with rfl | rfl | rfl | rfl | rfl | rfl <;> assumption) rfl ?_
  refine r_iload_n dX12_asked_116 rfl ?_
  exact r_iret (ty := .int) dX12_asked_117 rfl rfl rfl

theorem dX12_two_0 : decode cX12_two 0 = .ok (.iload_n 0, 1) := by decide +kernel
theorem dX12_two_1 : decode cX12_two 1 = .ok (.tableswitch 202 37 62 #[143, 188, 202, 202, 202, 127, 119, 202, 123, 202, 131, 202, 202, 202, 202, 202, 202, 202, 202, 202, 202, 202, 202, 155, 177, 166], 119) := by decide +kernel
theorem dX12_two_120 : decode cX12_two 120 = .ok (.iload_n 1, 1) := by decide +kernel
theorem dX12_two_121 : decode cX12_two 121 = .ok (.iload_n 2, 1) := by decide +kernel
theorem dX12_two_122 : decode cX12_two 122 = .ok (.iadd, 1) := by decide +kernel
theorem dX12_two_123 : decode cX12_two 123 = .ok (.ireturn, 1) := by decide +kernel
theorem dX12_two_124 : decode cX12_two 124 = .ok (.iload_n 1, 1) := by decide +kernel
theorem dX12_two_125 : decode cX12_two 125 = .ok (.iload_n 2, 1) := by decide +kernel
theorem dX12_two_126 : decode cX12_two 126 = .ok (.isub, 1) := by decide +kernel
theorem dX12_two_127 : decode cX12_two 127 = .ok (.ireturn, 1) := by decide +kernel
theorem dX12_two_128 : decode cX12_two 128 = .ok (.iload_n 1, 1) := by decide +kernel
theorem dX12_two_129 : decode cX12_two 129 = .ok (.iload_n 2, 1) := by decide +kernel
theorem dX12_two_130 : decode cX12_two 130 = .ok (.imul, 1) := by decide +kernel
theorem dX12_two_131 : decode cX12_two 131 = .ok (.ireturn, 1) := by decide +kernel
theorem dX12_two_132 : decode cX12_two 132 = .ok (.iload_n 2, 1) := by decide +kernel
theorem dX12_two_133 : decode cX12_two 133 = .ok (.ifCond .ne 7, 3) := by decide +kernel
theorem dX12_two_136 : decode cX12_two 136 = .ok (.iconst 0, 1) := by decide +kernel
theorem dX12_two_137 : decode cX12_two 137 = .ok (.goto 6, 3) := by decide +kernel
theorem dX12_two_140 : decode cX12_two 140 = .ok (.iload_n 1, 1) := by decide +kernel
theorem dX12_two_141 : decode cX12_two 141 = .ok (.iload_n 2, 1) := by decide +kernel
theorem dX12_two_142 : decode cX12_two 142 = .ok (.idiv, 1) := by decide +kernel
theorem dX12_two_143 : decode cX12_two 143 = .ok (.ireturn, 1) := by decide +kernel
theorem dX12_two_144 : decode cX12_two 144 = .ok (.iload_n 2, 1) := by decide +kernel
theorem dX12_two_145 : decode cX12_two 145 = .ok (.ifCond .ne 7, 3) := by decide +kernel
theorem dX12_two_148 : decode cX12_two 148 = .ok (.iconst 0, 1) := by decide +kernel
theorem dX12_two_149 : decode cX12_two 149 = .ok (.goto 6, 3) := by decide +kernel
theorem dX12_two_152 : decode cX12_two 152 = .ok (.iload_n 1, 1) := by decide +kernel
theorem dX12_two_153 : decode cX12_two 153 = .ok (.iload_n 2, 1) := by decide +kernel
theorem dX12_two_154 : decode cX12_two 154 = .ok (.irem, 1) := by decide +kernel
theorem dX12_two_155 : decode cX12_two 155 = .ok (.ireturn, 1) := by decide +kernel
theorem dX12_two_156 : decode cX12_two 156 = .ok (.iload_n 1, 1) := by decide +kernel
theorem dX12_two_157 : decode cX12_two 157 = .ok (.iload_n 2, 1) := by decide +kernel
theorem dX12_two_158 : decode cX12_two 158 = .ok (.if_icmp .ge 7, 3) := by decide +kernel
theorem dX12_two_161 : decode cX12_two 161 = .ok (.iconst 1, 1) := by decide +kernel
theorem dX12_two_162 : decode cX12_two 162 = .ok (.goto 4, 3) := by decide +kernel
theorem dX12_two_165 : decode cX12_two 165 = .ok (.iconst 0, 1) := by decide +kernel
theorem dX12_two_166 : decode cX12_two 166 = .ok (.ireturn, 1) := by decide +kernel
theorem dX12_two_167 : decode cX12_two 167 = .ok (.iload_n 1, 1) := by decide +kernel
theorem dX12_two_168 : decode cX12_two 168 = .ok (.iload_n 2, 1) := by decide +kernel
theorem dX12_two_169 : decode cX12_two 169 = .ok (.if_icmp .le 7, 3) := by decide +kernel
theorem dX12_two_172 : decode cX12_two 172 = .ok (.iconst 1, 1) := by decide +kernel
theorem dX12_two_173 : decode cX12_two 173 = .ok (.goto 4, 3) := by decide +kernel
theorem dX12_two_176 : decode cX12_two 176 = .ok (.iconst 0, 1) := by decide +kernel
theorem dX12_two_177 : decode cX12_two 177 = .ok (.ireturn, 1) := by decide +kernel
theorem dX12_two_178 : decode cX12_two 178 = .ok (.iload_n 1, 1) := by decide +kernel
theorem dX12_two_179 : decode cX12_two 179 = .ok (.iload_n 2, 1) := by decide +kernel
theorem dX12_two_180 : decode cX12_two 180 = .ok (.if_icmp .ne 7, 3) := by decide +kernel
theorem dX12_two_183 : decode cX12_two 183 = .ok (.iconst 1, 1) := by decide +kernel
theorem dX12_two_184 : decode cX12_two 184 = .ok (.goto 4, 3) := by decide +kernel
theorem dX12_two_187 : decode cX12_two 187 = .ok (.iconst 0, 1) := by decide +kernel
theorem dX12_two_188 : decode cX12_two 188 = .ok (.ireturn, 1) := by decide +kernel
theorem dX12_two_189 : decode cX12_two 189 = .ok (.iload_n 1, 1) := by decide +kernel
theorem dX12_two_190 : decode cX12_two 190 = .ok (.ifCond .eq 11, 3) := by decide +kernel
theorem dX12_two_193 : decode cX12_two 193 = .ok (.iload_n 2, 1) := by decide +kernel
theorem dX12_two_194 : decode cX12_two 194 = .ok (.ifCond .eq 7, 3) := by decide +kernel
theorem dX12_two_197 : decode cX12_two 197 = .ok (.iconst 1, 1) := by decide +kernel
theorem dX12_two_198 : decode cX12_two 198 = .ok (.goto 4, 3) := by decide +kernel
theorem dX12_two_201 : decode cX12_two 201 = .ok (.iconst 0, 1) := by decide +kernel
theorem dX12_two_202 : decode cX12_two 202 = .ok (.ireturn, 1) := by decide +kernel
theorem dX12_two_203 : decode cX12_two 203 = .ok (.iload_n 1, 1) := by decide +kernel
theorem dX12_two_204 : decode cX12_two 204 = .ok (.ifCond .ne 7, 3) := by decide +kernel
theorem dX12_two_207 : decode cX12_two 207 = .ok (.iload_n 2, 1) := by decide +kernel
theorem dX12_two_208 : decode cX12_two 208 = .ok (.ifCond .eq 7, 3) := by decide +kernel
theorem dX12_two_211 : decode cX12_two 211 = .ok (.iconst 1, 1) := by decide +kernel
theorem dX12_two_212 : decode cX12_two 212 = .ok (.goto 4, 3) := by decide +kernel
theorem dX12_two_215 : decode cX12_two 215 = .ok (.iconst 0, 1) := by decide +kernel
theorem dX12_two_216 : decode cX12_two 216 = .ok (.ireturn, 1) := by decide +kernel
abbrev mi_X12_two : MI := (zTM, RX12, yX12_two, cX12_two, 3, (some .int), 2)
theorem cal_X12_two : zCalS mi_X12_two 3 := ⟨⟨zTB_i8 69 (by decide +kernel), zTB_i8 68 (by decide +kernel), zTB_i1 13 (by decide +kernel)⟩, ⟨by decide, by decide, by decide +kernel⟩, by decide⟩
noncomputable def X12_two (x0 : Int32) (x1 : Int32) (x2 : Int32) : Int32 :=
  if x0 = 37 then
    if x2 = 0 then
      0
    else
    x1 % x2
  else
  if x0 = 38 then
    if x1 = 0 then
      0
    else
    if x2 = 0 then
      0
    else
    1
  else
  if x0 = 42 then
    x1 * x2
  else
  if x0 = 43 then
    x1 + x2
  else
  if x0 = 45 then
    x1 - x2
  else
  if x0 = 47 then
    if x2 = 0 then
      0
    else
    x1 / x2
  else
  if x0 = 60 then
    if x2 ≤ x1 then
      0
    else
    1
  else
  if x0 = 61 then
    if x1 = x2 then
      1
    else
    0
  else
  if x0 = 62 then
    if x1 ≤ x2 then
      0
    else
    1
  else
  if x1 = 0 then
    if x2 = 0 then
      0
    else
    1
  else
  1
set_option maxRecDepth 100000 in
set_option maxHeartbeats 4000000 in
theorem X12_two_ok (G : Gh) (x0 : Int32) (x1 : Int32) (x2 : Int32) (M : Mem) : Mt G mi_X12_two [.int x0, .int x1, .int x2] M ((dI M) (X12_two x0 x1 x2)) := by
  refine Mt_of (lv := [some (.int x0), some (.int x1), some (.int x2)]) (by decide) rfl (Nat.le_of_ble_eq_true rfl) rfl ?_
  unfold X12_two
  refine r_iload_n dX12_two_0 rfl ?_
  refine r_ite (fun h1 => ?_) (fun h1 => ?_)
  · refine r_tswIn (c := 37) (tgt := 144) dX12_two_1 h1 (by decide) (by decide) rfl rfl ?_
    refine r_iload_n dX12_two_144 rfl ?_
    refine r_if_ne (tgt := 152) dX12_two_145 rfl (fun h2 => ?_) (fun h2 => ?_)
    · refine r_iconst (x := 0) dX12_two_148 rfl ?_
      refine r_goto (tgt := 155) dX12_two_149 rfl ?_
      exact r_iret (ty := .int) dX12_two_155 rfl rfl rfl
    refine r_iload_n dX12_two_152 rfl ?_
    refine r_iload_n dX12_two_153 rfl ?_
    refine r_irem dX12_two_154 h2 ?_
    exact r_iret (ty := .int) dX12_two_155 rfl rfl rfl
  refine r_ite (fun h3 => ?_) (fun h3 => ?_)
  · refine r_tswIn (c := 38) (tgt := 189) dX12_two_1 h3 (by decide) (by decide) rfl rfl ?_
    refine r_iload_n dX12_two_189 rfl ?_
    refine r_if_eq (tgt := 201) dX12_two_190 rfl (fun h4 => ?_) (fun h4 => ?_)
    · refine r_iconst (x := 0) dX12_two_201 rfl ?_
      exact r_iret (ty := .int) dX12_two_202 rfl rfl rfl
    refine r_iload_n dX12_two_193 rfl ?_
    refine r_if_eq (tgt := 201) dX12_two_194 rfl (fun h5 => ?_) (fun h5 => ?_)
    · refine r_iconst (x := 0) dX12_two_201 rfl ?_
      exact r_iret (ty := .int) dX12_two_202 rfl rfl rfl
    refine r_iconst (x := 1) dX12_two_197 rfl ?_
    refine r_goto (tgt := 202) dX12_two_198 rfl ?_
    exact r_iret (ty := .int) dX12_two_202 rfl rfl rfl
  refine r_ite (fun h6 => ?_) (fun h6 => ?_)
  · refine r_tswIn (c := 42) (tgt := 128) dX12_two_1 h6 (by decide) (by decide) rfl rfl ?_
    refine r_iload_n dX12_two_128 rfl ?_
    refine r_iload_n dX12_two_129 rfl ?_
    refine r_imul dX12_two_130 ?_
    exact r_iret (ty := .int) dX12_two_131 rfl rfl rfl
  refine r_ite (fun h7 => ?_) (fun h7 => ?_)
  · refine r_tswIn (c := 43) (tgt := 120) dX12_two_1 h7 (by decide) (by decide) rfl rfl ?_
    refine r_iload_n dX12_two_120 rfl ?_
    refine r_iload_n dX12_two_121 rfl ?_
    refine r_iadd dX12_two_122 ?_
    exact r_iret (ty := .int) dX12_two_123 rfl rfl rfl
  refine r_ite (fun h8 => ?_) (fun h8 => ?_)
  · refine r_tswIn (c := 45) (tgt := 124) dX12_two_1 h8 (by decide) (by decide) rfl rfl ?_
    refine r_iload_n dX12_two_124 rfl ?_
    refine r_iload_n dX12_two_125 rfl ?_
    refine r_isub dX12_two_126 ?_
    exact r_iret (ty := .int) dX12_two_127 rfl rfl rfl
  refine r_ite (fun h9 => ?_) (fun h9 => ?_)
  · refine r_tswIn (c := 47) (tgt := 132) dX12_two_1 h9 (by decide) (by decide) rfl rfl ?_
    refine r_iload_n dX12_two_132 rfl ?_
    refine r_if_ne (tgt := 140) dX12_two_133 rfl (fun h10 => ?_) (fun h10 => ?_)
    · refine r_iconst (x := 0) dX12_two_136 rfl ?_
      refine r_goto (tgt := 143) dX12_two_137 rfl ?_
      exact r_iret (ty := .int) dX12_two_143 rfl rfl rfl
    refine r_iload_n dX12_two_140 rfl ?_
    refine r_iload_n dX12_two_141 rfl ?_
    refine r_idiv dX12_two_142 h10 ?_
    exact r_iret (ty := .int) dX12_two_143 rfl rfl rfl
  refine r_ite (fun h11 => ?_) (fun h11 => ?_)
  · refine r_tswIn (c := 60) (tgt := 156) dX12_two_1 h11 (by decide) (by decide) rfl rfl ?_
    refine r_iload_n dX12_two_156 rfl ?_
    refine r_iload_n dX12_two_157 rfl ?_
    refine r_icmp_ge (tgt := 165) dX12_two_158 rfl (fun h12 => ?_) (fun h12 => ?_)
    · refine r_iconst (x := 0) dX12_two_165 rfl ?_
      exact r_iret (ty := .int) dX12_two_166 rfl rfl rfl
    refine r_iconst (x := 1) dX12_two_161 rfl ?_
    refine r_goto (tgt := 166) dX12_two_162 rfl ?_
    exact r_iret (ty := .int) dX12_two_166 rfl rfl rfl
  refine r_ite (fun h13 => ?_) (fun h13 => ?_)
  · refine r_tswIn (c := 61) (tgt := 178) dX12_two_1 h13 (by decide) (by decide) rfl rfl ?_
    refine r_iload_n dX12_two_178 rfl ?_
    refine r_iload_n dX12_two_179 rfl ?_
    refine r_icmp_ne (tgt := 187) dX12_two_180 rfl (fun h14 => ?_) (fun h14 => ?_)
    · refine r_iconst (x := 1) dX12_two_183 rfl ?_
      refine r_goto (tgt := 188) dX12_two_184 rfl ?_
      exact r_iret (ty := .int) dX12_two_188 rfl rfl rfl
    refine r_iconst (x := 0) dX12_two_187 rfl ?_
    exact r_iret (ty := .int) dX12_two_188 rfl rfl rfl
  refine r_ite (fun h15 => ?_) (fun h15 => ?_)
  · refine r_tswIn (c := 62) (tgt := 167) dX12_two_1 h15 (by decide) (by decide) rfl rfl ?_
    refine r_iload_n dX12_two_167 rfl ?_
    refine r_iload_n dX12_two_168 rfl ?_
    refine r_icmp_le (tgt := 176) dX12_two_169 rfl (fun h16 => ?_) (fun h16 => ?_)
    · refine r_iconst (x := 0) dX12_two_176 rfl ?_
      exact r_iret (ty := .int) dX12_two_177 rfl rfl rfl
    refine r_iconst (x := 1) dX12_two_172 rfl ?_
    refine r_goto (tgt := 177) dX12_two_173 rfl ?_
    exact r_iret (ty := .int) dX12_two_177 rfl rfl rfl
  refine r_tswD (cs := [37, 38, 42, 43, 45, 47, 60, 61, 62]) (tgt := 203) dX12_two_1 (by decide) (fun c hc => by simp only [List.mem_cons, List.not_mem_nil, or_false] at hc; rcases hc with rfl | rfl | rfl | rfl | rfl | rfl | rfl | rfl | rfl <;> assumption) rfl ?_
  refine r_iload_n dX12_two_203 rfl ?_
  refine r_if_ne (tgt := 211) dX12_two_204 rfl (fun h17 => ?_) (fun h17 => ?_)
  · refine r_iload_n dX12_two_207 rfl ?_
    refine r_if_eq (tgt := 215) dX12_two_208 rfl (fun h18 => ?_) (fun h18 => ?_)
    · refine r_iconst (x := 0) dX12_two_215 rfl ?_
      exact r_iret (ty := .int) dX12_two_216 rfl rfl rfl
    refine r_iconst (x := 1) dX12_two_211 rfl ?_
    refine r_goto (tgt := 216) dX12_two_212 rfl ?_
    exact r_iret (ty := .int) dX12_two_216 rfl rfl rfl
  refine r_iconst (x := 1) dX12_two_211 rfl ?_
  refine r_goto (tgt := 216) dX12_two_212 rfl ?_
  exact r_iret (ty := .int) dX12_two_216 rfl rfl rfl

theorem dX12_comes_0 : decode cX12_comes 0 = .ok (.iconst 0, 1) := by decide +kernel
theorem dX12_comes_1 : decode cX12_comes 1 = .ok (.istore_n 1, 1) := by decide +kernel
theorem dX12_comes_2 : decode cX12_comes 2 = .ok (.aload_n 0, 1) := by decide +kernel
theorem dX12_comes_3 : decode cX12_comes 3 = .ok (.getfield 75, 3) := by decide +kernel
theorem dX12_comes_6 : decode cX12_comes 6 = .ok (.aload_n 0, 1) := by decide +kernel
theorem dX12_comes_7 : decode cX12_comes 7 = .ok (.getfield 301, 3) := by decide +kernel
theorem dX12_comes_10 : decode cX12_comes 10 = .ok (.iaload, 1) := by decide +kernel
theorem dX12_comes_11 : decode cX12_comes 11 = .ok (.istore_n 2, 1) := by decide +kernel
theorem dX12_comes_12 : decode cX12_comes 12 = .ok (.iload_n 2, 1) := by decide +kernel
theorem dX12_comes_13 : decode cX12_comes 13 = .ok (.aload_n 0, 1) := by decide +kernel
theorem dX12_comes_14 : decode cX12_comes 14 = .ok (.getfield 78, 3) := by decide +kernel
theorem dX12_comes_17 : decode cX12_comes 17 = .ok (.aload_n 0, 1) := by decide +kernel
theorem dX12_comes_18 : decode cX12_comes 18 = .ok (.getfield 301, 3) := by decide +kernel
theorem dX12_comes_21 : decode cX12_comes 21 = .ok (.iaload, 1) := by decide +kernel
theorem dX12_comes_22 : decode cX12_comes 22 = .ok (.if_icmp .ge 108, 3) := by decide +kernel
theorem dX12_comes_25 : decode cX12_comes 25 = .ok (.aload_n 0, 1) := by decide +kernel
theorem dX12_comes_26 : decode cX12_comes 26 = .ok (.getfield 98, 3) := by decide +kernel
theorem dX12_comes_29 : decode cX12_comes 29 = .ok (.iload_n 2, 1) := by decide +kernel
theorem dX12_comes_30 : decode cX12_comes 30 = .ok (.iaload, 1) := by decide +kernel
theorem dX12_comes_31 : decode cX12_comes 31 = .ok (.istore_n 3, 1) := by decide +kernel
theorem dX12_comes_32 : decode cX12_comes 32 = .ok (.iload_n 3, 1) := by decide +kernel
theorem dX12_comes_33 : decode cX12_comes 33 = .ok (.bipush 126, 2) := by decide +kernel
theorem dX12_comes_35 : decode cX12_comes 35 = .ok (.if_icmp .ne 30, 3) := by decide +kernel
theorem dX12_comes_38 : decode cX12_comes 38 = .ok (.aload_n 0, 1) := by decide +kernel
theorem dX12_comes_39 : decode cX12_comes 39 = .ok (.getfield 110, 3) := by decide +kernel
theorem dX12_comes_42 : decode cX12_comes 42 = .ok (.iload_n 1, 1) := by decide +kernel
theorem dX12_comes_43 : decode cX12_comes 43 = .ok (.iconst 1, 1) := by decide +kernel
theorem dX12_comes_44 : decode cX12_comes 44 = .ok (.isub, 1) := by decide +kernel
theorem dX12_comes_45 : decode cX12_comes 45 = .ok (.aload_n 0, 1) := by decide +kernel
theorem dX12_comes_46 : decode cX12_comes 46 = .ok (.getfield 110, 3) := by decide +kernel
theorem dX12_comes_49 : decode cX12_comes 49 = .ok (.iload_n 1, 1) := by decide +kernel
theorem dX12_comes_50 : decode cX12_comes 50 = .ok (.iconst 1, 1) := by decide +kernel
theorem dX12_comes_51 : decode cX12_comes 51 = .ok (.isub, 1) := by decide +kernel
theorem dX12_comes_52 : decode cX12_comes 52 = .ok (.iaload, 1) := by decide +kernel
theorem dX12_comes_53 : decode cX12_comes 53 = .ok (.ifCond .ne 7, 3) := by decide +kernel
theorem dX12_comes_56 : decode cX12_comes 56 = .ok (.iconst 1, 1) := by decide +kernel
theorem dX12_comes_57 : decode cX12_comes 57 = .ok (.goto 4, 3) := by decide +kernel
theorem dX12_comes_60 : decode cX12_comes 60 = .ok (.iconst 0, 1) := by decide +kernel
theorem dX12_comes_61 : decode cX12_comes 61 = .ok (.iastore, 1) := by decide +kernel
theorem dX12_comes_62 : decode cX12_comes 62 = .ok (.goto 62, 3) := by decide +kernel
theorem dX12_comes_65 : decode cX12_comes 65 = .ok (.iload_n 3, 1) := by decide +kernel
theorem dX12_comes_66 : decode cX12_comes 66 = .ok (.invokestatic 246, 3) := by decide +kernel
theorem dX12_comes_69 : decode cX12_comes 69 = .ok (.ifCond .eq 26, 3) := by decide +kernel
theorem dX12_comes_72 : decode cX12_comes 72 = .ok (.aload_n 0, 1) := by decide +kernel
theorem dX12_comes_73 : decode cX12_comes 73 = .ok (.getfield 110, 3) := by decide +kernel
theorem dX12_comes_76 : decode cX12_comes 76 = .ok (.iload_n 1, 1) := by decide +kernel
theorem dX12_comes_77 : decode cX12_comes 77 = .ok (.aload_n 0, 1) := by decide +kernel
theorem dX12_comes_78 : decode cX12_comes 78 = .ok (.iload_n 3, 1) := by decide +kernel
theorem dX12_comes_79 : decode cX12_comes 79 = .ok (.aload_n 0, 1) := by decide +kernel
theorem dX12_comes_80 : decode cX12_comes 80 = .ok (.getfield 101, 3) := by decide +kernel
theorem dX12_comes_83 : decode cX12_comes 83 = .ok (.iload_n 2, 1) := by decide +kernel
theorem dX12_comes_84 : decode cX12_comes 84 = .ok (.iaload, 1) := by decide +kernel
theorem dX12_comes_85 : decode cX12_comes 85 = .ok (.invokevirtual 391, 3) := by decide +kernel
theorem dX12_comes_88 : decode cX12_comes 88 = .ok (.iastore, 1) := by decide +kernel
theorem dX12_comes_89 : decode cX12_comes 89 = .ok (.iinc 1 1, 3) := by decide +kernel
theorem dX12_comes_92 : decode cX12_comes 92 = .ok (.goto 32, 3) := by decide +kernel
theorem dX12_comes_95 : decode cX12_comes 95 = .ok (.iinc 1 (-1), 3) := by decide +kernel
theorem dX12_comes_98 : decode cX12_comes 98 = .ok (.aload_n 0, 1) := by decide +kernel
theorem dX12_comes_99 : decode cX12_comes 99 = .ok (.getfield 110, 3) := by decide +kernel
theorem dX12_comes_102 : decode cX12_comes 102 = .ok (.iload_n 1, 1) := by decide +kernel
theorem dX12_comes_103 : decode cX12_comes 103 = .ok (.iconst 1, 1) := by decide +kernel
theorem dX12_comes_104 : decode cX12_comes 104 = .ok (.isub, 1) := by decide +kernel
theorem dX12_comes_105 : decode cX12_comes 105 = .ok (.iload_n 3, 1) := by decide +kernel
theorem dX12_comes_106 : decode cX12_comes 106 = .ok (.aload_n 0, 1) := by decide +kernel
theorem dX12_comes_107 : decode cX12_comes 107 = .ok (.getfield 110, 3) := by decide +kernel
theorem dX12_comes_110 : decode cX12_comes 110 = .ok (.iload_n 1, 1) := by decide +kernel
theorem dX12_comes_111 : decode cX12_comes 111 = .ok (.iconst 1, 1) := by decide +kernel
theorem dX12_comes_112 : decode cX12_comes 112 = .ok (.isub, 1) := by decide +kernel
theorem dX12_comes_113 : decode cX12_comes 113 = .ok (.iaload, 1) := by decide +kernel
theorem dX12_comes_114 : decode cX12_comes 114 = .ok (.aload_n 0, 1) := by decide +kernel
theorem dX12_comes_115 : decode cX12_comes 115 = .ok (.getfield 110, 3) := by decide +kernel
theorem dX12_comes_118 : decode cX12_comes 118 = .ok (.iload_n 1, 1) := by decide +kernel
theorem dX12_comes_119 : decode cX12_comes 119 = .ok (.iaload, 1) := by decide +kernel
theorem dX12_comes_120 : decode cX12_comes 120 = .ok (.invokestatic 394, 3) := by decide +kernel
theorem dX12_comes_123 : decode cX12_comes 123 = .ok (.iastore, 1) := by decide +kernel
theorem dX12_comes_124 : decode cX12_comes 124 = .ok (.iinc 2 1, 3) := by decide +kernel
theorem dX12_comes_127 : decode cX12_comes 127 = .ok (.goto (-115), 3) := by decide +kernel
theorem dX12_comes_130 : decode cX12_comes 130 = .ok (.aload_n 0, 1) := by decide +kernel
theorem dX12_comes_131 : decode cX12_comes 131 = .ok (.getfield 110, 3) := by decide +kernel
theorem dX12_comes_134 : decode cX12_comes 134 = .ok (.iconst 0, 1) := by decide +kernel
theorem dX12_comes_135 : decode cX12_comes 135 = .ok (.iaload, 1) := by decide +kernel
theorem dX12_comes_136 : decode cX12_comes 136 = .ok (.ireturn, 1) := by decide +kernel
abbrev mi_X12_comes : MI := (zTM, RX12, yX12_comes, cX12_comes, 4, (some .int), 4)
theorem cal_X12_comes : zCalV mi_X12_comes 0 := ⟨⟨zTB_i8 62 (by decide +kernel), zTB_i8 61 (by decide +kernel), zTB_i0 81 (by decide +kernel), zTB_i1 13 (by decide +kernel)⟩, ⟨by decide, by decide, by decide +kernel⟩, by decide⟩
noncomputable def X12_comes_L1 : Nat → Int32 → Int32 → Mem → Option (Mem)
  | 0, _, _, _ => none
  | n + 1, c1, c2, M =>
    gd_ (inb (M.1 0 41) (2) = true) (
    if (M.1 22 ((M.1 0 41).toNatClampNeg)) ≤ c2 then
      some M
    else
    gd_ (inb c2 (1120) = true) (
    lt_ (α := Int32) (M.1 28 c2.toNatClampNeg) fun y6 =>
    b2_ (α := Int32) (β := Mem) (
      if y6 = 126 then
        gd_ (inb (c1 - 1) (60) = true) (
        l1_ (α := Int32) (
          if (M.1 32 ((c1 - 1).toNatClampNeg)) = 0 then
            1
          else
          0) fun y18 =>
        lt_ (uI M 32 ((c1 - 1).toNatClampNeg) y18) fun M19 =>
        some (c1, M19))
      else
      if (X12_isLetter y6) = true then
        gd_ (inb c2 (1120) = true) (
        bo_ (X12_asked y6 (M.1 29 c2.toNatClampNeg) M) fun v13 =>
        gd_ (inb c1 (60) = true) (
        lt_ (uI M 32 c1.toNatClampNeg v13) fun M15 =>
        some (c1 + 1, M15)))
      else
      gd_ (inb ((c1 + (-1)) - 1) (60) = true) (
      gd_ (inb (c1 + (-1)) (60) = true) (
      lt_ (uI M 32 (((c1 + (-1)) - 1).toNatClampNeg) (X12_two y6 (M.1 32 (((c1 + (-1)) - 1).toNatClampNeg)) (M.1 32 ((c1 + (-1)).toNatClampNeg)))) fun M11 =>
      some (c1 + (-1), M11)))) fun y20 M21 =>
    X12_comes_L1 n y20 (c2 + 1) M21))
noncomputable def X12_comes (M : Mem) : Option (Int32 × Mem) :=
  gd_ (inb (M.1 0 41) (2) = true) (
  lt_ (α := Int32) (M.1 21 ((M.1 0 41).toNatClampNeg)) fun y2 =>
  b1_ (α := Mem) (X12_comes_L1 zFU 0 y2 M) fun M22 =>
  some (M22.1 32 0, M22))
set_option maxRecDepth 100000 in
set_option maxHeartbeats 4000000 in
theorem X12_comes_L1_ok (G : Gh) {dn : Option (Mem) → Option (Option Value × Mem)} (hs : dn none = none) (hx : ∀ (M22 : Mem), Wr G mi_X12_comes dn 130 [some (.ref (G.2.2.2 (0))), none, none, none] [] M22 (some M22)) : ∀ (n : Nat) (c1 : Int32) (c2 : Int32) (M : Mem), Wr G mi_X12_comes dn 12 [some (.ref (G.2.2.2 (0))), some (.int c1), some (.int c2), none] [] M (X12_comes_L1 n c1 c2 M) := by
  intro n
  induction n with
  | zero => intro c1 c2 M; exact r_none (by exact hs)
  | succ n ih =>
    intro c1 c2 M
    rw [X12_comes_L1]
    refine r_iload_n dX12_comes_12 rfl ?_
    refine r_aload_n dX12_comes_13 rfl ?_
    refine r_getf (v := .ref (G.2.2.2 (22))) dX12_comes_14 fM_0_30 kX12 (by decide) lkf_X12_78 rfl ?_
    refine r_aload_n dX12_comes_17 rfl ?_
    refine r_getf (v := .int (M.1 0 41)) dX12_comes_18 fM_0_41 kX12 (by decide) lkf_X12_301 rfl ?_
    refine r_gd (by exact hs) (fun g3 => ?_)
    refine r_iald dX12_comes_21 aM_22 (inb_in g3) rfl ?_
    refine r_icmp_ge (tgt := 130) dX12_comes_22 rfl (fun h4 => ?_) (fun h4 => ?_)
    · exact r_lk (hx M) (And.intro rfl True.intro)
    refine r_aload_n dX12_comes_25 rfl ?_
    refine r_getf (v := .ref (G.2.2.2 (28))) dX12_comes_26 fM_0_36 kX12 (by decide) lkf_X12_98 rfl ?_
    refine r_iload_n dX12_comes_29 rfl ?_
    refine r_gd (by exact hs) (fun g5 => ?_)
    refine r_iald dX12_comes_30 aM_28 (inb_in g5) rfl ?_
    refine r_letI (fun y6 => ?_)
    refine r_istore_n (lv' := [some (.ref (G.2.2.2 (0))), some (.int c1), some (.int c2), some (.int y6)]) dX12_comes_31 (Nat.le_of_ble_eq_true rfl) rfl rfl ?_
    refine r_iload_n dX12_comes_32 rfl ?_
    refine r_bipush (x := 126) dX12_comes_33 rfl ?_
    refine r_jB2 (j := 124) (lvj := fun y20 M21 => [some (.ref (G.2.2.2 (0))), some (.int y20), some (.int c2), none]) (stj := fun y20 M21 => []) (Mj := fun y20 M21 => M21) (fun y20 M21 => ?_) (fun hj124 => ?_)
    · refine r_iinc (y := c2 + 1) (lv' := [some (.ref (G.2.2.2 (0))), some (.int y20), some (.int (c2 + 1)), none]) dX12_comes_124 rfl rfl (Nat.le_of_ble_eq_true rfl) rfl rfl ?_
      refine r_goto (tgt := 12) dX12_comes_127 rfl ?_
      exact r_lk (ih y20 (c2 + 1) M21) (And.intro rfl (And.intro rfl (And.intro rfl True.intro)))
    refine r_icmp_ne (tgt := 65) dX12_comes_35 rfl (fun h7 => ?_) (fun h7 => ?_)
    · refine r_aload_n dX12_comes_38 rfl ?_
      refine r_getf (v := .ref (G.2.2.2 (32))) dX12_comes_39 fM_0_40 kX12 (by decide) lkf_X12_110 rfl ?_
      refine r_iload_n dX12_comes_42 rfl ?_
      refine r_iconst (x := 1) dX12_comes_43 rfl ?_
      refine r_isub dX12_comes_44 ?_
      refine r_aload_n dX12_comes_45 rfl ?_
      refine r_getf (v := .ref (G.2.2.2 (32))) dX12_comes_46 fM_0_40 kX12 (by decide) lkf_X12_110 rfl ?_
      refine r_iload_n dX12_comes_49 rfl ?_
      refine r_iconst (x := 1) dX12_comes_50 rfl ?_
      refine r_isub dX12_comes_51 ?_
      refine r_gd (by exact hs) (fun g16 => ?_)
      refine r_iald dX12_comes_52 aM_32 (inb_in g16) rfl ?_
      refine r_jL1 (j := 61) (lvj := fun y18 => [some (.ref (G.2.2.2 (0))), some (.int c1), some (.int c2), none]) (stj := fun y18 => [.int y18, .int (c1 - 1), .ref (G.2.2.2 (32))]) (Mj := fun y18 => M) (fun y18 => ?_) (fun hj61 => ?_)
      · refine r_iast dX12_comes_61 aM_32 (inb_in g16) rfl (fun M19 => ?_)
        refine r_goto (tgt := 124) dX12_comes_62 rfl ?_
        exact r_lk (hj124 c1 M19) (And.intro rfl (And.intro rfl (And.intro rfl True.intro)))
      refine r_if_ne (tgt := 60) dX12_comes_53 rfl (fun h17 => ?_) (fun h17 => ?_)
      · refine r_iconst (x := 1) dX12_comes_56 rfl ?_
        refine r_goto (tgt := 61) dX12_comes_57 rfl ?_
        exact r_lk (hj61 1) (And.intro rfl (And.intro rfl (And.intro rfl True.intro)))
      refine r_iconst (x := 0) dX12_comes_60 rfl ?_
      exact r_lk (hj61 0) (And.intro rfl (And.intro rfl (And.intro rfl True.intro)))
    refine r_iload_n dX12_comes_65 rfl ?_
    refine c_Z (inv_S (mi := mi_X12_comes) (rest := []) (X12_isLetter_ok G y6 M) rfl (by decide) dX12_comes_66 lkm_X12_246 cal_X12_isLetter rfl (Nat.le_of_ble_eq_true rfl) rfl) ?_
    refine r_ifz_eq (tgt := 95) dX12_comes_69 rfl (fun h8 => ?_) (fun h8 => ?_)
    · refine r_aload_n dX12_comes_72 rfl ?_
      refine r_getf (v := .ref (G.2.2.2 (32))) dX12_comes_73 fM_0_40 kX12 (by decide) lkf_X12_110 rfl ?_
      refine r_iload_n dX12_comes_76 rfl ?_
      refine r_aload_n dX12_comes_77 rfl ?_
      refine r_iload_n dX12_comes_78 rfl ?_
      refine r_aload_n dX12_comes_79 rfl ?_
      refine r_getf (v := .ref (G.2.2.2 (29))) dX12_comes_80 fM_0_37 kX12 (by decide) lkf_X12_101 rfl ?_
      refine r_iload_n dX12_comes_83 rfl ?_
      refine r_gd (by exact hs) (fun g12 => ?_)
      refine r_iald dX12_comes_84 aM_29 (inb_in g12) rfl ?_
      refine c_OI (by exact hs) (inv_V (mi := mi_X12_comes) (b := 0) (rest := [.int c1, .ref (G.2.2.2 (32))]) (X12_asked_ok G y6 (M.1 29 c2.toNatClampNeg) M) rfl (by decide) dX12_comes_85 lkm_X12_391 cal_X12_asked cM_0 rfl rfl (Nat.le_of_ble_eq_true rfl) rfl) (fun v13 => ?_)
      refine r_gd (by exact hs) (fun g14 => ?_)
      refine r_iast dX12_comes_88 aM_32 (inb_in g14) rfl (fun M15 => ?_)
      refine r_iinc (y := c1 + 1) (lv' := [some (.ref (G.2.2.2 (0))), some (.int (c1 + 1)), some (.int c2), some (.int y6)]) dX12_comes_89 rfl rfl (Nat.le_of_ble_eq_true rfl) rfl rfl ?_
      refine r_goto (tgt := 124) dX12_comes_92 rfl ?_
      exact r_lk (hj124 (c1 + 1) M15) (And.intro rfl (And.intro rfl (And.intro rfl True.intro)))
    refine r_iinc (y := c1 + (-1)) (lv' := [some (.ref (G.2.2.2 (0))), some (.int (c1 + (-1))), some (.int c2), some (.int y6)]) dX12_comes_95 rfl rfl (Nat.le_of_ble_eq_true rfl) rfl rfl ?_
    refine r_aload_n dX12_comes_98 rfl ?_
    refine r_getf (v := .ref (G.2.2.2 (32))) dX12_comes_99 fM_0_40 kX12 (by decide) lkf_X12_110 rfl ?_
    refine r_iload_n dX12_comes_102 rfl ?_
    refine r_iconst (x := 1) dX12_comes_103 rfl ?_
    refine r_isub dX12_comes_104 ?_
    refine r_iload_n dX12_comes_105 rfl ?_
    refine r_aload_n dX12_comes_106 rfl ?_
    refine r_getf (v := .ref (G.2.2.2 (32))) dX12_comes_107 fM_0_40 kX12 (by decide) lkf_X12_110 rfl ?_
    refine r_iload_n dX12_comes_110 rfl ?_
    refine r_iconst (x := 1) dX12_comes_111 rfl ?_
    refine r_isub dX12_comes_112 ?_
    refine r_gd (by exact hs) (fun g9 => ?_)
    refine r_iald dX12_comes_113 aM_32 (inb_in g9) rfl ?_
    refine r_aload_n dX12_comes_114 rfl ?_
    refine r_getf (v := .ref (G.2.2.2 (32))) dX12_comes_115 fM_0_40 kX12 (by decide) lkf_X12_110 rfl ?_
    refine r_iload_n dX12_comes_118 rfl ?_
    refine r_gd (by exact hs) (fun g10 => ?_)
    refine r_iald dX12_comes_119 aM_32 (inb_in g10) rfl ?_
    refine c_I (inv_S (mi := mi_X12_comes) (rest := [.int ((c1 + (-1)) - 1), .ref (G.2.2.2 (32))]) (X12_two_ok G y6 (M.1 32 (((c1 + (-1)) - 1).toNatClampNeg)) (M.1 32 ((c1 + (-1)).toNatClampNeg)) M) rfl (by decide) dX12_comes_120 lkm_X12_394 cal_X12_two rfl (Nat.le_of_ble_eq_true rfl) rfl) ?_
    refine r_iast dX12_comes_123 aM_32 (inb_in g9) rfl (fun M11 => ?_)
    exact r_lk (hj124 (c1 + (-1)) M11) (And.intro rfl (And.intro rfl (And.intro rfl True.intro)))
set_option maxRecDepth 100000 in
set_option maxHeartbeats 4000000 in
theorem X12_comes_ok (G : Gh) (M : Mem) : Mt G mi_X12_comes [.ref (G.2.2.2 (0))] M ((dO dIM) (X12_comes M)) := by
  refine Mt_of (lv := [some (.ref (G.2.2.2 (0)))]) (by decide) rfl (Nat.le_of_ble_eq_true rfl) rfl ?_
  refine r_le (lv' := [some (.ref (G.2.2.2 (0))), none, none, none]) (And.intro rfl True.intro) ?_
  unfold X12_comes
  refine r_iconst (x := 0) dX12_comes_0 rfl ?_
  refine r_istore_n (lv' := [some (.ref (G.2.2.2 (0))), some (.int 0), none, none]) dX12_comes_1 (Nat.le_of_ble_eq_true rfl) rfl rfl ?_
  refine r_aload_n dX12_comes_2 rfl ?_
  refine r_getf (v := .ref (G.2.2.2 (21))) dX12_comes_3 fM_0_29 kX12 (by decide) lkf_X12_75 rfl ?_
  refine r_aload_n dX12_comes_6 rfl ?_
  refine r_getf (v := .int (M.1 0 41)) dX12_comes_7 fM_0_41 kX12 (by decide) lkf_X12_301 rfl ?_
  refine r_gd rfl (fun g1 => ?_)
  refine r_iald dX12_comes_10 aM_21 (inb_in g1) rfl ?_
  refine r_letI (fun y2 => ?_)
  refine r_istore_n (lv' := [some (.ref (G.2.2.2 (0))), some (.int 0), some (.int y2), none]) dX12_comes_11 (Nat.le_of_ble_eq_true rfl) rfl rfl ?_
  refine r_jB1 (j := 130) (lvj := fun M22 => [some (.ref (G.2.2.2 (0))), none, none, none]) (stj := fun M22 => []) (Mj := fun M22 => M22) (fun M22 => ?_) (fun hj130 => ?_)
  · refine r_aload_n dX12_comes_130 rfl ?_
    refine r_getf (v := .ref (G.2.2.2 (32))) dX12_comes_131 fM_0_40 kX12 (by decide) lkf_X12_110 rfl ?_
    refine r_iconst (x := 0) dX12_comes_134 rfl ?_
    refine r_iald dX12_comes_135 aM_32 (inb_in (i := 0) (n := 60) rfl) (m := 0) rfl ?_
    exact r_iret (ty := .int) dX12_comes_136 rfl rfl rfl
  exact r_lk (X12_comes_L1_ok G rfl hj130 zFU 0 y2 M) (And.intro rfl (And.intro rfl (And.intro rfl True.intro)))

theorem dX12_growthOf_0 : decode cX12_growthOf 0 = .ok (.iconst 0, 1) := by decide +kernel
theorem dX12_growthOf_1 : decode cX12_growthOf 1 = .ok (.istore_n 2, 1) := by decide +kernel
theorem dX12_growthOf_2 : decode cX12_growthOf 2 = .ok (.iconst 0, 1) := by decide +kernel
theorem dX12_growthOf_3 : decode cX12_growthOf 3 = .ok (.istore_n 3, 1) := by decide +kernel
theorem dX12_growthOf_4 : decode cX12_growthOf 4 = .ok (.iload_n 3, 1) := by decide +kernel
theorem dX12_growthOf_5 : decode cX12_growthOf 5 = .ok (.iconst 3, 1) := by decide +kernel
theorem dX12_growthOf_6 : decode cX12_growthOf 6 = .ok (.if_icmp .ge 18, 3) := by decide +kernel
theorem dX12_growthOf_9 : decode cX12_growthOf 9 = .ok (.iload_n 2, 1) := by decide +kernel
theorem dX12_growthOf_10 : decode cX12_growthOf 10 = .ok (.aload_n 0, 1) := by decide +kernel
theorem dX12_growthOf_11 : decode cX12_growthOf 11 = .ok (.iload_n 1, 1) := by decide +kernel
theorem dX12_growthOf_12 : decode cX12_growthOf 12 = .ok (.iload_n 3, 1) := by decide +kernel
theorem dX12_growthOf_13 : decode cX12_growthOf 13 = .ok (.invokevirtual 388, 3) := by decide +kernel
theorem dX12_growthOf_16 : decode cX12_growthOf 16 = .ok (.iadd, 1) := by decide +kernel
theorem dX12_growthOf_17 : decode cX12_growthOf 17 = .ok (.istore_n 2, 1) := by decide +kernel
theorem dX12_growthOf_18 : decode cX12_growthOf 18 = .ok (.iinc 3 1, 3) := by decide +kernel
theorem dX12_growthOf_21 : decode cX12_growthOf 21 = .ok (.goto (-17), 3) := by decide +kernel
theorem dX12_growthOf_24 : decode cX12_growthOf 24 = .ok (.aload_n 0, 1) := by decide +kernel
theorem dX12_growthOf_25 : decode cX12_growthOf 25 = .ok (.getfield 81, 3) := by decide +kernel
theorem dX12_growthOf_28 : decode cX12_growthOf 28 = .ok (.aload_n 0, 1) := by decide +kernel
theorem dX12_growthOf_29 : decode cX12_growthOf 29 = .ok (.getfield 301, 3) := by decide +kernel
theorem dX12_growthOf_32 : decode cX12_growthOf 32 = .ok (.baload, 1) := by decide +kernel
theorem dX12_growthOf_33 : decode cX12_growthOf 33 = .ok (.ifCond .eq 13, 3) := by decide +kernel
theorem dX12_growthOf_36 : decode cX12_growthOf 36 = .ok (.aload_n 0, 1) := by decide +kernel
theorem dX12_growthOf_37 : decode cX12_growthOf 37 = .ok (.iload_n 1, 1) := by decide +kernel
theorem dX12_growthOf_38 : decode cX12_growthOf 38 = .ok (.putfield 385, 3) := by decide +kernel
theorem dX12_growthOf_41 : decode cX12_growthOf 41 = .ok (.aload_n 0, 1) := by decide +kernel
theorem dX12_growthOf_42 : decode cX12_growthOf 42 = .ok (.invokevirtual 417, 3) := by decide +kernel
theorem dX12_growthOf_45 : decode cX12_growthOf 45 = .ok (.istore_n 2, 1) := by decide +kernel
theorem dX12_growthOf_46 : decode cX12_growthOf 46 = .ok (.iload_n 2, 1) := by decide +kernel
theorem dX12_growthOf_47 : decode cX12_growthOf 47 = .ok (.bipush 20, 2) := by decide +kernel
theorem dX12_growthOf_49 : decode cX12_growthOf 49 = .ok (.if_icmp .le 8, 3) := by decide +kernel
theorem dX12_growthOf_52 : decode cX12_growthOf 52 = .ok (.bipush 20, 2) := by decide +kernel
theorem dX12_growthOf_54 : decode cX12_growthOf 54 = .ok (.goto 15, 3) := by decide +kernel
theorem dX12_growthOf_57 : decode cX12_growthOf 57 = .ok (.iload_n 2, 1) := by decide +kernel
theorem dX12_growthOf_58 : decode cX12_growthOf 58 = .ok (.bipush (-20), 2) := by decide +kernel
theorem dX12_growthOf_60 : decode cX12_growthOf 60 = .ok (.if_icmp .ge 8, 3) := by decide +kernel
theorem dX12_growthOf_63 : decode cX12_growthOf 63 = .ok (.bipush (-20), 2) := by decide +kernel
theorem dX12_growthOf_65 : decode cX12_growthOf 65 = .ok (.goto 4, 3) := by decide +kernel
theorem dX12_growthOf_68 : decode cX12_growthOf 68 = .ok (.iload_n 2, 1) := by decide +kernel
theorem dX12_growthOf_69 : decode cX12_growthOf 69 = .ok (.ireturn, 1) := by decide +kernel
abbrev mi_X12_growthOf : MI := (zTM, RX12, yX12_growthOf, cX12_growthOf, 4, (some .int), 5)
theorem cal_X12_growthOf : zCalV mi_X12_growthOf 1 := ⟨⟨zTB_i8 54 (by decide +kernel), zTB_i8 53 (by decide +kernel), zTB_i0 79 (by decide +kernel), zTB_i1 13 (by decide +kernel)⟩, ⟨by decide, by decide, by decide +kernel⟩, by decide⟩
noncomputable def X12_growthOf_L1 (x1 : Int32) (M : Mem) : Nat → Int32 → Int32 → Option (Int32)
  | 0, _, _ => none
  | n + 1, c2, c3 =>
    if 3 ≤ c3 then
      some c2
    else
    bo_ (X12_overOf x1 c3 M) fun v2 =>
    X12_growthOf_L1 x1 M n (c2 + v2) (c3 + 1)
noncomputable def X12_growthOf (x1 : Int32) (M : Mem) : Option (Int32 × Mem) :=
  b1_ (α := Int32) (X12_growthOf_L1 x1 M zFU 0 0) fun e3 =>
  gd_ (inb (M.1 0 41) (2) = true) (
  b2_ (α := Int32) (β := Mem) (
    if (M.1 23 ((M.1 0 41).toNatClampNeg)) = 0 then
      some (e3, M)
    else
    lt_ (uI M 0 47 x1) fun M6 =>
    bp_ (X12_comes M6) fun v7 M8 =>
    some (v7, M8)) fun y9 M10 =>
  if y9 ≤ 20 then
    if (-20) ≤ y9 then
      some (y9, M10)
    else
    some ((-20), M10)
  else
  some (20, M10))
set_option maxRecDepth 100000 in
set_option maxHeartbeats 4000000 in
theorem X12_growthOf_L1_ok (G : Gh) (x1 : Int32) (M : Mem) {dn : Option (Int32) → Option (Option Value × Mem)} (hs : dn none = none) (hx : ∀ (e3 : Int32), Wr G mi_X12_growthOf dn 24 [some (.ref (G.2.2.2 (0))), some (.int x1), some (.int e3), none] [] M (some e3)) : ∀ (n : Nat) (c2 : Int32) (c3 : Int32), Wr G mi_X12_growthOf dn 4 [some (.ref (G.2.2.2 (0))), some (.int x1), some (.int c2), some (.int c3)] [] M (X12_growthOf_L1 x1 M n c2 c3) := by
  intro n
  induction n with
  | zero => intro c2 c3; exact r_none (by exact hs)
  | succ n ih =>
    intro c2 c3
    rw [X12_growthOf_L1]
    refine r_iload_n dX12_growthOf_4 rfl ?_
    refine r_iconst (x := 3) dX12_growthOf_5 rfl ?_
    refine r_icmp_ge (tgt := 24) dX12_growthOf_6 rfl (fun h1 => ?_) (fun h1 => ?_)
    · exact r_lk (hx c2) (And.intro rfl (And.intro rfl (And.intro rfl True.intro)))
    refine r_iload_n dX12_growthOf_9 rfl ?_
    refine r_aload_n dX12_growthOf_10 rfl ?_
    refine r_iload_n dX12_growthOf_11 rfl ?_
    refine r_iload_n dX12_growthOf_12 rfl ?_
    refine c_OI (by exact hs) (inv_V (mi := mi_X12_growthOf) (b := 0) (rest := [.int c2]) (X12_overOf_ok G x1 c3 M) rfl (by decide) dX12_growthOf_13 lkm_X12_388 cal_X12_overOf cM_0 rfl rfl (Nat.le_of_ble_eq_true rfl) rfl) (fun v2 => ?_)
    refine r_iadd dX12_growthOf_16 ?_
    refine r_istore_n (lv' := [some (.ref (G.2.2.2 (0))), some (.int x1), some (.int (c2 + v2)), some (.int c3)]) dX12_growthOf_17 (Nat.le_of_ble_eq_true rfl) rfl rfl ?_
    refine r_iinc (y := c3 + 1) (lv' := [some (.ref (G.2.2.2 (0))), some (.int x1), some (.int (c2 + v2)), some (.int (c3 + 1))]) dX12_growthOf_18 rfl rfl (Nat.le_of_ble_eq_true rfl) rfl rfl ?_
    refine r_goto (tgt := 4) dX12_growthOf_21 rfl ?_
    exact r_lk (ih (c2 + v2) (c3 + 1)) (And.intro rfl (And.intro rfl (And.intro rfl (And.intro rfl True.intro))))
set_option maxRecDepth 100000 in
set_option maxHeartbeats 4000000 in
theorem X12_growthOf_ok (G : Gh) (x1 : Int32) (M : Mem) : Mt G mi_X12_growthOf [.ref (G.2.2.2 (0)), .int x1] M ((dO dIM) (X12_growthOf x1 M)) := by
  refine Mt_of (lv := [some (.ref (G.2.2.2 (0))), some (.int x1)]) (by decide) rfl (Nat.le_of_ble_eq_true rfl) rfl ?_
  refine r_le (lv' := [some (.ref (G.2.2.2 (0))), some (.int x1), none, none]) (And.intro rfl (And.intro rfl True.intro)) ?_
  unfold X12_growthOf
  refine r_iconst (x := 0) dX12_growthOf_0 rfl ?_
  refine r_istore_n (lv' := [some (.ref (G.2.2.2 (0))), some (.int x1), some (.int 0), none]) dX12_growthOf_1 (Nat.le_of_ble_eq_true rfl) rfl rfl ?_
  refine r_iconst (x := 0) dX12_growthOf_2 rfl ?_
  refine r_istore_n (lv' := [some (.ref (G.2.2.2 (0))), some (.int x1), some (.int 0), some (.int 0)]) dX12_growthOf_3 (Nat.le_of_ble_eq_true rfl) rfl rfl ?_
  refine r_jB1 (j := 24) (lvj := fun e3 => [some (.ref (G.2.2.2 (0))), some (.int x1), some (.int e3), none]) (stj := fun e3 => []) (Mj := fun e3 => M) (fun e3 => ?_) (fun hj24 => ?_)
  · refine r_aload_n dX12_growthOf_24 rfl ?_
    refine r_getf (v := .ref (G.2.2.2 (23))) dX12_growthOf_25 fM_0_31 kX12 (by decide) lkf_X12_81 rfl ?_
    refine r_aload_n dX12_growthOf_28 rfl ?_
    refine r_getf (v := .int (M.1 0 41)) dX12_growthOf_29 fM_0_41 kX12 (by decide) lkf_X12_301 rfl ?_
    refine r_gd rfl (fun g4 => ?_)
    refine r_zald dX12_growthOf_32 aM_23 (inb_in g4) rfl ?_
    refine r_jB2 (j := 46) (lvj := fun y9 M10 => [none, none, some (.int y9), none]) (stj := fun y9 M10 => []) (Mj := fun y9 M10 => M10) (fun y9 M10 => ?_) (fun hj46 => ?_)
    · refine r_iload_n dX12_growthOf_46 rfl ?_
      refine r_bipush (x := 20) dX12_growthOf_47 rfl ?_
      refine r_icmp_le (tgt := 57) dX12_growthOf_49 rfl (fun h11 => ?_) (fun h11 => ?_)
      · refine r_iload_n dX12_growthOf_57 rfl ?_
        refine r_bipush (x := (-20)) dX12_growthOf_58 rfl ?_
        refine r_icmp_ge (tgt := 68) dX12_growthOf_60 rfl (fun h12 => ?_) (fun h12 => ?_)
        · refine r_iload_n dX12_growthOf_68 rfl ?_
          exact r_iret (ty := .int) dX12_growthOf_69 rfl rfl rfl
        refine r_bipush (x := (-20)) dX12_growthOf_63 rfl ?_
        refine r_goto (tgt := 69) dX12_growthOf_65 rfl ?_
        exact r_iret (ty := .int) dX12_growthOf_69 rfl rfl rfl
      refine r_bipush (x := 20) dX12_growthOf_52 rfl ?_
      refine r_goto (tgt := 69) dX12_growthOf_54 rfl ?_
      exact r_iret (ty := .int) dX12_growthOf_69 rfl rfl rfl
    refine r_if_eq (tgt := 46) dX12_growthOf_33 rfl (fun h5 => ?_) (fun h5 => ?_)
    · exact r_lk (hj46 e3 M) (And.intro rfl True.intro)
    refine r_aload_n dX12_growthOf_36 rfl ?_
    refine r_iload_n dX12_growthOf_37 rfl ?_
    refine r_putI dX12_growthOf_38 fM_0_47 kX12 (by decide) rfl rfl lkf_X12_385 (fun _ => rfl) rfl rfl (fun M6 => ?_)
    refine r_aload_n dX12_growthOf_41 rfl ?_
    refine c_OIM rfl (inv_V (mi := mi_X12_growthOf) (b := 0) (rest := []) (X12_comes_ok G M6) rfl (by decide) dX12_growthOf_42 lkm_X12_417 cal_X12_comes cM_0 rfl rfl (Nat.le_of_ble_eq_true rfl) rfl) (fun v7 M8 => ?_)
    refine r_istore_n (lv' := [some (.ref (G.2.2.2 (0))), some (.int x1), some (.int v7), none]) dX12_growthOf_45 (Nat.le_of_ble_eq_true rfl) rfl rfl ?_
    exact r_lk (hj46 v7 M8) (And.intro rfl True.intro)
  exact r_lk (X12_growthOf_L1_ok G x1 M rfl hj24 zFU 0 0) (And.intro rfl (And.intro rfl (And.intro rfl (And.intro rfl True.intro))))

theorem dX12_sumOf_0 : decode cX12_sumOf 0 = .ok (.aload_n 0, 1) := by decide +kernel
theorem dX12_sumOf_1 : decode cX12_sumOf 1 = .ok (.getfield 113, 3) := by decide +kernel
theorem dX12_sumOf_4 : decode cX12_sumOf 4 = .ok (.iload_n 1, 1) := by decide +kernel
theorem dX12_sumOf_5 : decode cX12_sumOf 5 = .ok (.iconst 3, 1) := by decide +kernel
theorem dX12_sumOf_6 : decode cX12_sumOf 6 = .ok (.iload_n 2, 1) := by decide +kernel
theorem dX12_sumOf_7 : decode cX12_sumOf 7 = .ok (.imul, 1) := by decide +kernel
theorem dX12_sumOf_8 : decode cX12_sumOf 8 = .ok (.iadd, 1) := by decide +kernel
theorem dX12_sumOf_9 : decode cX12_sumOf 9 = .ok (.iaload, 1) := by decide +kernel
theorem dX12_sumOf_10 : decode cX12_sumOf 10 = .ok (.aload_n 0, 1) := by decide +kernel
theorem dX12_sumOf_11 : decode cX12_sumOf 11 = .ok (.getfield 113, 3) := by decide +kernel
theorem dX12_sumOf_14 : decode cX12_sumOf 14 = .ok (.iload_n 1, 1) := by decide +kernel
theorem dX12_sumOf_15 : decode cX12_sumOf 15 = .ok (.iconst 3, 1) := by decide +kernel
theorem dX12_sumOf_16 : decode cX12_sumOf 16 = .ok (.iload_n 2, 1) := by decide +kernel
theorem dX12_sumOf_17 : decode cX12_sumOf 17 = .ok (.imul, 1) := by decide +kernel
theorem dX12_sumOf_18 : decode cX12_sumOf 18 = .ok (.iadd, 1) := by decide +kernel
theorem dX12_sumOf_19 : decode cX12_sumOf 19 = .ok (.iconst 1, 1) := by decide +kernel
theorem dX12_sumOf_20 : decode cX12_sumOf 20 = .ok (.iadd, 1) := by decide +kernel
theorem dX12_sumOf_21 : decode cX12_sumOf 21 = .ok (.iaload, 1) := by decide +kernel
theorem dX12_sumOf_22 : decode cX12_sumOf 22 = .ok (.iadd, 1) := by decide +kernel
theorem dX12_sumOf_23 : decode cX12_sumOf 23 = .ok (.aload_n 0, 1) := by decide +kernel
theorem dX12_sumOf_24 : decode cX12_sumOf 24 = .ok (.getfield 113, 3) := by decide +kernel
theorem dX12_sumOf_27 : decode cX12_sumOf 27 = .ok (.iload_n 1, 1) := by decide +kernel
theorem dX12_sumOf_28 : decode cX12_sumOf 28 = .ok (.iconst 3, 1) := by decide +kernel
theorem dX12_sumOf_29 : decode cX12_sumOf 29 = .ok (.iload_n 2, 1) := by decide +kernel
theorem dX12_sumOf_30 : decode cX12_sumOf 30 = .ok (.imul, 1) := by decide +kernel
theorem dX12_sumOf_31 : decode cX12_sumOf 31 = .ok (.iadd, 1) := by decide +kernel
theorem dX12_sumOf_32 : decode cX12_sumOf 32 = .ok (.iconst 2, 1) := by decide +kernel
theorem dX12_sumOf_33 : decode cX12_sumOf 33 = .ok (.iadd, 1) := by decide +kernel
theorem dX12_sumOf_34 : decode cX12_sumOf 34 = .ok (.iaload, 1) := by decide +kernel
theorem dX12_sumOf_35 : decode cX12_sumOf 35 = .ok (.iadd, 1) := by decide +kernel
theorem dX12_sumOf_36 : decode cX12_sumOf 36 = .ok (.ireturn, 1) := by decide +kernel
abbrev mi_X12_sumOf : MI := (zTM, RX12, yX12_sumOf, cX12_sumOf, 3, (some .int), 2)
theorem cal_X12_sumOf : zCalV mi_X12_sumOf 2 := ⟨⟨zTB_i8 73 (by decide +kernel), zTB_i8 72 (by decide +kernel), zTB_i0 83 (by decide +kernel), zTB_i1 13 (by decide +kernel)⟩, ⟨by decide, by decide, by decide +kernel⟩, by decide⟩
noncomputable def X12_sumOf (x1 : Int32) (x2 : Int32) (M : Mem) : Option (Int32) :=
  gd_ (inb (x1 + (3 * x2)) (42) = true) (
  gd_ (inb ((x1 + (3 * x2)) + 1) (42) = true) (
  gd_ (inb ((x1 + (3 * x2)) + 2) (42) = true) (
  some (((M.1 33 ((x1 + (3 * x2)).toNatClampNeg)) + (M.1 33 (((x1 + (3 * x2)) + 1).toNatClampNeg))) + (M.1 33 (((x1 + (3 * x2)) + 2).toNatClampNeg))))))
set_option maxRecDepth 100000 in
set_option maxHeartbeats 4000000 in
theorem X12_sumOf_ok (G : Gh) (x1 : Int32) (x2 : Int32) (M : Mem) : Mt G mi_X12_sumOf [.ref (G.2.2.2 (0)), .int x1, .int x2] M ((dO (dI M)) (X12_sumOf x1 x2 M)) := by
  refine Mt_of (lv := [some (.ref (G.2.2.2 (0))), some (.int x1), some (.int x2)]) (by decide) rfl (Nat.le_of_ble_eq_true rfl) rfl ?_
  unfold X12_sumOf
  refine r_aload_n dX12_sumOf_0 rfl ?_
  refine r_getf (v := .ref (G.2.2.2 (33))) dX12_sumOf_1 fM_0_48 kX12 (by decide) lkf_X12_113 rfl ?_
  refine r_iload_n dX12_sumOf_4 rfl ?_
  refine r_iconst (x := 3) dX12_sumOf_5 rfl ?_
  refine r_iload_n dX12_sumOf_6 rfl ?_
  refine r_imul dX12_sumOf_7 ?_
  refine r_iadd dX12_sumOf_8 ?_
  refine r_gd rfl (fun g1 => ?_)
  refine r_iald dX12_sumOf_9 aM_33 (inb_in g1) rfl ?_
  refine r_aload_n dX12_sumOf_10 rfl ?_
  refine r_getf (v := .ref (G.2.2.2 (33))) dX12_sumOf_11 fM_0_48 kX12 (by decide) lkf_X12_113 rfl ?_
  refine r_iload_n dX12_sumOf_14 rfl ?_
  refine r_iconst (x := 3) dX12_sumOf_15 rfl ?_
  refine r_iload_n dX12_sumOf_16 rfl ?_
  refine r_imul dX12_sumOf_17 ?_
  refine r_iadd dX12_sumOf_18 ?_
  refine r_iconst (x := 1) dX12_sumOf_19 rfl ?_
  refine r_iadd dX12_sumOf_20 ?_
  refine r_gd rfl (fun g2 => ?_)
  refine r_iald dX12_sumOf_21 aM_33 (inb_in g2) rfl ?_
  refine r_iadd dX12_sumOf_22 ?_
  refine r_aload_n dX12_sumOf_23 rfl ?_
  refine r_getf (v := .ref (G.2.2.2 (33))) dX12_sumOf_24 fM_0_48 kX12 (by decide) lkf_X12_113 rfl ?_
  refine r_iload_n dX12_sumOf_27 rfl ?_
  refine r_iconst (x := 3) dX12_sumOf_28 rfl ?_
  refine r_iload_n dX12_sumOf_29 rfl ?_
  refine r_imul dX12_sumOf_30 ?_
  refine r_iadd dX12_sumOf_31 ?_
  refine r_iconst (x := 2) dX12_sumOf_32 rfl ?_
  refine r_iadd dX12_sumOf_33 ?_
  refine r_gd rfl (fun g3 => ?_)
  refine r_iald dX12_sumOf_34 aM_33 (inb_in g3) rfl ?_
  refine r_iadd dX12_sumOf_35 ?_
  exact r_iret (ty := .int) dX12_sumOf_36 rfl rfl rfl

theorem dX12_payOf_0 : decode cX12_payOf 0 = .ok (.aload_n 0, 1) := by decide +kernel
theorem dX12_payOf_1 : decode cX12_payOf 1 = .ok (.getfield 57, 3) := by decide +kernel
theorem dX12_payOf_4 : decode cX12_payOf 4 = .ok (.iconst 3, 1) := by decide +kernel
theorem dX12_payOf_5 : decode cX12_payOf 5 = .ok (.iconst 5, 1) := by decide +kernel
theorem dX12_payOf_6 : decode cX12_payOf 6 = .ok (.aload_n 0, 1) := by decide +kernel
theorem dX12_payOf_7 : decode cX12_payOf 7 = .ok (.getfield 301, 3) := by decide +kernel
theorem dX12_payOf_10 : decode cX12_payOf 10 = .ok (.imul, 1) := by decide +kernel
theorem dX12_payOf_11 : decode cX12_payOf 11 = .ok (.iload_n 1, 1) := by decide +kernel
theorem dX12_payOf_12 : decode cX12_payOf 12 = .ok (.iadd, 1) := by decide +kernel
theorem dX12_payOf_13 : decode cX12_payOf 13 = .ok (.imul, 1) := by decide +kernel
theorem dX12_payOf_14 : decode cX12_payOf 14 = .ok (.iload_n 2, 1) := by decide +kernel
theorem dX12_payOf_15 : decode cX12_payOf 15 = .ok (.iadd, 1) := by decide +kernel
theorem dX12_payOf_16 : decode cX12_payOf 16 = .ok (.iaload, 1) := by decide +kernel
theorem dX12_payOf_17 : decode cX12_payOf 17 = .ok (.ireturn, 1) := by decide +kernel
abbrev mi_X12_payOf : MI := (zTM, RX12, yX12_payOf, cX12_payOf, 3, (some .int), 2)
theorem cal_X12_payOf : zCalV mi_X12_payOf 2 := ⟨⟨zTB_i8 77 (by decide +kernel), zTB_i8 76 (by decide +kernel), zTB_i0 84 (by decide +kernel), zTB_i1 13 (by decide +kernel)⟩, ⟨by decide, by decide, by decide +kernel⟩, by decide⟩
noncomputable def X12_payOf (x1 : Int32) (x2 : Int32) (M : Mem) : Option (Int32) :=
  gd_ (inb ((3 * ((5 * (M.1 0 41)) + x1)) + x2) (30) = true) (
  some (M.1 15 (((3 * ((5 * (M.1 0 41)) + x1)) + x2).toNatClampNeg)))
set_option maxRecDepth 100000 in
set_option maxHeartbeats 4000000 in
theorem X12_payOf_ok (G : Gh) (x1 : Int32) (x2 : Int32) (M : Mem) : Mt G mi_X12_payOf [.ref (G.2.2.2 (0)), .int x1, .int x2] M ((dO (dI M)) (X12_payOf x1 x2 M)) := by
  refine Mt_of (lv := [some (.ref (G.2.2.2 (0))), some (.int x1), some (.int x2)]) (by decide) rfl (Nat.le_of_ble_eq_true rfl) rfl ?_
  unfold X12_payOf
  refine r_aload_n dX12_payOf_0 rfl ?_
  refine r_getf (v := .ref (G.2.2.2 (15))) dX12_payOf_1 fM_0_23 kX12 (by decide) lkf_X12_57 rfl ?_
  refine r_iconst (x := 3) dX12_payOf_4 rfl ?_
  refine r_iconst (x := 5) dX12_payOf_5 rfl ?_
  refine r_aload_n dX12_payOf_6 rfl ?_
  refine r_getf (v := .int (M.1 0 41)) dX12_payOf_7 fM_0_41 kX12 (by decide) lkf_X12_301 rfl ?_
  refine r_imul dX12_payOf_10 ?_
  refine r_iload_n dX12_payOf_11 rfl ?_
  refine r_iadd dX12_payOf_12 ?_
  refine r_imul dX12_payOf_13 ?_
  refine r_iload_n dX12_payOf_14 rfl ?_
  refine r_iadd dX12_payOf_15 ?_
  refine r_gd rfl (fun g1 => ?_)
  refine r_iald dX12_payOf_16 aM_15 (inb_in g1) rfl ?_
  exact r_iret (ty := .int) dX12_payOf_17 rfl rfl rfl

theorem dX12_man_0 : decode cX12_man 0 = .ok (.aload_n 0, 1) := by decide +kernel
theorem dX12_man_1 : decode cX12_man 1 = .ok (.iload_n 1, 1) := by decide +kernel
theorem dX12_man_2 : decode cX12_man 2 = .ok (.invokevirtual 426, 3) := by decide +kernel
theorem dX12_man_5 : decode cX12_man 5 = .ok (.ifCond .ne 7, 3) := by decide +kernel
theorem dX12_man_8 : decode cX12_man 8 = .ok (.ldc_w 429, 3) := by decide +kernel
theorem dX12_man_11 : decode cX12_man 11 = .ok (.ireturn, 1) := by decide +kernel
theorem dX12_man_12 : decode cX12_man 12 = .ok (.iload_n 2, 1) := by decide +kernel
theorem dX12_man_13 : decode cX12_man 13 = .ok (.tableswitch 125 0 6 #[43, 53, 63, 69, 76, 97, 111], 43) := by decide +kernel
theorem dX12_man_56 : decode cX12_man 56 = .ok (.aload_n 0, 1) := by decide +kernel
theorem dX12_man_57 : decode cX12_man 57 = .ok (.getfield 113, 3) := by decide +kernel
theorem dX12_man_60 : decode cX12_man 60 = .ok (.bipush 15, 2) := by decide +kernel
theorem dX12_man_62 : decode cX12_man 62 = .ok (.iload_n 1, 1) := by decide +kernel
theorem dX12_man_63 : decode cX12_man 63 = .ok (.iadd, 1) := by decide +kernel
theorem dX12_man_64 : decode cX12_man 64 = .ok (.iaload, 1) := by decide +kernel
theorem dX12_man_65 : decode cX12_man 65 = .ok (.ireturn, 1) := by decide +kernel
theorem dX12_man_66 : decode cX12_man 66 = .ok (.aload_n 0, 1) := by decide +kernel
theorem dX12_man_67 : decode cX12_man 67 = .ok (.getfield 113, 3) := by decide +kernel
theorem dX12_man_70 : decode cX12_man 70 = .ok (.bipush 35, 2) := by decide +kernel
theorem dX12_man_72 : decode cX12_man 72 = .ok (.iload_n 1, 1) := by decide +kernel
theorem dX12_man_73 : decode cX12_man 73 = .ok (.iadd, 1) := by decide +kernel
theorem dX12_man_74 : decode cX12_man 74 = .ok (.iaload, 1) := by decide +kernel
theorem dX12_man_75 : decode cX12_man 75 = .ok (.ireturn, 1) := by decide +kernel
theorem dX12_man_76 : decode cX12_man 76 = .ok (.aload_n 0, 1) := by decide +kernel
theorem dX12_man_77 : decode cX12_man 77 = .ok (.iload_n 1, 1) := by decide +kernel
theorem dX12_man_78 : decode cX12_man 78 = .ok (.invokevirtual 420, 3) := by decide +kernel
theorem dX12_man_81 : decode cX12_man 81 = .ok (.ireturn, 1) := by decide +kernel
theorem dX12_man_82 : decode cX12_man 82 = .ok (.aload_n 0, 1) := by decide +kernel
theorem dX12_man_83 : decode cX12_man 83 = .ok (.iconst 0, 1) := by decide +kernel
theorem dX12_man_84 : decode cX12_man 84 = .ok (.iload_n 1, 1) := by decide +kernel
theorem dX12_man_85 : decode cX12_man 85 = .ok (.invokevirtual 430, 3) := by decide +kernel
theorem dX12_man_88 : decode cX12_man 88 = .ok (.ireturn, 1) := by decide +kernel
theorem dX12_man_89 : decode cX12_man 89 = .ok (.aload_n 0, 1) := by decide +kernel
theorem dX12_man_90 : decode cX12_man 90 = .ok (.iload_n 1, 1) := by decide +kernel
theorem dX12_man_91 : decode cX12_man 91 = .ok (.iconst 0, 1) := by decide +kernel
theorem dX12_man_92 : decode cX12_man 92 = .ok (.invokevirtual 433, 3) := by decide +kernel
theorem dX12_man_95 : decode cX12_man 95 = .ok (.aload_n 0, 1) := by decide +kernel
theorem dX12_man_96 : decode cX12_man 96 = .ok (.iload_n 1, 1) := by decide +kernel
theorem dX12_man_97 : decode cX12_man 97 = .ok (.iconst 1, 1) := by decide +kernel
theorem dX12_man_98 : decode cX12_man 98 = .ok (.invokevirtual 433, 3) := by decide +kernel
theorem dX12_man_101 : decode cX12_man 101 = .ok (.iadd, 1) := by decide +kernel
theorem dX12_man_102 : decode cX12_man 102 = .ok (.aload_n 0, 1) := by decide +kernel
theorem dX12_man_103 : decode cX12_man 103 = .ok (.iload_n 1, 1) := by decide +kernel
theorem dX12_man_104 : decode cX12_man 104 = .ok (.iconst 2, 1) := by decide +kernel
theorem dX12_man_105 : decode cX12_man 105 = .ok (.invokevirtual 433, 3) := by decide +kernel
theorem dX12_man_108 : decode cX12_man 108 = .ok (.iadd, 1) := by decide +kernel
theorem dX12_man_109 : decode cX12_man 109 = .ok (.ireturn, 1) := by decide +kernel
theorem dX12_man_110 : decode cX12_man 110 = .ok (.aload_n 0, 1) := by decide +kernel
theorem dX12_man_111 : decode cX12_man 111 = .ok (.getfield 51, 3) := by decide +kernel
theorem dX12_man_114 : decode cX12_man 114 = .ok (.iconst 5, 1) := by decide +kernel
theorem dX12_man_115 : decode cX12_man 115 = .ok (.aload_n 0, 1) := by decide +kernel
theorem dX12_man_116 : decode cX12_man 116 = .ok (.getfield 301, 3) := by decide +kernel
theorem dX12_man_119 : decode cX12_man 119 = .ok (.imul, 1) := by decide +kernel
theorem dX12_man_120 : decode cX12_man 120 = .ok (.iload_n 1, 1) := by decide +kernel
theorem dX12_man_121 : decode cX12_man 121 = .ok (.iadd, 1) := by decide +kernel
theorem dX12_man_122 : decode cX12_man 122 = .ok (.iaload, 1) := by decide +kernel
theorem dX12_man_123 : decode cX12_man 123 = .ok (.ireturn, 1) := by decide +kernel
theorem dX12_man_124 : decode cX12_man 124 = .ok (.aload_n 0, 1) := by decide +kernel
theorem dX12_man_125 : decode cX12_man 125 = .ok (.getfield 42, 3) := by decide +kernel
theorem dX12_man_128 : decode cX12_man 128 = .ok (.aload_n 0, 1) := by decide +kernel
theorem dX12_man_129 : decode cX12_man 129 = .ok (.getfield 301, 3) := by decide +kernel
theorem dX12_man_132 : decode cX12_man 132 = .ok (.iaload, 1) := by decide +kernel
theorem dX12_man_133 : decode cX12_man 133 = .ok (.iload_n 1, 1) := by decide +kernel
theorem dX12_man_134 : decode cX12_man 134 = .ok (.ishr, 1) := by decide +kernel
theorem dX12_man_135 : decode cX12_man 135 = .ok (.iconst 1, 1) := by decide +kernel
theorem dX12_man_136 : decode cX12_man 136 = .ok (.iand, 1) := by decide +kernel
theorem dX12_man_137 : decode cX12_man 137 = .ok (.ireturn, 1) := by decide +kernel
theorem dX12_man_138 : decode cX12_man 138 = .ok (.ldc_w 429, 3) := by decide +kernel
theorem dX12_man_141 : decode cX12_man 141 = .ok (.ireturn, 1) := by decide +kernel
abbrev mi_X12_man : MI := (zTM, RX12, yX12_man, cX12_man, 3, (some .int), 6)
theorem cal_X12_man : zCalV mi_X12_man 2 := ⟨⟨zTB_i8 42 (by decide +kernel), zTB_i8 40 (by decide +kernel), zTB_i8 41 (by decide +kernel), zTB_i1 13 (by decide +kernel)⟩, ⟨by decide, by decide, by decide +kernel⟩, by decide⟩
noncomputable def X12_man (x1 : Int32) (x2 : Int32) (M : Mem) : Option (Int32 × Mem) :=
  bo_ (X12_isMan x1 M) fun b1 =>
  if b1 = true then
    if x2 = 0 then
      gd_ (inb (15 + x1) (42) = true) (
      some (M.1 33 ((15 + x1).toNatClampNeg), M))
    else
    if x2 = 1 then
      gd_ (inb (35 + x1) (42) = true) (
      some (M.1 33 ((35 + x1).toNatClampNeg), M))
    else
    if x2 = 2 then
      bp_ (X12_growthOf x1 M) fun v8 M9 =>
      some (v8, M9)
    else
    if x2 = 3 then
      bo_ (X12_sumOf 0 x1 M) fun v11 =>
      some (v11, M)
    else
    if x2 = 4 then
      bo_ (X12_payOf x1 0 M) fun v13 =>
      bo_ (X12_payOf x1 1 M) fun v14 =>
      bo_ (X12_payOf x1 2 M) fun v15 =>
      some ((v13 + v14) + v15, M)
    else
    if x2 = 5 then
      gd_ (inb ((5 * (M.1 0 41)) + x1) (10) = true) (
      some (M.1 13 (((5 * (M.1 0 41)) + x1).toNatClampNeg), M))
    else
    if x2 = 6 then
      gd_ (inb (M.1 0 41) (2) = true) (
      some (((M.1 10 ((M.1 0 41).toNatClampNeg)) >>> (x1 &&& 31)) &&& 1, M))
    else
    some ((-1000000), M)
  else
  some ((-1000000), M)
set_option maxRecDepth 100000 in
set_option maxHeartbeats 4000000 in
theorem X12_man_ok (G : Gh) (x1 : Int32) (x2 : Int32) (M : Mem) : Mt G mi_X12_man [.ref (G.2.2.2 (0)), .int x1, .int x2] M ((dO dIM) (X12_man x1 x2 M)) := by
  refine Mt_of (lv := [some (.ref (G.2.2.2 (0))), some (.int x1), some (.int x2)]) (by decide) rfl (Nat.le_of_ble_eq_true rfl) rfl ?_
  unfold X12_man
  refine r_aload_n dX12_man_0 rfl ?_
  refine r_iload_n dX12_man_1 rfl ?_
  refine c_OZ rfl (inv_V (mi := mi_X12_man) (b := 0) (rest := []) (X12_isMan_ok G x1 M) rfl (by decide) dX12_man_2 lkm_X12_426 cal_X12_isMan cM_0 rfl rfl (Nat.le_of_ble_eq_true rfl) rfl) (fun b1 => ?_)
  refine r_ifz_ne (tgt := 12) dX12_man_5 rfl (fun h2 => ?_) (fun h2 => ?_)
  · refine r_iload_n dX12_man_12 rfl ?_
    refine r_ite (fun h3 => ?_) (fun h3 => ?_)
    · refine r_tswIn (c := 0) (tgt := 56) dX12_man_13 h3 (by decide) (by decide) rfl rfl ?_
      refine r_aload_n dX12_man_56 rfl ?_
      refine r_getf (v := .ref (G.2.2.2 (33))) dX12_man_57 fM_0_48 kX12 (by decide) lkf_X12_113 rfl ?_
      refine r_bipush (x := 15) dX12_man_60 rfl ?_
      refine r_iload_n dX12_man_62 rfl ?_
      refine r_iadd dX12_man_63 ?_
      refine r_gd rfl (fun g4 => ?_)
      refine r_iald dX12_man_64 aM_33 (inb_in g4) rfl ?_
      exact r_iret (ty := .int) dX12_man_65 rfl rfl rfl
    refine r_ite (fun h5 => ?_) (fun h5 => ?_)
    · refine r_tswIn (c := 1) (tgt := 66) dX12_man_13 h5 (by decide) (by decide) rfl rfl ?_
      refine r_aload_n dX12_man_66 rfl ?_
      refine r_getf (v := .ref (G.2.2.2 (33))) dX12_man_67 fM_0_48 kX12 (by decide) lkf_X12_113 rfl ?_
      refine r_bipush (x := 35) dX12_man_70 rfl ?_
      refine r_iload_n dX12_man_72 rfl ?_
      refine r_iadd dX12_man_73 ?_
      refine r_gd rfl (fun g6 => ?_)
      refine r_iald dX12_man_74 aM_33 (inb_in g6) rfl ?_
      exact r_iret (ty := .int) dX12_man_75 rfl rfl rfl
    refine r_ite (fun h7 => ?_) (fun h7 => ?_)
    · refine r_tswIn (c := 2) (tgt := 76) dX12_man_13 h7 (by decide) (by decide) rfl rfl ?_
      refine r_aload_n dX12_man_76 rfl ?_
      refine r_iload_n dX12_man_77 rfl ?_
      refine c_OIM rfl (inv_V (mi := mi_X12_man) (b := 0) (rest := []) (X12_growthOf_ok G x1 M) rfl (by decide) dX12_man_78 lkm_X12_420 cal_X12_growthOf cM_0 rfl rfl (Nat.le_of_ble_eq_true rfl) rfl) (fun v8 M9 => ?_)
      exact r_iret (ty := .int) dX12_man_81 rfl rfl rfl
    refine r_ite (fun h10 => ?_) (fun h10 => ?_)
    · refine r_tswIn (c := 3) (tgt := 82) dX12_man_13 h10 (by decide) (by decide) rfl rfl ?_
      refine r_aload_n dX12_man_82 rfl ?_
      refine r_iconst (x := 0) dX12_man_83 rfl ?_
      refine r_iload_n dX12_man_84 rfl ?_
      refine c_OI rfl (inv_V (mi := mi_X12_man) (b := 0) (rest := []) (X12_sumOf_ok G 0 x1 M) rfl (by decide) dX12_man_85 lkm_X12_430 cal_X12_sumOf cM_0 rfl rfl (Nat.le_of_ble_eq_true rfl) rfl) (fun v11 => ?_)
      exact r_iret (ty := .int) dX12_man_88 rfl rfl rfl
    refine r_ite (fun h12 => ?_) (fun h12 => ?_)
    · refine r_tswIn (c := 4) (tgt := 89) dX12_man_13 h12 (by decide) (by decide) rfl rfl ?_
      refine r_aload_n dX12_man_89 rfl ?_
      refine r_iload_n dX12_man_90 rfl ?_
      refine r_iconst (x := 0) dX12_man_91 rfl ?_
      refine c_OI rfl (inv_V (mi := mi_X12_man) (b := 0) (rest := []) (X12_payOf_ok G x1 0 M) rfl (by decide) dX12_man_92 lkm_X12_433 cal_X12_payOf cM_0 rfl rfl (Nat.le_of_ble_eq_true rfl) rfl) (fun v13 => ?_)
      refine r_aload_n dX12_man_95 rfl ?_
      refine r_iload_n dX12_man_96 rfl ?_
      refine r_iconst (x := 1) dX12_man_97 rfl ?_
      refine c_OI rfl (inv_V (mi := mi_X12_man) (b := 0) (rest := [.int v13]) (X12_payOf_ok G x1 1 M) rfl (by decide) dX12_man_98 lkm_X12_433 cal_X12_payOf cM_0 rfl rfl (Nat.le_of_ble_eq_true rfl) rfl) (fun v14 => ?_)
      refine r_iadd dX12_man_101 ?_
      refine r_aload_n dX12_man_102 rfl ?_
      refine r_iload_n dX12_man_103 rfl ?_
      refine r_iconst (x := 2) dX12_man_104 rfl ?_
      refine c_OI rfl (inv_V (mi := mi_X12_man) (b := 0) (rest := [.int (v13 + v14)]) (X12_payOf_ok G x1 2 M) rfl (by decide) dX12_man_105 lkm_X12_433 cal_X12_payOf cM_0 rfl rfl (Nat.le_of_ble_eq_true rfl) rfl) (fun v15 => ?_)
      refine r_iadd dX12_man_108 ?_
      exact r_iret (ty := .int) dX12_man_109 rfl rfl rfl
    refine r_ite (fun h16 => ?_) (fun h16 => ?_)
    · refine r_tswIn (c := 5) (tgt := 110) dX12_man_13 h16 (by decide) (by decide) rfl rfl ?_
      refine r_aload_n dX12_man_110 rfl ?_
      refine r_getf (v := .ref (G.2.2.2 (13))) dX12_man_111 fM_0_21 kX12 (by decide) lkf_X12_51 rfl ?_
      refine r_iconst (x := 5) dX12_man_114 rfl ?_
      refine r_aload_n dX12_man_115 rfl ?_
      refine r_getf (v := .int (M.1 0 41)) dX12_man_116 fM_0_41 kX12 (by decide) lkf_X12_301 rfl ?_
      refine r_imul dX12_man_119 ?_
      refine r_iload_n dX12_man_120 rfl ?_
      refine r_iadd dX12_man_121 ?_
      refine r_gd rfl (fun g17 => ?_)
      refine r_iald dX12_man_122 aM_13 (inb_in g17) rfl ?_
      exact r_iret (ty := .int) dX12_man_123 rfl rfl rfl
    refine r_ite (fun h18 => ?_) (fun h18 => ?_)
    · refine r_tswIn (c := 6) (tgt := 124) dX12_man_13 h18 (by decide) (by decide) rfl rfl ?_
      refine r_aload_n dX12_man_124 rfl ?_
      refine r_getf (v := .ref (G.2.2.2 (10))) dX12_man_125 fM_0_18 kX12 (by decide) lkf_X12_42 rfl ?_
      refine r_aload_n dX12_man_128 rfl ?_
      refine r_getf (v := .int (M.1 0 41)) dX12_man_129 fM_0_41 kX12 (by decide) lkf_X12_301 rfl ?_
      refine r_gd rfl (fun g19 => ?_)
      refine r_iald dX12_man_132 aM_10 (inb_in g19) rfl ?_
      refine r_iload_n dX12_man_133 rfl ?_
      refine r_ishr dX12_man_134 ?_
      refine r_iconst (x := 1) dX12_man_135 rfl ?_
      refine r_iand dX12_man_136 ?_
      exact r_iret (ty := .int) dX12_man_137 rfl rfl rfl
    refine r_tswD (cs := [0, 1, 2, 3, 4, 5, 6]) (tgt := 138) dX12_man_13 (by decide) (fun c hc => by simp only [List.mem_cons, List.not_mem_nil, or_false] at hc; rcases hc with rfl | rfl | rfl | rfl | rfl | rfl | rfl <;> assumption) rfl ?_
    refine r_ldcwI (x := (-1000000)) dX12_man_138 lkc_X12_429 ?_
    exact r_iret (ty := .int) dX12_man_141 rfl rfl rfl
  refine r_ldcwI (x := (-1000000)) dX12_man_8 lkc_X12_429 ?_
  exact r_iret (ty := .int) dX12_man_11 rfl rfl rfl

theorem dX12_isKind_0 : decode cX12_isKind 0 = .ok (.iload_n 1, 1) := by decide +kernel
theorem dX12_isKind_1 : decode cX12_isKind 1 = .ok (.iconst 0, 1) := by decide +kernel
theorem dX12_isKind_2 : decode cX12_isKind 2 = .ok (.aload_n 0, 1) := by decide +kernel
theorem dX12_isKind_3 : decode cX12_isKind 3 = .ok (.getfield 20, 3) := by decide +kernel
theorem dX12_isKind_6 : decode cX12_isKind 6 = .ok (.aload_n 0, 1) := by decide +kernel
theorem dX12_isKind_7 : decode cX12_isKind 7 = .ok (.getfield 301, 3) := by decide +kernel
theorem dX12_isKind_10 : decode cX12_isKind 10 = .ok (.iaload, 1) := by decide +kernel
theorem dX12_isKind_11 : decode cX12_isKind 11 = .ok (.iconst 1, 1) := by decide +kernel
theorem dX12_isKind_12 : decode cX12_isKind 12 = .ok (.isub, 1) := by decide +kernel
theorem dX12_isKind_13 : decode cX12_isKind 13 = .ok (.invokestatic 401, 3) := by decide +kernel
theorem dX12_isKind_16 : decode cX12_isKind 16 = .ok (.ireturn, 1) := by decide +kernel
abbrev mi_X12_isKind : MI := (zTM, RX12, yX12_isKind, cX12_isKind, 2, (some .boolean), 3)
theorem cal_X12_isKind : zCalV mi_X12_isKind 1 := ⟨⟨zTB_i8 85 (by decide +kernel), zTB_i8 84 (by decide +kernel), zTB_i0 85 (by decide +kernel), zTB_i1 13 (by decide +kernel)⟩, ⟨by decide, by decide, by decide +kernel⟩, by decide⟩
noncomputable def X12_isKind (x1 : Int32) (M : Mem) : Option (Bool) :=
  gd_ (inb (M.1 0 41) (2) = true) (
  some (X12_isIn x1 0 ((M.1 3 ((M.1 0 41).toNatClampNeg)) - 1)))
set_option maxRecDepth 100000 in
set_option maxHeartbeats 4000000 in
theorem X12_isKind_ok (G : Gh) (x1 : Int32) (M : Mem) : Mt G mi_X12_isKind [.ref (G.2.2.2 (0)), .int x1] M ((dO (dZ M)) (X12_isKind x1 M)) := by
  refine Mt_of (lv := [some (.ref (G.2.2.2 (0))), some (.int x1)]) (by decide) rfl (Nat.le_of_ble_eq_true rfl) rfl ?_
  unfold X12_isKind
  refine r_iload_n dX12_isKind_0 rfl ?_
  refine r_iconst (x := 0) dX12_isKind_1 rfl ?_
  refine r_aload_n dX12_isKind_2 rfl ?_
  refine r_getf (v := .ref (G.2.2.2 (3))) dX12_isKind_3 fM_0_11 kX12 (by decide) lkf_X12_20 rfl ?_
  refine r_aload_n dX12_isKind_6 rfl ?_
  refine r_getf (v := .int (M.1 0 41)) dX12_isKind_7 fM_0_41 kX12 (by decide) lkf_X12_301 rfl ?_
  refine r_gd rfl (fun g1 => ?_)
  refine r_iald dX12_isKind_10 aM_3 (inb_in g1) rfl ?_
  refine r_iconst (x := 1) dX12_isKind_11 rfl ?_
  refine r_isub dX12_isKind_12 ?_
  refine c_Z (inv_S (mi := mi_X12_isKind) (rest := []) (X12_isIn_ok G x1 0 ((M.1 3 ((M.1 0 41).toNatClampNeg)) - 1) M) rfl (by decide) dX12_isKind_13 lkm_X12_401 cal_X12_isIn rfl (Nat.le_of_ble_eq_true rfl) rfl) ?_
  exact r_iret (ty := .boolean) dX12_isKind_16 rfl (b2i_n _) rfl

theorem dX12_inPurse_0 : decode cX12_inPurse 0 = .ok (.aload_n 0, 1) := by decide +kernel
theorem dX12_inPurse_1 : decode cX12_inPurse 1 = .ok (.getfield 113, 3) := by decide +kernel
theorem dX12_inPurse_4 : decode cX12_inPurse 4 = .ok (.iconst 0, 1) := by decide +kernel
theorem dX12_inPurse_5 : decode cX12_inPurse 5 = .ok (.iconst 3, 1) := by decide +kernel
theorem dX12_inPurse_6 : decode cX12_inPurse 6 = .ok (.iload_n 1, 1) := by decide +kernel
theorem dX12_inPurse_7 : decode cX12_inPurse 7 = .ok (.imul, 1) := by decide +kernel
theorem dX12_inPurse_8 : decode cX12_inPurse 8 = .ok (.iadd, 1) := by decide +kernel
theorem dX12_inPurse_9 : decode cX12_inPurse 9 = .ok (.iload_n 2, 1) := by decide +kernel
theorem dX12_inPurse_10 : decode cX12_inPurse 10 = .ok (.iadd, 1) := by decide +kernel
theorem dX12_inPurse_11 : decode cX12_inPurse 11 = .ok (.iaload, 1) := by decide +kernel
theorem dX12_inPurse_12 : decode cX12_inPurse 12 = .ok (.ireturn, 1) := by decide +kernel
abbrev mi_X12_inPurse : MI := (zTM, RX12, yX12_inPurse, cX12_inPurse, 3, (some .int), 2)
theorem cal_X12_inPurse : zCalV mi_X12_inPurse 2 := ⟨⟨zTB_i8 89 (by decide +kernel), zTB_i8 88 (by decide +kernel), zTB_i0 86 (by decide +kernel), zTB_i1 13 (by decide +kernel)⟩, ⟨by decide, by decide, by decide +kernel⟩, by decide⟩
noncomputable def X12_inPurse (x1 : Int32) (x2 : Int32) (M : Mem) : Option (Int32) :=
  gd_ (inb ((0 + (3 * x1)) + x2) (42) = true) (
  some (M.1 33 (((0 + (3 * x1)) + x2).toNatClampNeg)))
set_option maxRecDepth 100000 in
set_option maxHeartbeats 4000000 in
theorem X12_inPurse_ok (G : Gh) (x1 : Int32) (x2 : Int32) (M : Mem) : Mt G mi_X12_inPurse [.ref (G.2.2.2 (0)), .int x1, .int x2] M ((dO (dI M)) (X12_inPurse x1 x2 M)) := by
  refine Mt_of (lv := [some (.ref (G.2.2.2 (0))), some (.int x1), some (.int x2)]) (by decide) rfl (Nat.le_of_ble_eq_true rfl) rfl ?_
  unfold X12_inPurse
  refine r_aload_n dX12_inPurse_0 rfl ?_
  refine r_getf (v := .ref (G.2.2.2 (33))) dX12_inPurse_1 fM_0_48 kX12 (by decide) lkf_X12_113 rfl ?_
  refine r_iconst (x := 0) dX12_inPurse_4 rfl ?_
  refine r_iconst (x := 3) dX12_inPurse_5 rfl ?_
  refine r_iload_n dX12_inPurse_6 rfl ?_
  refine r_imul dX12_inPurse_7 ?_
  refine r_iadd dX12_inPurse_8 ?_
  refine r_iload_n dX12_inPurse_9 rfl ?_
  refine r_iadd dX12_inPurse_10 ?_
  refine r_gd rfl (fun g1 => ?_)
  refine r_iald dX12_inPurse_11 aM_33 (inb_in g1) rfl ?_
  exact r_iret (ty := .int) dX12_inPurse_12 rfl rfl rfl

theorem dX12_purse_0 : decode cX12_purse 0 = .ok (.aload_n 0, 1) := by decide +kernel
theorem dX12_purse_1 : decode cX12_purse 1 = .ok (.iload_n 1, 1) := by decide +kernel
theorem dX12_purse_2 : decode cX12_purse 2 = .ok (.invokevirtual 426, 3) := by decide +kernel
theorem dX12_purse_5 : decode cX12_purse 5 = .ok (.ifCond .eq 20, 3) := by decide +kernel
theorem dX12_purse_8 : decode cX12_purse 8 = .ok (.aload_n 0, 1) := by decide +kernel
theorem dX12_purse_9 : decode cX12_purse 9 = .ok (.iload_n 2, 1) := by decide +kernel
theorem dX12_purse_10 : decode cX12_purse 10 = .ok (.invokevirtual 436, 3) := by decide +kernel
theorem dX12_purse_13 : decode cX12_purse 13 = .ok (.ifCond .eq 12, 3) := by decide +kernel
theorem dX12_purse_16 : decode cX12_purse 16 = .ok (.aload_n 0, 1) := by decide +kernel
theorem dX12_purse_17 : decode cX12_purse 17 = .ok (.iload_n 1, 1) := by decide +kernel
theorem dX12_purse_18 : decode cX12_purse 18 = .ok (.iload_n 2, 1) := by decide +kernel
theorem dX12_purse_19 : decode cX12_purse 19 = .ok (.invokevirtual 439, 3) := by decide +kernel
theorem dX12_purse_22 : decode cX12_purse 22 = .ok (.goto 4, 3) := by decide +kernel
theorem dX12_purse_25 : decode cX12_purse 25 = .ok (.iconst (-1), 1) := by decide +kernel
theorem dX12_purse_26 : decode cX12_purse 26 = .ok (.ireturn, 1) := by decide +kernel
abbrev mi_X12_purse : MI := (zTM, RX12, yX12_purse, cX12_purse, 3, (some .int), 4)
theorem cal_X12_purse : zCalV mi_X12_purse 2 := ⟨⟨zTB_i8 81 (by decide +kernel), zTB_i8 79 (by decide +kernel), zTB_i8 80 (by decide +kernel), zTB_i1 13 (by decide +kernel)⟩, ⟨by decide, by decide, by decide +kernel⟩, by decide⟩
noncomputable def X12_purse (x1 : Int32) (x2 : Int32) (M : Mem) : Option (Int32) :=
  bo_ (X12_isMan x1 M) fun b1 =>
  if b1 = true then
    bo_ (X12_isKind x2 M) fun b3 =>
    if b3 = true then
      bo_ (X12_inPurse x1 x2 M) fun v5 =>
      some v5
    else
    some (-1)
  else
  some (-1)
set_option maxRecDepth 100000 in
set_option maxHeartbeats 4000000 in
theorem X12_purse_ok (G : Gh) (x1 : Int32) (x2 : Int32) (M : Mem) : Mt G mi_X12_purse [.ref (G.2.2.2 (0)), .int x1, .int x2] M ((dO (dI M)) (X12_purse x1 x2 M)) := by
  refine Mt_of (lv := [some (.ref (G.2.2.2 (0))), some (.int x1), some (.int x2)]) (by decide) rfl (Nat.le_of_ble_eq_true rfl) rfl ?_
  unfold X12_purse
  refine r_aload_n dX12_purse_0 rfl ?_
  refine r_iload_n dX12_purse_1 rfl ?_
  refine c_OZ rfl (inv_V (mi := mi_X12_purse) (b := 0) (rest := []) (X12_isMan_ok G x1 M) rfl (by decide) dX12_purse_2 lkm_X12_426 cal_X12_isMan cM_0 rfl rfl (Nat.le_of_ble_eq_true rfl) rfl) (fun b1 => ?_)
  refine r_ifz_eq (tgt := 25) dX12_purse_5 rfl (fun h2 => ?_) (fun h2 => ?_)
  · refine r_aload_n dX12_purse_8 rfl ?_
    refine r_iload_n dX12_purse_9 rfl ?_
    refine c_OZ rfl (inv_V (mi := mi_X12_purse) (b := 0) (rest := []) (X12_isKind_ok G x2 M) rfl (by decide) dX12_purse_10 lkm_X12_436 cal_X12_isKind cM_0 rfl rfl (Nat.le_of_ble_eq_true rfl) rfl) (fun b3 => ?_)
    refine r_ifz_eq (tgt := 25) dX12_purse_13 rfl (fun h4 => ?_) (fun h4 => ?_)
    · refine r_aload_n dX12_purse_16 rfl ?_
      refine r_iload_n dX12_purse_17 rfl ?_
      refine r_iload_n dX12_purse_18 rfl ?_
      refine c_OI rfl (inv_V (mi := mi_X12_purse) (b := 0) (rest := []) (X12_inPurse_ok G x1 x2 M) rfl (by decide) dX12_purse_19 lkm_X12_439 cal_X12_inPurse cM_0 rfl rfl (Nat.le_of_ble_eq_true rfl) rfl) (fun v5 => ?_)
      refine r_goto (tgt := 26) dX12_purse_22 rfl ?_
      exact r_iret (ty := .int) dX12_purse_26 rfl rfl rfl
    refine r_iconst (x := (-1)) dX12_purse_25 rfl ?_
    exact r_iret (ty := .int) dX12_purse_26 rfl rfl rfl
  refine r_iconst (x := (-1)) dX12_purse_25 rfl ?_
  exact r_iret (ty := .int) dX12_purse_26 rfl rfl rfl

theorem dX12_over_0 : decode cX12_over 0 = .ok (.aload_n 0, 1) := by decide +kernel
theorem dX12_over_1 : decode cX12_over 1 = .ok (.iload_n 1, 1) := by decide +kernel
theorem dX12_over_2 : decode cX12_over 2 = .ok (.invokevirtual 426, 3) := by decide +kernel
theorem dX12_over_5 : decode cX12_over 5 = .ok (.ifCond .eq 20, 3) := by decide +kernel
theorem dX12_over_8 : decode cX12_over 8 = .ok (.aload_n 0, 1) := by decide +kernel
theorem dX12_over_9 : decode cX12_over 9 = .ok (.iload_n 2, 1) := by decide +kernel
theorem dX12_over_10 : decode cX12_over 10 = .ok (.invokevirtual 436, 3) := by decide +kernel
theorem dX12_over_13 : decode cX12_over 13 = .ok (.ifCond .eq 12, 3) := by decide +kernel
theorem dX12_over_16 : decode cX12_over 16 = .ok (.aload_n 0, 1) := by decide +kernel
theorem dX12_over_17 : decode cX12_over 17 = .ok (.iload_n 1, 1) := by decide +kernel
theorem dX12_over_18 : decode cX12_over 18 = .ok (.iload_n 2, 1) := by decide +kernel
theorem dX12_over_19 : decode cX12_over 19 = .ok (.invokevirtual 388, 3) := by decide +kernel
theorem dX12_over_22 : decode cX12_over 22 = .ok (.goto 4, 3) := by decide +kernel
theorem dX12_over_25 : decode cX12_over 25 = .ok (.iconst (-1), 1) := by decide +kernel
theorem dX12_over_26 : decode cX12_over 26 = .ok (.ireturn, 1) := by decide +kernel
abbrev mi_X12_over : MI := (zTM, RX12, yX12_over, cX12_over, 3, (some .int), 4)
theorem cal_X12_over : zCalV mi_X12_over 2 := ⟨⟨zTB_i8 93 (by decide +kernel), zTB_i8 91 (by decide +kernel), zTB_i8 92 (by decide +kernel), zTB_i1 13 (by decide +kernel)⟩, ⟨by decide, by decide, by decide +kernel⟩, by decide⟩
noncomputable def X12_over (x1 : Int32) (x2 : Int32) (M : Mem) : Option (Int32) :=
  bo_ (X12_isMan x1 M) fun b1 =>
  if b1 = true then
    bo_ (X12_isKind x2 M) fun b3 =>
    if b3 = true then
      bo_ (X12_overOf x1 x2 M) fun v5 =>
      some v5
    else
    some (-1)
  else
  some (-1)
set_option maxRecDepth 100000 in
set_option maxHeartbeats 4000000 in
theorem X12_over_ok (G : Gh) (x1 : Int32) (x2 : Int32) (M : Mem) : Mt G mi_X12_over [.ref (G.2.2.2 (0)), .int x1, .int x2] M ((dO (dI M)) (X12_over x1 x2 M)) := by
  refine Mt_of (lv := [some (.ref (G.2.2.2 (0))), some (.int x1), some (.int x2)]) (by decide) rfl (Nat.le_of_ble_eq_true rfl) rfl ?_
  unfold X12_over
  refine r_aload_n dX12_over_0 rfl ?_
  refine r_iload_n dX12_over_1 rfl ?_
  refine c_OZ rfl (inv_V (mi := mi_X12_over) (b := 0) (rest := []) (X12_isMan_ok G x1 M) rfl (by decide) dX12_over_2 lkm_X12_426 cal_X12_isMan cM_0 rfl rfl (Nat.le_of_ble_eq_true rfl) rfl) (fun b1 => ?_)
  refine r_ifz_eq (tgt := 25) dX12_over_5 rfl (fun h2 => ?_) (fun h2 => ?_)
  · refine r_aload_n dX12_over_8 rfl ?_
    refine r_iload_n dX12_over_9 rfl ?_
    refine c_OZ rfl (inv_V (mi := mi_X12_over) (b := 0) (rest := []) (X12_isKind_ok G x2 M) rfl (by decide) dX12_over_10 lkm_X12_436 cal_X12_isKind cM_0 rfl rfl (Nat.le_of_ble_eq_true rfl) rfl) (fun b3 => ?_)
    refine r_ifz_eq (tgt := 25) dX12_over_13 rfl (fun h4 => ?_) (fun h4 => ?_)
    · refine r_aload_n dX12_over_16 rfl ?_
      refine r_iload_n dX12_over_17 rfl ?_
      refine r_iload_n dX12_over_18 rfl ?_
      refine c_OI rfl (inv_V (mi := mi_X12_over) (b := 0) (rest := []) (X12_overOf_ok G x1 x2 M) rfl (by decide) dX12_over_19 lkm_X12_388 cal_X12_overOf cM_0 rfl rfl (Nat.le_of_ble_eq_true rfl) rfl) (fun v5 => ?_)
      refine r_goto (tgt := 26) dX12_over_22 rfl ?_
      exact r_iret (ty := .int) dX12_over_26 rfl rfl rfl
    refine r_iconst (x := (-1)) dX12_over_25 rfl ?_
    exact r_iret (ty := .int) dX12_over_26 rfl rfl rfl
  refine r_iconst (x := (-1)) dX12_over_25 rfl ?_
  exact r_iret (ty := .int) dX12_over_26 rfl rfl rfl

theorem dX12_pay_0 : decode cX12_pay 0 = .ok (.aload_n 0, 1) := by decide +kernel
theorem dX12_pay_1 : decode cX12_pay 1 = .ok (.iload_n 1, 1) := by decide +kernel
theorem dX12_pay_2 : decode cX12_pay 2 = .ok (.invokevirtual 426, 3) := by decide +kernel
theorem dX12_pay_5 : decode cX12_pay 5 = .ok (.ifCond .eq 20, 3) := by decide +kernel
theorem dX12_pay_8 : decode cX12_pay 8 = .ok (.aload_n 0, 1) := by decide +kernel
theorem dX12_pay_9 : decode cX12_pay 9 = .ok (.iload_n 2, 1) := by decide +kernel
theorem dX12_pay_10 : decode cX12_pay 10 = .ok (.invokevirtual 436, 3) := by decide +kernel
theorem dX12_pay_13 : decode cX12_pay 13 = .ok (.ifCond .eq 12, 3) := by decide +kernel
theorem dX12_pay_16 : decode cX12_pay 16 = .ok (.aload_n 0, 1) := by decide +kernel
theorem dX12_pay_17 : decode cX12_pay 17 = .ok (.iload_n 1, 1) := by decide +kernel
theorem dX12_pay_18 : decode cX12_pay 18 = .ok (.iload_n 2, 1) := by decide +kernel
theorem dX12_pay_19 : decode cX12_pay 19 = .ok (.invokevirtual 433, 3) := by decide +kernel
theorem dX12_pay_22 : decode cX12_pay 22 = .ok (.goto 4, 3) := by decide +kernel
theorem dX12_pay_25 : decode cX12_pay 25 = .ok (.iconst (-1), 1) := by decide +kernel
theorem dX12_pay_26 : decode cX12_pay 26 = .ok (.ireturn, 1) := by decide +kernel
abbrev mi_X12_pay : MI := (zTM, RX12, yX12_pay, cX12_pay, 3, (some .int), 4)
theorem cal_X12_pay : zCalV mi_X12_pay 2 := ⟨⟨zTB_i8 97 (by decide +kernel), zTB_i8 95 (by decide +kernel), zTB_i8 96 (by decide +kernel), zTB_i1 13 (by decide +kernel)⟩, ⟨by decide, by decide, by decide +kernel⟩, by decide⟩
noncomputable def X12_pay (x1 : Int32) (x2 : Int32) (M : Mem) : Option (Int32) :=
  bo_ (X12_isMan x1 M) fun b1 =>
  if b1 = true then
    bo_ (X12_isKind x2 M) fun b3 =>
    if b3 = true then
      bo_ (X12_payOf x1 x2 M) fun v5 =>
      some v5
    else
    some (-1)
  else
  some (-1)
set_option maxRecDepth 100000 in
set_option maxHeartbeats 4000000 in
theorem X12_pay_ok (G : Gh) (x1 : Int32) (x2 : Int32) (M : Mem) : Mt G mi_X12_pay [.ref (G.2.2.2 (0)), .int x1, .int x2] M ((dO (dI M)) (X12_pay x1 x2 M)) := by
  refine Mt_of (lv := [some (.ref (G.2.2.2 (0))), some (.int x1), some (.int x2)]) (by decide) rfl (Nat.le_of_ble_eq_true rfl) rfl ?_
  unfold X12_pay
  refine r_aload_n dX12_pay_0 rfl ?_
  refine r_iload_n dX12_pay_1 rfl ?_
  refine c_OZ rfl (inv_V (mi := mi_X12_pay) (b := 0) (rest := []) (X12_isMan_ok G x1 M) rfl (by decide) dX12_pay_2 lkm_X12_426 cal_X12_isMan cM_0 rfl rfl (Nat.le_of_ble_eq_true rfl) rfl) (fun b1 => ?_)
  refine r_ifz_eq (tgt := 25) dX12_pay_5 rfl (fun h2 => ?_) (fun h2 => ?_)
  · refine r_aload_n dX12_pay_8 rfl ?_
    refine r_iload_n dX12_pay_9 rfl ?_
    refine c_OZ rfl (inv_V (mi := mi_X12_pay) (b := 0) (rest := []) (X12_isKind_ok G x2 M) rfl (by decide) dX12_pay_10 lkm_X12_436 cal_X12_isKind cM_0 rfl rfl (Nat.le_of_ble_eq_true rfl) rfl) (fun b3 => ?_)
    refine r_ifz_eq (tgt := 25) dX12_pay_13 rfl (fun h4 => ?_) (fun h4 => ?_)
    · refine r_aload_n dX12_pay_16 rfl ?_
      refine r_iload_n dX12_pay_17 rfl ?_
      refine r_iload_n dX12_pay_18 rfl ?_
      refine c_OI rfl (inv_V (mi := mi_X12_pay) (b := 0) (rest := []) (X12_payOf_ok G x1 x2 M) rfl (by decide) dX12_pay_19 lkm_X12_433 cal_X12_payOf cM_0 rfl rfl (Nat.le_of_ble_eq_true rfl) rfl) (fun v5 => ?_)
      refine r_goto (tgt := 26) dX12_pay_22 rfl ?_
      exact r_iret (ty := .int) dX12_pay_26 rfl rfl rfl
    refine r_iconst (x := (-1)) dX12_pay_25 rfl ?_
    exact r_iret (ty := .int) dX12_pay_26 rfl rfl rfl
  refine r_iconst (x := (-1)) dX12_pay_25 rfl ?_
  exact r_iret (ty := .int) dX12_pay_26 rfl rfl rfl

theorem dX12_all_0 : decode cX12_all 0 = .ok (.aload_n 0, 1) := by decide +kernel
theorem dX12_all_1 : decode cX12_all 1 = .ok (.iload_n 1, 1) := by decide +kernel
theorem dX12_all_2 : decode cX12_all 2 = .ok (.invokevirtual 436, 3) := by decide +kernel
theorem dX12_all_5 : decode cX12_all 5 = .ok (.ifCond .eq 12, 3) := by decide +kernel
theorem dX12_all_8 : decode cX12_all 8 = .ok (.iload_n 2, 1) := by decide +kernel
theorem dX12_all_9 : decode cX12_all 9 = .ok (.iconst 0, 1) := by decide +kernel
theorem dX12_all_10 : decode cX12_all 10 = .ok (.iconst 1, 1) := by decide +kernel
theorem dX12_all_11 : decode cX12_all 11 = .ok (.invokestatic 401, 3) := by decide +kernel
theorem dX12_all_14 : decode cX12_all 14 = .ok (.ifCond .ne 5, 3) := by decide +kernel
theorem dX12_all_17 : decode cX12_all 17 = .ok (.iconst (-1), 1) := by decide +kernel
theorem dX12_all_18 : decode cX12_all 18 = .ok (.ireturn, 1) := by decide +kernel
theorem dX12_all_19 : decode cX12_all 19 = .ok (.iconst 0, 1) := by decide +kernel
theorem dX12_all_20 : decode cX12_all 20 = .ok (.istore_n 3, 1) := by decide +kernel
theorem dX12_all_21 : decode cX12_all 21 = .ok (.iconst 0, 1) := by decide +kernel
theorem dX12_all_22 : decode cX12_all 22 = .ok (.istore 4, 2) := by decide +kernel
theorem dX12_all_24 : decode cX12_all 24 = .ok (.iload 4, 2) := by decide +kernel
theorem dX12_all_26 : decode cX12_all 26 = .ok (.aload_n 0, 1) := by decide +kernel
theorem dX12_all_27 : decode cX12_all 27 = .ok (.invokevirtual 398, 3) := by decide +kernel
theorem dX12_all_30 : decode cX12_all 30 = .ok (.if_icmp .ge 33, 3) := by decide +kernel
theorem dX12_all_33 : decode cX12_all 33 = .ok (.iload_n 3, 1) := by decide +kernel
theorem dX12_all_34 : decode cX12_all 34 = .ok (.iload_n 2, 1) := by decide +kernel
theorem dX12_all_35 : decode cX12_all 35 = .ok (.ifCond .ne 13, 3) := by decide +kernel
theorem dX12_all_38 : decode cX12_all 38 = .ok (.aload_n 0, 1) := by decide +kernel
theorem dX12_all_39 : decode cX12_all 39 = .ok (.iload 4, 2) := by decide +kernel
theorem dX12_all_41 : decode cX12_all 41 = .ok (.iload_n 1, 1) := by decide +kernel
theorem dX12_all_42 : decode cX12_all 42 = .ok (.invokevirtual 439, 3) := by decide +kernel
theorem dX12_all_45 : decode cX12_all 45 = .ok (.goto 10, 3) := by decide +kernel
theorem dX12_all_48 : decode cX12_all 48 = .ok (.aload_n 0, 1) := by decide +kernel
theorem dX12_all_49 : decode cX12_all 49 = .ok (.iload 4, 2) := by decide +kernel
theorem dX12_all_51 : decode cX12_all 51 = .ok (.iload_n 1, 1) := by decide +kernel
theorem dX12_all_52 : decode cX12_all 52 = .ok (.invokevirtual 388, 3) := by decide +kernel
theorem dX12_all_55 : decode cX12_all 55 = .ok (.iadd, 1) := by decide +kernel
theorem dX12_all_56 : decode cX12_all 56 = .ok (.istore_n 3, 1) := by decide +kernel
theorem dX12_all_57 : decode cX12_all 57 = .ok (.iinc 4 1, 3) := by decide +kernel
theorem dX12_all_60 : decode cX12_all 60 = .ok (.goto (-36), 3) := by decide +kernel
theorem dX12_all_63 : decode cX12_all 63 = .ok (.iload_n 3, 1) := by decide +kernel
theorem dX12_all_64 : decode cX12_all 64 = .ok (.ireturn, 1) := by decide +kernel
abbrev mi_X12_all : MI := (zTM, RX12, yX12_all, cX12_all, 5, (some .int), 4)
theorem cal_X12_all : zCalV mi_X12_all 2 := ⟨⟨zTB_i8 101 (by decide +kernel), zTB_i8 99 (by decide +kernel), zTB_i8 100 (by decide +kernel), zTB_i1 13 (by decide +kernel)⟩, ⟨by decide, by decide, by decide +kernel⟩, by decide⟩
noncomputable def X12_all_L1 (x1 : Int32) (x2 : Int32) (M : Mem) : Nat → Int32 → Int32 → Option (Int32)
  | 0, _, _ => none
  | n + 1, c3, c4 =>
    bo_ (X12_many M) fun v4 =>
    if v4 ≤ c4 then
      some c3
    else
    b1_ (α := Int32) (
      if x2 = 0 then
        bo_ (X12_inPurse c4 x1 M) fun v8 =>
        some v8
      else
      bo_ (X12_overOf c4 x1 M) fun v7 =>
      some v7) fun y9 =>
    X12_all_L1 x1 x2 M n (c3 + y9) (c4 + 1)
noncomputable def X12_all (x1 : Int32) (x2 : Int32) (M : Mem) : Option (Int32) :=
  bo_ (X12_isKind x1 M) fun b1 =>
  if b1 = true then
    if (X12_isIn x2 0 1) = true then
      b1_ (α := Int32) (X12_all_L1 x1 x2 M zFU 0 0) fun e10 =>
      some e10
    else
    some (-1)
  else
  some (-1)
set_option maxRecDepth 100000 in
set_option maxHeartbeats 4000000 in
theorem X12_all_L1_ok (G : Gh) (x1 : Int32) (x2 : Int32) (M : Mem) {dn : Option (Int32) → Option (Option Value × Mem)} (hs : dn none = none) (hx : ∀ (e10 : Int32), Wr G mi_X12_all dn 63 [none, none, none, some (.int e10), none] [] M (some e10)) : ∀ (n : Nat) (c3 : Int32) (c4 : Int32), Wr G mi_X12_all dn 24 [some (.ref (G.2.2.2 (0))), some (.int x1), some (.int x2), some (.int c3), some (.int c4)] [] M (X12_all_L1 x1 x2 M n c3 c4) := by
  intro n
  induction n with
  | zero => intro c3 c4; exact r_none (by exact hs)
  | succ n ih =>
    intro c3 c4
    rw [X12_all_L1]
    refine r_iload dX12_all_24 rfl ?_
    refine r_aload_n dX12_all_26 rfl ?_
    refine c_OI (by exact hs) (inv_V (mi := mi_X12_all) (b := 0) (rest := [.int c4]) (X12_many_ok G M) rfl (by decide) dX12_all_27 lkm_X12_398 cal_X12_many cM_0 rfl rfl (Nat.le_of_ble_eq_true rfl) rfl) (fun v4 => ?_)
    refine r_icmp_ge (tgt := 63) dX12_all_30 rfl (fun h5 => ?_) (fun h5 => ?_)
    · exact r_lk (hx c3) (And.intro rfl True.intro)
    refine r_iload_n dX12_all_33 rfl ?_
    refine r_iload_n dX12_all_34 rfl ?_
    refine r_jB1 (j := 55) (lvj := fun y9 => [some (.ref (G.2.2.2 (0))), some (.int x1), some (.int x2), none, some (.int c4)]) (stj := fun y9 => [.int y9, .int c3]) (Mj := fun y9 => M) (fun y9 => ?_) (fun hj55 => ?_)
    · refine r_iadd dX12_all_55 ?_
      refine r_istore_n (lv' := [some (.ref (G.2.2.2 (0))), some (.int x1), some (.int x2), some (.int (c3 + y9)), some (.int c4)]) dX12_all_56 (Nat.le_of_ble_eq_true rfl) rfl rfl ?_
      refine r_iinc (y := c4 + 1) (lv' := [some (.ref (G.2.2.2 (0))), some (.int x1), some (.int x2), some (.int (c3 + y9)), some (.int (c4 + 1))]) dX12_all_57 rfl rfl (Nat.le_of_ble_eq_true rfl) rfl rfl ?_
      refine r_goto (tgt := 24) dX12_all_60 rfl ?_
      exact r_lk (ih (c3 + y9) (c4 + 1)) (And.intro rfl (And.intro rfl (And.intro rfl (And.intro rfl (And.intro rfl True.intro)))))
    refine r_if_ne (tgt := 48) dX12_all_35 rfl (fun h6 => ?_) (fun h6 => ?_)
    · refine r_aload_n dX12_all_38 rfl ?_
      refine r_iload dX12_all_39 rfl ?_
      refine r_iload_n dX12_all_41 rfl ?_
      refine c_OI (by exact hs) (inv_V (mi := mi_X12_all) (b := 0) (rest := [.int c3]) (X12_inPurse_ok G c4 x1 M) rfl (by decide) dX12_all_42 lkm_X12_439 cal_X12_inPurse cM_0 rfl rfl (Nat.le_of_ble_eq_true rfl) rfl) (fun v8 => ?_)
      refine r_goto (tgt := 55) dX12_all_45 rfl ?_
      exact r_lk (hj55 v8) (And.intro rfl (And.intro rfl (And.intro rfl (And.intro rfl True.intro))))
    refine r_aload_n dX12_all_48 rfl ?_
    refine r_iload dX12_all_49 rfl ?_
    refine r_iload_n dX12_all_51 rfl ?_
    refine c_OI (by exact hs) (inv_V (mi := mi_X12_all) (b := 0) (rest := [.int c3]) (X12_overOf_ok G c4 x1 M) rfl (by decide) dX12_all_52 lkm_X12_388 cal_X12_overOf cM_0 rfl rfl (Nat.le_of_ble_eq_true rfl) rfl) (fun v7 => ?_)
    exact r_lk (hj55 v7) (And.intro rfl (And.intro rfl (And.intro rfl (And.intro rfl True.intro))))
set_option maxRecDepth 100000 in
set_option maxHeartbeats 4000000 in
theorem X12_all_ok (G : Gh) (x1 : Int32) (x2 : Int32) (M : Mem) : Mt G mi_X12_all [.ref (G.2.2.2 (0)), .int x1, .int x2] M ((dO (dI M)) (X12_all x1 x2 M)) := by
  refine Mt_of (lv := [some (.ref (G.2.2.2 (0))), some (.int x1), some (.int x2)]) (by decide) rfl (Nat.le_of_ble_eq_true rfl) rfl ?_
  refine r_le (lv' := [some (.ref (G.2.2.2 (0))), some (.int x1), some (.int x2), none, none]) (And.intro rfl (And.intro rfl (And.intro rfl True.intro))) ?_
  unfold X12_all
  refine r_aload_n dX12_all_0 rfl ?_
  refine r_iload_n dX12_all_1 rfl ?_
  refine c_OZ rfl (inv_V (mi := mi_X12_all) (b := 0) (rest := []) (X12_isKind_ok G x1 M) rfl (by decide) dX12_all_2 lkm_X12_436 cal_X12_isKind cM_0 rfl rfl (Nat.le_of_ble_eq_true rfl) rfl) (fun b1 => ?_)
  refine r_ifz_eq (tgt := 17) dX12_all_5 rfl (fun h2 => ?_) (fun h2 => ?_)
  · refine r_iload_n dX12_all_8 rfl ?_
    refine r_iconst (x := 0) dX12_all_9 rfl ?_
    refine r_iconst (x := 1) dX12_all_10 rfl ?_
    refine c_Z (inv_S (mi := mi_X12_all) (rest := []) (X12_isIn_ok G x2 0 1 M) rfl (by decide) dX12_all_11 lkm_X12_401 cal_X12_isIn rfl (Nat.le_of_ble_eq_true rfl) rfl) ?_
    refine r_ifz_ne (tgt := 19) dX12_all_14 rfl (fun h3 => ?_) (fun h3 => ?_)
    · refine r_iconst (x := 0) dX12_all_19 rfl ?_
      refine r_istore_n (lv' := [some (.ref (G.2.2.2 (0))), some (.int x1), some (.int x2), some (.int 0), none]) dX12_all_20 (Nat.le_of_ble_eq_true rfl) rfl rfl ?_
      refine r_iconst (x := 0) dX12_all_21 rfl ?_
      refine r_istore (lv' := [some (.ref (G.2.2.2 (0))), some (.int x1), some (.int x2), some (.int 0), some (.int 0)]) dX12_all_22 (Nat.le_of_ble_eq_true rfl) rfl rfl ?_
      refine r_jB1 (j := 63) (lvj := fun e10 => [none, none, none, some (.int e10), none]) (stj := fun e10 => []) (Mj := fun e10 => M) (fun e10 => ?_) (fun hj63 => ?_)
      · refine r_iload_n dX12_all_63 rfl ?_
        exact r_iret (ty := .int) dX12_all_64 rfl rfl rfl
      exact r_lk (X12_all_L1_ok G x1 x2 M rfl hj63 zFU 0 0) (And.intro rfl (And.intro rfl (And.intro rfl (And.intro rfl (And.intro rfl True.intro)))))
    refine r_iconst (x := (-1)) dX12_all_17 rfl ?_
    exact r_iret (ty := .int) dX12_all_18 rfl rfl rfl
  refine r_iconst (x := (-1)) dX12_all_17 rfl ?_
  exact r_iret (ty := .int) dX12_all_18 rfl rfl rfl

theorem dX12_leftOf_0 : decode cX12_leftOf 0 = .ok (.aload_n 0, 1) := by decide +kernel
theorem dX12_leftOf_1 : decode cX12_leftOf 1 = .ok (.getfield 36, 3) := by decide +kernel
theorem dX12_leftOf_4 : decode cX12_leftOf 4 = .ok (.aload_n 0, 1) := by decide +kernel
theorem dX12_leftOf_5 : decode cX12_leftOf 5 = .ok (.getfield 301, 3) := by decide +kernel
theorem dX12_leftOf_8 : decode cX12_leftOf 8 = .ok (.iaload, 1) := by decide +kernel
theorem dX12_leftOf_9 : decode cX12_leftOf 9 = .ok (.aload_n 0, 1) := by decide +kernel
theorem dX12_leftOf_10 : decode cX12_leftOf 10 = .ok (.getfield 113, 3) := by decide +kernel
theorem dX12_leftOf_13 : decode cX12_leftOf 13 = .ok (.bipush 35, 2) := by decide +kernel
theorem dX12_leftOf_15 : decode cX12_leftOf 15 = .ok (.iload_n 1, 1) := by decide +kernel
theorem dX12_leftOf_16 : decode cX12_leftOf 16 = .ok (.iadd, 1) := by decide +kernel
theorem dX12_leftOf_17 : decode cX12_leftOf 17 = .ok (.iaload, 1) := by decide +kernel
theorem dX12_leftOf_18 : decode cX12_leftOf 18 = .ok (.isub, 1) := by decide +kernel
theorem dX12_leftOf_19 : decode cX12_leftOf 19 = .ok (.ireturn, 1) := by decide +kernel
abbrev mi_X12_leftOf : MI := (zTM, RX12, yX12_leftOf, cX12_leftOf, 2, (some .int), 2)
theorem cal_X12_leftOf : zCalV mi_X12_leftOf 1 := ⟨⟨zTB_i8 109 (by decide +kernel), zTB_i8 108 (by decide +kernel), zTB_i0 87 (by decide +kernel), zTB_i1 13 (by decide +kernel)⟩, ⟨by decide, by decide, by decide +kernel⟩, by decide⟩
noncomputable def X12_leftOf (x1 : Int32) (M : Mem) : Option (Int32) :=
  gd_ (inb (M.1 0 41) (2) = true) (
  gd_ (inb (35 + x1) (42) = true) (
  some ((M.1 8 ((M.1 0 41).toNatClampNeg)) - (M.1 33 ((35 + x1).toNatClampNeg)))))
set_option maxRecDepth 100000 in
set_option maxHeartbeats 4000000 in
theorem X12_leftOf_ok (G : Gh) (x1 : Int32) (M : Mem) : Mt G mi_X12_leftOf [.ref (G.2.2.2 (0)), .int x1] M ((dO (dI M)) (X12_leftOf x1 M)) := by
  refine Mt_of (lv := [some (.ref (G.2.2.2 (0))), some (.int x1)]) (by decide) rfl (Nat.le_of_ble_eq_true rfl) rfl ?_
  unfold X12_leftOf
  refine r_aload_n dX12_leftOf_0 rfl ?_
  refine r_getf (v := .ref (G.2.2.2 (8))) dX12_leftOf_1 fM_0_16 kX12 (by decide) lkf_X12_36 rfl ?_
  refine r_aload_n dX12_leftOf_4 rfl ?_
  refine r_getf (v := .int (M.1 0 41)) dX12_leftOf_5 fM_0_41 kX12 (by decide) lkf_X12_301 rfl ?_
  refine r_gd rfl (fun g1 => ?_)
  refine r_iald dX12_leftOf_8 aM_8 (inb_in g1) rfl ?_
  refine r_aload_n dX12_leftOf_9 rfl ?_
  refine r_getf (v := .ref (G.2.2.2 (33))) dX12_leftOf_10 fM_0_48 kX12 (by decide) lkf_X12_113 rfl ?_
  refine r_bipush (x := 35) dX12_leftOf_13 rfl ?_
  refine r_iload_n dX12_leftOf_15 rfl ?_
  refine r_iadd dX12_leftOf_16 ?_
  refine r_gd rfl (fun g2 => ?_)
  refine r_iald dX12_leftOf_17 aM_33 (inb_in g2) rfl ?_
  refine r_isub dX12_leftOf_18 ?_
  exact r_iret (ty := .int) dX12_leftOf_19 rfl rfl rfl

theorem dX12_left_0 : decode cX12_left 0 = .ok (.aload_n 0, 1) := by decide +kernel
theorem dX12_left_1 : decode cX12_left 1 = .ok (.iload_n 1, 1) := by decide +kernel
theorem dX12_left_2 : decode cX12_left 2 = .ok (.invokevirtual 426, 3) := by decide +kernel
theorem dX12_left_5 : decode cX12_left 5 = .ok (.ifCond .eq 11, 3) := by decide +kernel
theorem dX12_left_8 : decode cX12_left 8 = .ok (.aload_n 0, 1) := by decide +kernel
theorem dX12_left_9 : decode cX12_left 9 = .ok (.iload_n 1, 1) := by decide +kernel
theorem dX12_left_10 : decode cX12_left 10 = .ok (.invokevirtual 442, 3) := by decide +kernel
theorem dX12_left_13 : decode cX12_left 13 = .ok (.goto 4, 3) := by decide +kernel
theorem dX12_left_16 : decode cX12_left 16 = .ok (.iconst (-1), 1) := by decide +kernel
theorem dX12_left_17 : decode cX12_left 17 = .ok (.ireturn, 1) := by decide +kernel
abbrev mi_X12_left : MI := (zTM, RX12, yX12_left, cX12_left, 2, (some .int), 4)
theorem cal_X12_left : zCalV mi_X12_left 1 := ⟨⟨zTB_i8 105 (by decide +kernel), zTB_i8 103 (by decide +kernel), zTB_i8 104 (by decide +kernel), zTB_i1 13 (by decide +kernel)⟩, ⟨by decide, by decide, by decide +kernel⟩, by decide⟩
noncomputable def X12_left (x1 : Int32) (M : Mem) : Option (Int32) :=
  bo_ (X12_isMan x1 M) fun b1 =>
  if b1 = true then
    bo_ (X12_leftOf x1 M) fun v3 =>
    some v3
  else
  some (-1)
set_option maxRecDepth 100000 in
set_option maxHeartbeats 4000000 in
theorem X12_left_ok (G : Gh) (x1 : Int32) (M : Mem) : Mt G mi_X12_left [.ref (G.2.2.2 (0)), .int x1] M ((dO (dI M)) (X12_left x1 M)) := by
  refine Mt_of (lv := [some (.ref (G.2.2.2 (0))), some (.int x1)]) (by decide) rfl (Nat.le_of_ble_eq_true rfl) rfl ?_
  unfold X12_left
  refine r_aload_n dX12_left_0 rfl ?_
  refine r_iload_n dX12_left_1 rfl ?_
  refine c_OZ rfl (inv_V (mi := mi_X12_left) (b := 0) (rest := []) (X12_isMan_ok G x1 M) rfl (by decide) dX12_left_2 lkm_X12_426 cal_X12_isMan cM_0 rfl rfl (Nat.le_of_ble_eq_true rfl) rfl) (fun b1 => ?_)
  refine r_ifz_eq (tgt := 16) dX12_left_5 rfl (fun h2 => ?_) (fun h2 => ?_)
  · refine r_aload_n dX12_left_8 rfl ?_
    refine r_iload_n dX12_left_9 rfl ?_
    refine c_OI rfl (inv_V (mi := mi_X12_left) (b := 0) (rest := []) (X12_leftOf_ok G x1 M) rfl (by decide) dX12_left_10 lkm_X12_442 cal_X12_leftOf cM_0 rfl rfl (Nat.le_of_ble_eq_true rfl) rfl) (fun v3 => ?_)
    refine r_goto (tgt := 17) dX12_left_13 rfl ?_
    exact r_iret (ty := .int) dX12_left_17 rfl rfl rfl
  refine r_iconst (x := (-1)) dX12_left_16 rfl ?_
  exact r_iret (ty := .int) dX12_left_17 rfl rfl rfl

theorem dX12_keepAct_0 : decode cX12_keepAct 0 = .ok (.aload_n 0, 1) := by decide +kernel
theorem dX12_keepAct_1 : decode cX12_keepAct 1 = .ok (.getfield 405, 3) := by decide +kernel
theorem dX12_keepAct_4 : decode cX12_keepAct 4 = .ok (.bipush 40, 2) := by decide +kernel
theorem dX12_keepAct_6 : decode cX12_keepAct 6 = .ok (.if_icmp .ne 43, 3) := by decide +kernel
theorem dX12_keepAct_9 : decode cX12_keepAct 9 = .ok (.iconst 0, 1) := by decide +kernel
theorem dX12_keepAct_10 : decode cX12_keepAct 10 = .ok (.istore_n 1, 1) := by decide +kernel
theorem dX12_keepAct_11 : decode cX12_keepAct 11 = .ok (.iload_n 1, 1) := by decide +kernel
theorem dX12_keepAct_12 : decode cX12_keepAct 12 = .ok (.sipush 1680, 3) := by decide +kernel
theorem dX12_keepAct_15 : decode cX12_keepAct 15 = .ok (.if_icmp .ge 24, 3) := by decide +kernel
theorem dX12_keepAct_18 : decode cX12_keepAct 18 = .ok (.aload_n 0, 1) := by decide +kernel
theorem dX12_keepAct_19 : decode cX12_keepAct 19 = .ok (.getfield 116, 3) := by decide +kernel
theorem dX12_keepAct_22 : decode cX12_keepAct 22 = .ok (.iload_n 1, 1) := by decide +kernel
theorem dX12_keepAct_23 : decode cX12_keepAct 23 = .ok (.aload_n 0, 1) := by decide +kernel
theorem dX12_keepAct_24 : decode cX12_keepAct 24 = .ok (.getfield 116, 3) := by decide +kernel
theorem dX12_keepAct_27 : decode cX12_keepAct 27 = .ok (.iload_n 1, 1) := by decide +kernel
theorem dX12_keepAct_28 : decode cX12_keepAct 28 = .ok (.bipush 42, 2) := by decide +kernel
theorem dX12_keepAct_30 : decode cX12_keepAct 30 = .ok (.iadd, 1) := by decide +kernel
theorem dX12_keepAct_31 : decode cX12_keepAct 31 = .ok (.iaload, 1) := by decide +kernel
theorem dX12_keepAct_32 : decode cX12_keepAct 32 = .ok (.iastore, 1) := by decide +kernel
theorem dX12_keepAct_33 : decode cX12_keepAct 33 = .ok (.iinc 1 1, 3) := by decide +kernel
theorem dX12_keepAct_36 : decode cX12_keepAct 36 = .ok (.goto (-25), 3) := by decide +kernel
theorem dX12_keepAct_39 : decode cX12_keepAct 39 = .ok (.aload_n 0, 1) := by decide +kernel
theorem dX12_keepAct_40 : decode cX12_keepAct 40 = .ok (.dup, 1) := by decide +kernel
theorem dX12_keepAct_41 : decode cX12_keepAct 41 = .ok (.getfield 405, 3) := by decide +kernel
theorem dX12_keepAct_44 : decode cX12_keepAct 44 = .ok (.iconst 1, 1) := by decide +kernel
theorem dX12_keepAct_45 : decode cX12_keepAct 45 = .ok (.isub, 1) := by decide +kernel
theorem dX12_keepAct_46 : decode cX12_keepAct 46 = .ok (.putfield 405, 3) := by decide +kernel
theorem dX12_keepAct_49 : decode cX12_keepAct 49 = .ok (.iconst 0, 1) := by decide +kernel
theorem dX12_keepAct_50 : decode cX12_keepAct 50 = .ok (.istore_n 1, 1) := by decide +kernel
theorem dX12_keepAct_51 : decode cX12_keepAct 51 = .ok (.iload_n 1, 1) := by decide +kernel
theorem dX12_keepAct_52 : decode cX12_keepAct 52 = .ok (.bipush 42, 2) := by decide +kernel
theorem dX12_keepAct_54 : decode cX12_keepAct 54 = .ok (.if_icmp .ge 29, 3) := by decide +kernel
theorem dX12_keepAct_57 : decode cX12_keepAct 57 = .ok (.aload_n 0, 1) := by decide +kernel
theorem dX12_keepAct_58 : decode cX12_keepAct 58 = .ok (.getfield 116, 3) := by decide +kernel
theorem dX12_keepAct_61 : decode cX12_keepAct 61 = .ok (.bipush 42, 2) := by decide +kernel
theorem dX12_keepAct_63 : decode cX12_keepAct 63 = .ok (.aload_n 0, 1) := by decide +kernel
theorem dX12_keepAct_64 : decode cX12_keepAct 64 = .ok (.getfield 405, 3) := by decide +kernel
theorem dX12_keepAct_67 : decode cX12_keepAct 67 = .ok (.imul, 1) := by decide +kernel
theorem dX12_keepAct_68 : decode cX12_keepAct 68 = .ok (.iload_n 1, 1) := by decide +kernel
theorem dX12_keepAct_69 : decode cX12_keepAct 69 = .ok (.iadd, 1) := by decide +kernel
theorem dX12_keepAct_70 : decode cX12_keepAct 70 = .ok (.aload_n 0, 1) := by decide +kernel
theorem dX12_keepAct_71 : decode cX12_keepAct 71 = .ok (.getfield 113, 3) := by decide +kernel
theorem dX12_keepAct_74 : decode cX12_keepAct 74 = .ok (.iload_n 1, 1) := by decide +kernel
theorem dX12_keepAct_75 : decode cX12_keepAct 75 = .ok (.iaload, 1) := by decide +kernel
theorem dX12_keepAct_76 : decode cX12_keepAct 76 = .ok (.iastore, 1) := by decide +kernel
theorem dX12_keepAct_77 : decode cX12_keepAct 77 = .ok (.iinc 1 1, 3) := by decide +kernel
theorem dX12_keepAct_80 : decode cX12_keepAct 80 = .ok (.goto (-29), 3) := by decide +kernel
theorem dX12_keepAct_83 : decode cX12_keepAct 83 = .ok (.aload_n 0, 1) := by decide +kernel
theorem dX12_keepAct_84 : decode cX12_keepAct 84 = .ok (.dup, 1) := by decide +kernel
theorem dX12_keepAct_85 : decode cX12_keepAct 85 = .ok (.getfield 405, 3) := by decide +kernel
theorem dX12_keepAct_88 : decode cX12_keepAct 88 = .ok (.iconst 1, 1) := by decide +kernel
theorem dX12_keepAct_89 : decode cX12_keepAct 89 = .ok (.iadd, 1) := by decide +kernel
theorem dX12_keepAct_90 : decode cX12_keepAct 90 = .ok (.putfield 405, 3) := by decide +kernel
theorem dX12_keepAct_93 : decode cX12_keepAct 93 = .ok (.aload_n 0, 1) := by decide +kernel
theorem dX12_keepAct_94 : decode cX12_keepAct 94 = .ok (.iconst 0, 1) := by decide +kernel
theorem dX12_keepAct_95 : decode cX12_keepAct 95 = .ok (.putfield 408, 3) := by decide +kernel
theorem dX12_keepAct_98 : decode cX12_keepAct 98 = .ok (.return_, 1) := by decide +kernel
abbrev mi_X12_keepAct : MI := (zTM, RX12, yX12_keepAct, cX12_keepAct, 2, none, 2)
theorem cal_X12_keepAct : zCalV mi_X12_keepAct 0 := ⟨⟨zTB_i8 117 (by decide +kernel), zTB_i8 116 (by decide +kernel), zTB_i0 88 (by decide +kernel), zTB_i1 13 (by decide +kernel)⟩, ⟨by decide, by decide, by decide +kernel⟩, by decide⟩
noncomputable def X12_keepAct_L2 : Nat → Int32 → Mem → Option (Mem)
  | 0, _, _ => none
  | n + 1, c1, M =>
    if 42 ≤ c1 then
      some M
    else
    gd_ (inb c1 (42) = true) (
    gd_ (inb ((42 * (M.1 0 50)) + c1) (1722) = true) (
    lt_ (uI M 34 (((42 * (M.1 0 50)) + c1).toNatClampNeg) (M.1 33 c1.toNatClampNeg)) fun M12 =>
    X12_keepAct_L2 n (c1 + 1) M12))
noncomputable def X12_keepAct_L1 : Nat → Int32 → Mem → Option (Mem)
  | 0, _, _ => none
  | n + 1, c1, M =>
    if 1680 ≤ c1 then
      some M
    else
    gd_ (inb (c1 + 42) (1722) = true) (
    gd_ (inb c1 (1722) = true) (
    lt_ (uI M 34 c1.toNatClampNeg (M.1 34 ((c1 + 42).toNatClampNeg))) fun M5 =>
    X12_keepAct_L1 n (c1 + 1) M5))
noncomputable def X12_keepAct (M : Mem) : Option (Mem) :=
  b1_ (α := Mem) (
    if (M.1 0 50) = 40 then
      b1_ (α := Mem) (X12_keepAct_L1 zFU 0 M) fun M6 =>
      lt_ (uI M6 0 50 ((M6.1 0 50) - 1)) fun M7 =>
      some M7
    else
    some M) fun M8 =>
  b1_ (α := Mem) (X12_keepAct_L2 zFU 0 M8) fun M13 =>
  lt_ (uI M13 0 50 ((M13.1 0 50) + 1)) fun M14 =>
  lt_ (uI M14 0 51 0) fun M15 =>
  some M15
set_option maxRecDepth 100000 in
set_option maxHeartbeats 4000000 in
theorem X12_keepAct_L2_ok (G : Gh) {dn : Option (Mem) → Option (Option Value × Mem)} (hs : dn none = none) (hx : ∀ (M13 : Mem), Wr G mi_X12_keepAct dn 83 [some (.ref (G.2.2.2 (0))), none] [] M13 (some M13)) : ∀ (n : Nat) (c1 : Int32) (M : Mem), Wr G mi_X12_keepAct dn 51 [some (.ref (G.2.2.2 (0))), some (.int c1)] [] M (X12_keepAct_L2 n c1 M) := by
  intro n
  induction n with
  | zero => intro c1 M; exact r_none (by exact hs)
  | succ n ih =>
    intro c1 M
    rw [X12_keepAct_L2]
    refine r_iload_n dX12_keepAct_51 rfl ?_
    refine r_bipush (x := 42) dX12_keepAct_52 rfl ?_
    refine r_icmp_ge (tgt := 83) dX12_keepAct_54 rfl (fun h9 => ?_) (fun h9 => ?_)
    · exact r_lk (hx M) (And.intro rfl True.intro)
    refine r_aload_n dX12_keepAct_57 rfl ?_
    refine r_getf (v := .ref (G.2.2.2 (34))) dX12_keepAct_58 fM_0_49 kX12 (by decide) lkf_X12_116 rfl ?_
    refine r_bipush (x := 42) dX12_keepAct_61 rfl ?_
    refine r_aload_n dX12_keepAct_63 rfl ?_
    refine r_getf (v := .int (M.1 0 50)) dX12_keepAct_64 fM_0_50 kX12 (by decide) lkf_X12_405 rfl ?_
    refine r_imul dX12_keepAct_67 ?_
    refine r_iload_n dX12_keepAct_68 rfl ?_
    refine r_iadd dX12_keepAct_69 ?_
    refine r_aload_n dX12_keepAct_70 rfl ?_
    refine r_getf (v := .ref (G.2.2.2 (33))) dX12_keepAct_71 fM_0_48 kX12 (by decide) lkf_X12_113 rfl ?_
    refine r_iload_n dX12_keepAct_74 rfl ?_
    refine r_gd (by exact hs) (fun g10 => ?_)
    refine r_iald dX12_keepAct_75 aM_33 (inb_in g10) rfl ?_
    refine r_gd (by exact hs) (fun g11 => ?_)
    refine r_iast dX12_keepAct_76 aM_34 (inb_in g11) rfl (fun M12 => ?_)
    refine r_iinc (y := c1 + 1) (lv' := [some (.ref (G.2.2.2 (0))), some (.int (c1 + 1))]) dX12_keepAct_77 rfl rfl (Nat.le_of_ble_eq_true rfl) rfl rfl ?_
    refine r_goto (tgt := 51) dX12_keepAct_80 rfl ?_
    exact r_lk (ih (c1 + 1) M12) (And.intro rfl (And.intro rfl True.intro))
set_option maxRecDepth 100000 in
set_option maxHeartbeats 4000000 in
theorem X12_keepAct_L1_ok (G : Gh) {dn : Option (Mem) → Option (Option Value × Mem)} (hs : dn none = none) (hx : ∀ (M6 : Mem), Wr G mi_X12_keepAct dn 39 [some (.ref (G.2.2.2 (0))), none] [] M6 (some M6)) : ∀ (n : Nat) (c1 : Int32) (M : Mem), Wr G mi_X12_keepAct dn 11 [some (.ref (G.2.2.2 (0))), some (.int c1)] [] M (X12_keepAct_L1 n c1 M) := by
  intro n
  induction n with
  | zero => intro c1 M; exact r_none (by exact hs)
  | succ n ih =>
    intro c1 M
    rw [X12_keepAct_L1]
    refine r_iload_n dX12_keepAct_11 rfl ?_
    refine r_sipush (x := 1680) dX12_keepAct_12 rfl ?_
    refine r_icmp_ge (tgt := 39) dX12_keepAct_15 rfl (fun h2 => ?_) (fun h2 => ?_)
    · exact r_lk (hx M) (And.intro rfl True.intro)
    refine r_aload_n dX12_keepAct_18 rfl ?_
    refine r_getf (v := .ref (G.2.2.2 (34))) dX12_keepAct_19 fM_0_49 kX12 (by decide) lkf_X12_116 rfl ?_
    refine r_iload_n dX12_keepAct_22 rfl ?_
    refine r_aload_n dX12_keepAct_23 rfl ?_
    refine r_getf (v := .ref (G.2.2.2 (34))) dX12_keepAct_24 fM_0_49 kX12 (by decide) lkf_X12_116 rfl ?_
    refine r_iload_n dX12_keepAct_27 rfl ?_
    refine r_bipush (x := 42) dX12_keepAct_28 rfl ?_
    refine r_iadd dX12_keepAct_30 ?_
    refine r_gd (by exact hs) (fun g3 => ?_)
    refine r_iald dX12_keepAct_31 aM_34 (inb_in g3) rfl ?_
    refine r_gd (by exact hs) (fun g4 => ?_)
    refine r_iast dX12_keepAct_32 aM_34 (inb_in g4) rfl (fun M5 => ?_)
    refine r_iinc (y := c1 + 1) (lv' := [some (.ref (G.2.2.2 (0))), some (.int (c1 + 1))]) dX12_keepAct_33 rfl rfl (Nat.le_of_ble_eq_true rfl) rfl rfl ?_
    refine r_goto (tgt := 11) dX12_keepAct_36 rfl ?_
    exact r_lk (ih (c1 + 1) M5) (And.intro rfl (And.intro rfl True.intro))
set_option maxRecDepth 100000 in
set_option maxHeartbeats 4000000 in
theorem X12_keepAct_ok (G : Gh) (M : Mem) : Mt G mi_X12_keepAct [.ref (G.2.2.2 (0))] M ((dO dV) (X12_keepAct M)) := by
  refine Mt_of (lv := [some (.ref (G.2.2.2 (0)))]) (by decide) rfl (Nat.le_of_ble_eq_true rfl) rfl ?_
  refine r_le (lv' := [some (.ref (G.2.2.2 (0))), none]) (And.intro rfl True.intro) ?_
  unfold X12_keepAct
  refine r_aload_n dX12_keepAct_0 rfl ?_
  refine r_getf (v := .int (M.1 0 50)) dX12_keepAct_1 fM_0_50 kX12 (by decide) lkf_X12_405 rfl ?_
  refine r_bipush (x := 40) dX12_keepAct_4 rfl ?_
  refine r_jB1 (j := 49) (lvj := fun M8 => [some (.ref (G.2.2.2 (0))), none]) (stj := fun M8 => []) (Mj := fun M8 => M8) (fun M8 => ?_) (fun hj49 => ?_)
  · refine r_iconst (x := 0) dX12_keepAct_49 rfl ?_
    refine r_istore_n (lv' := [some (.ref (G.2.2.2 (0))), some (.int 0)]) dX12_keepAct_50 (Nat.le_of_ble_eq_true rfl) rfl rfl ?_
    refine r_jB1 (j := 83) (lvj := fun M13 => [some (.ref (G.2.2.2 (0))), none]) (stj := fun M13 => []) (Mj := fun M13 => M13) (fun M13 => ?_) (fun hj83 => ?_)
    · refine r_aload_n dX12_keepAct_83 rfl ?_
      refine r_dup dX12_keepAct_84 rfl ?_
      refine r_getf (v := .int (M13.1 0 50)) dX12_keepAct_85 fM_0_50 kX12 (by decide) lkf_X12_405 rfl ?_
      refine r_iconst (x := 1) dX12_keepAct_88 rfl ?_
      refine r_iadd dX12_keepAct_89 ?_
      refine r_putI dX12_keepAct_90 fM_0_50 kX12 (by decide) rfl rfl lkf_X12_405 (fun _ => rfl) rfl rfl (fun M14 => ?_)
      refine r_aload_n dX12_keepAct_93 rfl ?_
      refine r_iconst (x := 0) dX12_keepAct_94 rfl ?_
      refine r_putI dX12_keepAct_95 fM_0_51 kX12 (by decide) rfl rfl lkf_X12_408 (fun _ => rfl) rfl rfl (fun M15 => ?_)
      exact r_vret dX12_keepAct_98 rfl rfl
    exact r_lk (X12_keepAct_L2_ok G rfl hj83 zFU 0 M8) (And.intro rfl (And.intro rfl True.intro))
  refine r_icmp_ne (tgt := 49) dX12_keepAct_6 rfl (fun h1 => ?_) (fun h1 => ?_)
  · refine r_iconst (x := 0) dX12_keepAct_9 rfl ?_
    refine r_istore_n (lv' := [some (.ref (G.2.2.2 (0))), some (.int 0)]) dX12_keepAct_10 (Nat.le_of_ble_eq_true rfl) rfl rfl ?_
    refine r_jB1 (j := 39) (lvj := fun M6 => [some (.ref (G.2.2.2 (0))), none]) (stj := fun M6 => []) (Mj := fun M6 => M6) (fun M6 => ?_) (fun hj39 => ?_)
    · refine r_aload_n dX12_keepAct_39 rfl ?_
      refine r_dup dX12_keepAct_40 rfl ?_
      refine r_getf (v := .int (M6.1 0 50)) dX12_keepAct_41 fM_0_50 kX12 (by decide) lkf_X12_405 rfl ?_
      refine r_iconst (x := 1) dX12_keepAct_44 rfl ?_
      refine r_isub dX12_keepAct_45 ?_
      refine r_putI dX12_keepAct_46 fM_0_50 kX12 (by decide) rfl rfl lkf_X12_405 (fun _ => rfl) rfl rfl (fun M7 => ?_)
      exact r_lk (hj49 M7) (And.intro rfl True.intro)
    exact r_lk (X12_keepAct_L1_ok G rfl hj39 zFU 0 M) (And.intro rfl (And.intro rfl True.intro))
  exact r_lk (hj49 M) (And.intro rfl True.intro)

theorem dX12_leakTo_0 : decode cX12_leakTo 0 = .ok (.iload_n 2, 1) := by decide +kernel
theorem dX12_leakTo_1 : decode cX12_leakTo 1 = .ok (.bipush 10, 2) := by decide +kernel
theorem dX12_leakTo_3 : decode cX12_leakTo 3 = .ok (.aload_n 0, 1) := by decide +kernel
theorem dX12_leakTo_4 : decode cX12_leakTo 4 = .ok (.getfield 51, 3) := by decide +kernel
theorem dX12_leakTo_7 : decode cX12_leakTo 7 = .ok (.iconst 5, 1) := by decide +kernel
theorem dX12_leakTo_8 : decode cX12_leakTo 8 = .ok (.aload_n 0, 1) := by decide +kernel
theorem dX12_leakTo_9 : decode cX12_leakTo 9 = .ok (.getfield 301, 3) := by decide +kernel
theorem dX12_leakTo_12 : decode cX12_leakTo 12 = .ok (.imul, 1) := by decide +kernel
theorem dX12_leakTo_13 : decode cX12_leakTo 13 = .ok (.iload_n 1, 1) := by decide +kernel
theorem dX12_leakTo_14 : decode cX12_leakTo 14 = .ok (.iadd, 1) := by decide +kernel
theorem dX12_leakTo_15 : decode cX12_leakTo 15 = .ok (.iaload, 1) := by decide +kernel
theorem dX12_leakTo_16 : decode cX12_leakTo 16 = .ok (.isub, 1) := by decide +kernel
theorem dX12_leakTo_17 : decode cX12_leakTo 17 = .ok (.imul, 1) := by decide +kernel
theorem dX12_leakTo_18 : decode cX12_leakTo 18 = .ok (.bipush 10, 2) := by decide +kernel
theorem dX12_leakTo_20 : decode cX12_leakTo 20 = .ok (.idiv, 1) := by decide +kernel
theorem dX12_leakTo_21 : decode cX12_leakTo 21 = .ok (.ireturn, 1) := by decide +kernel
abbrev mi_X12_leakTo : MI := (zTM, RX12, yX12_leakTo, cX12_leakTo, 3, (some .int), 2)
theorem cal_X12_leakTo : zCalV mi_X12_leakTo 2 := ⟨⟨zTB_i8 125 (by decide +kernel), zTB_i8 124 (by decide +kernel), zTB_i0 90 (by decide +kernel), zTB_i1 13 (by decide +kernel)⟩, ⟨by decide, by decide, by decide +kernel⟩, by decide⟩
noncomputable def X12_leakTo (x1 : Int32) (x2 : Int32) (M : Mem) : Option (Int32) :=
  gd_ (inb ((5 * (M.1 0 41)) + x1) (10) = true) (
  some ((x2 * (10 - (M.1 13 (((5 * (M.1 0 41)) + x1).toNatClampNeg)))) / 10))
set_option maxRecDepth 100000 in
set_option maxHeartbeats 4000000 in
theorem X12_leakTo_ok (G : Gh) (x1 : Int32) (x2 : Int32) (M : Mem) : Mt G mi_X12_leakTo [.ref (G.2.2.2 (0)), .int x1, .int x2] M ((dO (dI M)) (X12_leakTo x1 x2 M)) := by
  refine Mt_of (lv := [some (.ref (G.2.2.2 (0))), some (.int x1), some (.int x2)]) (by decide) rfl (Nat.le_of_ble_eq_true rfl) rfl ?_
  unfold X12_leakTo
  refine r_iload_n dX12_leakTo_0 rfl ?_
  refine r_bipush (x := 10) dX12_leakTo_1 rfl ?_
  refine r_aload_n dX12_leakTo_3 rfl ?_
  refine r_getf (v := .ref (G.2.2.2 (13))) dX12_leakTo_4 fM_0_21 kX12 (by decide) lkf_X12_51 rfl ?_
  refine r_iconst (x := 5) dX12_leakTo_7 rfl ?_
  refine r_aload_n dX12_leakTo_8 rfl ?_
  refine r_getf (v := .int (M.1 0 41)) dX12_leakTo_9 fM_0_41 kX12 (by decide) lkf_X12_301 rfl ?_
  refine r_imul dX12_leakTo_12 ?_
  refine r_iload_n dX12_leakTo_13 rfl ?_
  refine r_iadd dX12_leakTo_14 ?_
  refine r_gd rfl (fun g1 => ?_)
  refine r_iald dX12_leakTo_15 aM_13 (inb_in g1) rfl ?_
  refine r_isub dX12_leakTo_16 ?_
  refine r_imul dX12_leakTo_17 ?_
  refine r_bipush (x := 10) dX12_leakTo_18 rfl ?_
  refine r_idiv dX12_leakTo_20 (by decide) ?_
  exact r_iret (ty := .int) dX12_leakTo_21 rfl rfl rfl

theorem dX12_lay_0 : decode cX12_lay 0 = .ok (.aload_n 0, 1) := by decide +kernel
theorem dX12_lay_1 : decode cX12_lay 1 = .ok (.getfield 113, 3) := by decide +kernel
theorem dX12_lay_4 : decode cX12_lay 4 = .ok (.bipush 20, 2) := by decide +kernel
theorem dX12_lay_6 : decode cX12_lay 6 = .ok (.iconst 3, 1) := by decide +kernel
theorem dX12_lay_7 : decode cX12_lay 7 = .ok (.iload_n 1, 1) := by decide +kernel
theorem dX12_lay_8 : decode cX12_lay 8 = .ok (.imul, 1) := by decide +kernel
theorem dX12_lay_9 : decode cX12_lay 9 = .ok (.iadd, 1) := by decide +kernel
theorem dX12_lay_10 : decode cX12_lay 10 = .ok (.iload_n 2, 1) := by decide +kernel
theorem dX12_lay_11 : decode cX12_lay 11 = .ok (.iadd, 1) := by decide +kernel
theorem dX12_lay_12 : decode cX12_lay 12 = .ok (.dup2, 1) := by decide +kernel
theorem dX12_lay_13 : decode cX12_lay 13 = .ok (.iaload, 1) := by decide +kernel
theorem dX12_lay_14 : decode cX12_lay 14 = .ok (.iload 4, 2) := by decide +kernel
theorem dX12_lay_16 : decode cX12_lay 16 = .ok (.iload_n 3, 1) := by decide +kernel
theorem dX12_lay_17 : decode cX12_lay 17 = .ok (.imul, 1) := by decide +kernel
theorem dX12_lay_18 : decode cX12_lay 18 = .ok (.iadd, 1) := by decide +kernel
theorem dX12_lay_19 : decode cX12_lay 19 = .ok (.iastore, 1) := by decide +kernel
theorem dX12_lay_20 : decode cX12_lay 20 = .ok (.iload_n 1, 1) := by decide +kernel
theorem dX12_lay_21 : decode cX12_lay 21 = .ok (.ifCond .le 32, 3) := by decide +kernel
theorem dX12_lay_24 : decode cX12_lay 24 = .ok (.aload_n 0, 1) := by decide +kernel
theorem dX12_lay_25 : decode cX12_lay 25 = .ok (.getfield 113, 3) := by decide +kernel
theorem dX12_lay_28 : decode cX12_lay 28 = .ok (.bipush 20, 2) := by decide +kernel
theorem dX12_lay_30 : decode cX12_lay 30 = .ok (.iconst 3, 1) := by decide +kernel
theorem dX12_lay_31 : decode cX12_lay 31 = .ok (.iload_n 1, 1) := by decide +kernel
theorem dX12_lay_32 : decode cX12_lay 32 = .ok (.iconst 1, 1) := by decide +kernel
theorem dX12_lay_33 : decode cX12_lay 33 = .ok (.isub, 1) := by decide +kernel
theorem dX12_lay_34 : decode cX12_lay 34 = .ok (.imul, 1) := by decide +kernel
theorem dX12_lay_35 : decode cX12_lay 35 = .ok (.iadd, 1) := by decide +kernel
theorem dX12_lay_36 : decode cX12_lay 36 = .ok (.iload_n 2, 1) := by decide +kernel
theorem dX12_lay_37 : decode cX12_lay 37 = .ok (.iadd, 1) := by decide +kernel
theorem dX12_lay_38 : decode cX12_lay 38 = .ok (.dup2, 1) := by decide +kernel
theorem dX12_lay_39 : decode cX12_lay 39 = .ok (.iaload, 1) := by decide +kernel
theorem dX12_lay_40 : decode cX12_lay 40 = .ok (.iload 4, 2) := by decide +kernel
theorem dX12_lay_42 : decode cX12_lay 42 = .ok (.aload_n 0, 1) := by decide +kernel
theorem dX12_lay_43 : decode cX12_lay 43 = .ok (.iload_n 1, 1) := by decide +kernel
theorem dX12_lay_44 : decode cX12_lay 44 = .ok (.iconst 1, 1) := by decide +kernel
theorem dX12_lay_45 : decode cX12_lay 45 = .ok (.isub, 1) := by decide +kernel
theorem dX12_lay_46 : decode cX12_lay 46 = .ok (.iload_n 3, 1) := by decide +kernel
theorem dX12_lay_47 : decode cX12_lay 47 = .ok (.invokevirtual 423, 3) := by decide +kernel
theorem dX12_lay_50 : decode cX12_lay 50 = .ok (.imul, 1) := by decide +kernel
theorem dX12_lay_51 : decode cX12_lay 51 = .ok (.iadd, 1) := by decide +kernel
theorem dX12_lay_52 : decode cX12_lay 52 = .ok (.iastore, 1) := by decide +kernel
theorem dX12_lay_53 : decode cX12_lay 53 = .ok (.iload_n 1, 1) := by decide +kernel
theorem dX12_lay_54 : decode cX12_lay 54 = .ok (.iconst 1, 1) := by decide +kernel
theorem dX12_lay_55 : decode cX12_lay 55 = .ok (.iadd, 1) := by decide +kernel
theorem dX12_lay_56 : decode cX12_lay 56 = .ok (.aload_n 0, 1) := by decide +kernel
theorem dX12_lay_57 : decode cX12_lay 57 = .ok (.invokevirtual 398, 3) := by decide +kernel
theorem dX12_lay_60 : decode cX12_lay 60 = .ok (.if_icmp .ge 30, 3) := by decide +kernel
theorem dX12_lay_63 : decode cX12_lay 63 = .ok (.aload_n 0, 1) := by decide +kernel
theorem dX12_lay_64 : decode cX12_lay 64 = .ok (.getfield 113, 3) := by decide +kernel
theorem dX12_lay_67 : decode cX12_lay 67 = .ok (.bipush 20, 2) := by decide +kernel
theorem dX12_lay_69 : decode cX12_lay 69 = .ok (.iconst 3, 1) := by decide +kernel
theorem dX12_lay_70 : decode cX12_lay 70 = .ok (.iload_n 1, 1) := by decide +kernel
theorem dX12_lay_71 : decode cX12_lay 71 = .ok (.iconst 1, 1) := by decide +kernel
theorem dX12_lay_72 : decode cX12_lay 72 = .ok (.iadd, 1) := by decide +kernel
theorem dX12_lay_73 : decode cX12_lay 73 = .ok (.imul, 1) := by decide +kernel
theorem dX12_lay_74 : decode cX12_lay 74 = .ok (.iadd, 1) := by decide +kernel
theorem dX12_lay_75 : decode cX12_lay 75 = .ok (.iload_n 2, 1) := by decide +kernel
theorem dX12_lay_76 : decode cX12_lay 76 = .ok (.iadd, 1) := by decide +kernel
theorem dX12_lay_77 : decode cX12_lay 77 = .ok (.dup2, 1) := by decide +kernel
theorem dX12_lay_78 : decode cX12_lay 78 = .ok (.iaload, 1) := by decide +kernel
theorem dX12_lay_79 : decode cX12_lay 79 = .ok (.iload 4, 2) := by decide +kernel
theorem dX12_lay_81 : decode cX12_lay 81 = .ok (.aload_n 0, 1) := by decide +kernel
theorem dX12_lay_82 : decode cX12_lay 82 = .ok (.iload_n 1, 1) := by decide +kernel
theorem dX12_lay_83 : decode cX12_lay 83 = .ok (.iload_n 3, 1) := by decide +kernel
theorem dX12_lay_84 : decode cX12_lay 84 = .ok (.invokevirtual 423, 3) := by decide +kernel
theorem dX12_lay_87 : decode cX12_lay 87 = .ok (.imul, 1) := by decide +kernel
theorem dX12_lay_88 : decode cX12_lay 88 = .ok (.iadd, 1) := by decide +kernel
theorem dX12_lay_89 : decode cX12_lay 89 = .ok (.iastore, 1) := by decide +kernel
theorem dX12_lay_90 : decode cX12_lay 90 = .ok (.return_, 1) := by decide +kernel
abbrev mi_X12_lay : MI := (zTM, RX12, yX12_lay, cX12_lay, 5, none, 3)
theorem cal_X12_lay : zCalV mi_X12_lay 4 := ⟨⟨zTB_i8 121 (by decide +kernel), zTB_i8 120 (by decide +kernel), zTB_i0 89 (by decide +kernel), zTB_i1 13 (by decide +kernel)⟩, ⟨by decide, by decide, by decide +kernel⟩, by decide⟩
noncomputable def X12_lay (x1 : Int32) (x2 : Int32) (x3 : Int32) (x4 : Int32) (M : Mem) : Option (Mem) :=
  gd_ (inb ((20 + (3 * x1)) + x2) (42) = true) (
  lt_ (uI M 33 (((20 + (3 * x1)) + x2).toNatClampNeg) ((M.1 33 (((20 + (3 * x1)) + x2).toNatClampNeg)) + (x4 * x3))) fun M2 =>
  b1_ (α := Mem) (
    if x1 ≤ 0 then
      some M2
    else
    gd_ (inb ((20 + (3 * (x1 - 1))) + x2) (42) = true) (
    bo_ (X12_leakTo (x1 - 1) x3 M2) fun v5 =>
    lt_ (uI M2 33 (((20 + (3 * (x1 - 1))) + x2).toNatClampNeg) ((M2.1 33 (((20 + (3 * (x1 - 1))) + x2).toNatClampNeg)) + (x4 * v5))) fun M6 =>
    some M6)) fun M7 =>
  bo_ (X12_many M7) fun v8 =>
  if v8 ≤ (x1 + 1) then
    some M7
  else
  gd_ (inb ((20 + (3 * (x1 + 1))) + x2) (42) = true) (
  bo_ (X12_leakTo x1 x3 M7) fun v11 =>
  lt_ (uI M7 33 (((20 + (3 * (x1 + 1))) + x2).toNatClampNeg) ((M7.1 33 (((20 + (3 * (x1 + 1))) + x2).toNatClampNeg)) + (x4 * v11))) fun M12 =>
  some M12))
set_option maxRecDepth 100000 in
set_option maxHeartbeats 4000000 in
theorem X12_lay_ok (G : Gh) (x1 : Int32) (x2 : Int32) (x3 : Int32) (x4 : Int32) (M : Mem) : Mt G mi_X12_lay [.ref (G.2.2.2 (0)), .int x1, .int x2, .int x3, .int x4] M ((dO dV) (X12_lay x1 x2 x3 x4 M)) := by
  refine Mt_of (lv := [some (.ref (G.2.2.2 (0))), some (.int x1), some (.int x2), some (.int x3), some (.int x4)]) (by decide) rfl (Nat.le_of_ble_eq_true rfl) rfl ?_
  unfold X12_lay
  refine r_aload_n dX12_lay_0 rfl ?_
  refine r_getf (v := .ref (G.2.2.2 (33))) dX12_lay_1 fM_0_48 kX12 (by decide) lkf_X12_113 rfl ?_
  refine r_bipush (x := 20) dX12_lay_4 rfl ?_
  refine r_iconst (x := 3) dX12_lay_6 rfl ?_
  refine r_iload_n dX12_lay_7 rfl ?_
  refine r_imul dX12_lay_8 ?_
  refine r_iadd dX12_lay_9 ?_
  refine r_iload_n dX12_lay_10 rfl ?_
  refine r_iadd dX12_lay_11 ?_
  refine r_dup2 dX12_lay_12 rfl rfl ?_
  refine r_gd rfl (fun g1 => ?_)
  refine r_iald dX12_lay_13 aM_33 (inb_in g1) rfl ?_
  refine r_iload dX12_lay_14 rfl ?_
  refine r_iload_n dX12_lay_16 rfl ?_
  refine r_imul dX12_lay_17 ?_
  refine r_iadd dX12_lay_18 ?_
  refine r_iast dX12_lay_19 aM_33 (inb_in g1) rfl (fun M2 => ?_)
  refine r_iload_n dX12_lay_20 rfl ?_
  refine r_jB1 (j := 53) (lvj := fun M7 => [some (.ref (G.2.2.2 (0))), some (.int x1), some (.int x2), some (.int x3), some (.int x4)]) (stj := fun M7 => []) (Mj := fun M7 => M7) (fun M7 => ?_) (fun hj53 => ?_)
  · refine r_iload_n dX12_lay_53 rfl ?_
    refine r_iconst (x := 1) dX12_lay_54 rfl ?_
    refine r_iadd dX12_lay_55 ?_
    refine r_aload_n dX12_lay_56 rfl ?_
    refine c_OI rfl (inv_V (mi := mi_X12_lay) (b := 0) (rest := [.int (x1 + 1)]) (X12_many_ok G M7) rfl (by decide) dX12_lay_57 lkm_X12_398 cal_X12_many cM_0 rfl rfl (Nat.le_of_ble_eq_true rfl) rfl) (fun v8 => ?_)
    refine r_icmp_ge (tgt := 90) dX12_lay_60 rfl (fun h9 => ?_) (fun h9 => ?_)
    · exact r_vret dX12_lay_90 rfl rfl
    refine r_aload_n dX12_lay_63 rfl ?_
    refine r_getf (v := .ref (G.2.2.2 (33))) dX12_lay_64 fM_0_48 kX12 (by decide) lkf_X12_113 rfl ?_
    refine r_bipush (x := 20) dX12_lay_67 rfl ?_
    refine r_iconst (x := 3) dX12_lay_69 rfl ?_
    refine r_iload_n dX12_lay_70 rfl ?_
    refine r_iconst (x := 1) dX12_lay_71 rfl ?_
    refine r_iadd dX12_lay_72 ?_
    refine r_imul dX12_lay_73 ?_
    refine r_iadd dX12_lay_74 ?_
    refine r_iload_n dX12_lay_75 rfl ?_
    refine r_iadd dX12_lay_76 ?_
    refine r_dup2 dX12_lay_77 rfl rfl ?_
    refine r_gd rfl (fun g10 => ?_)
    refine r_iald dX12_lay_78 aM_33 (inb_in g10) rfl ?_
    refine r_iload dX12_lay_79 rfl ?_
    refine r_aload_n dX12_lay_81 rfl ?_
    refine r_iload_n dX12_lay_82 rfl ?_
    refine r_iload_n dX12_lay_83 rfl ?_
    refine c_OI rfl (inv_V (mi := mi_X12_lay) (b := 0) (rest := [.int x4, .int (M7.1 33 (((20 + (3 * (x1 + 1))) + x2).toNatClampNeg)), .int ((20 + (3 * (x1 + 1))) + x2), .ref (G.2.2.2 (33))]) (X12_leakTo_ok G x1 x3 M7) rfl (by decide) dX12_lay_84 lkm_X12_423 cal_X12_leakTo cM_0 rfl rfl (Nat.le_of_ble_eq_true rfl) rfl) (fun v11 => ?_)
    refine r_imul dX12_lay_87 ?_
    refine r_iadd dX12_lay_88 ?_
    refine r_iast dX12_lay_89 aM_33 (inb_in g10) rfl (fun M12 => ?_)
    exact r_vret dX12_lay_90 rfl rfl
  refine r_if_le (tgt := 53) dX12_lay_21 rfl (fun h3 => ?_) (fun h3 => ?_)
  · exact r_lk (hj53 M2) (And.intro rfl (And.intro rfl (And.intro rfl (And.intro rfl (And.intro rfl True.intro)))))
  refine r_aload_n dX12_lay_24 rfl ?_
  refine r_getf (v := .ref (G.2.2.2 (33))) dX12_lay_25 fM_0_48 kX12 (by decide) lkf_X12_113 rfl ?_
  refine r_bipush (x := 20) dX12_lay_28 rfl ?_
  refine r_iconst (x := 3) dX12_lay_30 rfl ?_
  refine r_iload_n dX12_lay_31 rfl ?_
  refine r_iconst (x := 1) dX12_lay_32 rfl ?_
  refine r_isub dX12_lay_33 ?_
  refine r_imul dX12_lay_34 ?_
  refine r_iadd dX12_lay_35 ?_
  refine r_iload_n dX12_lay_36 rfl ?_
  refine r_iadd dX12_lay_37 ?_
  refine r_dup2 dX12_lay_38 rfl rfl ?_
  refine r_gd rfl (fun g4 => ?_)
  refine r_iald dX12_lay_39 aM_33 (inb_in g4) rfl ?_
  refine r_iload dX12_lay_40 rfl ?_
  refine r_aload_n dX12_lay_42 rfl ?_
  refine r_iload_n dX12_lay_43 rfl ?_
  refine r_iconst (x := 1) dX12_lay_44 rfl ?_
  refine r_isub dX12_lay_45 ?_
  refine r_iload_n dX12_lay_46 rfl ?_
  refine c_OI rfl (inv_V (mi := mi_X12_lay) (b := 0) (rest := [.int x4, .int (M2.1 33 (((20 + (3 * (x1 - 1))) + x2).toNatClampNeg)), .int ((20 + (3 * (x1 - 1))) + x2), .ref (G.2.2.2 (33))]) (X12_leakTo_ok G (x1 - 1) x3 M2) rfl (by decide) dX12_lay_47 lkm_X12_423 cal_X12_leakTo cM_0 rfl rfl (Nat.le_of_ble_eq_true rfl) rfl) (fun v5 => ?_)
  refine r_imul dX12_lay_50 ?_
  refine r_iadd dX12_lay_51 ?_
  refine r_iast dX12_lay_52 aM_33 (inb_in g4) rfl (fun M6 => ?_)
  exact r_lk (hj53 M6) (And.intro rfl (And.intro rfl (And.intro rfl (And.intro rfl (And.intro rfl True.intro)))))

theorem dX12_spend_0 : decode cX12_spend 0 = .ok (.aload_n 0, 1) := by decide +kernel
theorem dX12_spend_1 : decode cX12_spend 1 = .ok (.iload_n 1, 1) := by decide +kernel
theorem dX12_spend_2 : decode cX12_spend 2 = .ok (.invokevirtual 426, 3) := by decide +kernel
theorem dX12_spend_5 : decode cX12_spend 5 = .ok (.ifCond .eq 40, 3) := by decide +kernel
theorem dX12_spend_8 : decode cX12_spend 8 = .ok (.aload_n 0, 1) := by decide +kernel
theorem dX12_spend_9 : decode cX12_spend 9 = .ok (.iload_n 2, 1) := by decide +kernel
theorem dX12_spend_10 : decode cX12_spend 10 = .ok (.invokevirtual 436, 3) := by decide +kernel
theorem dX12_spend_13 : decode cX12_spend 13 = .ok (.ifCond .eq 32, 3) := by decide +kernel
theorem dX12_spend_16 : decode cX12_spend 16 = .ok (.iload_n 3, 1) := by decide +kernel
theorem dX12_spend_17 : decode cX12_spend 17 = .ok (.iconst 1, 1) := by decide +kernel
theorem dX12_spend_18 : decode cX12_spend 18 = .ok (.bipush 8, 2) := by decide +kernel
theorem dX12_spend_20 : decode cX12_spend 20 = .ok (.invokestatic 401, 3) := by decide +kernel
theorem dX12_spend_23 : decode cX12_spend 23 = .ok (.ifCond .eq 22, 3) := by decide +kernel
theorem dX12_spend_26 : decode cX12_spend 26 = .ok (.iload_n 3, 1) := by decide +kernel
theorem dX12_spend_27 : decode cX12_spend 27 = .ok (.aload_n 0, 1) := by decide +kernel
theorem dX12_spend_28 : decode cX12_spend 28 = .ok (.iload_n 1, 1) := by decide +kernel
theorem dX12_spend_29 : decode cX12_spend 29 = .ok (.iload_n 2, 1) := by decide +kernel
theorem dX12_spend_30 : decode cX12_spend 30 = .ok (.invokevirtual 439, 3) := by decide +kernel
theorem dX12_spend_33 : decode cX12_spend 33 = .ok (.if_icmp .gt 12, 3) := by decide +kernel
theorem dX12_spend_36 : decode cX12_spend 36 = .ok (.iload_n 3, 1) := by decide +kernel
theorem dX12_spend_37 : decode cX12_spend 37 = .ok (.aload_n 0, 1) := by decide +kernel
theorem dX12_spend_38 : decode cX12_spend 38 = .ok (.iload_n 1, 1) := by decide +kernel
theorem dX12_spend_39 : decode cX12_spend 39 = .ok (.invokevirtual 442, 3) := by decide +kernel
theorem dX12_spend_42 : decode cX12_spend 42 = .ok (.if_icmp .le 5, 3) := by decide +kernel
theorem dX12_spend_45 : decode cX12_spend 45 = .ok (.iconst (-1), 1) := by decide +kernel
theorem dX12_spend_46 : decode cX12_spend 46 = .ok (.ireturn, 1) := by decide +kernel
theorem dX12_spend_47 : decode cX12_spend 47 = .ok (.aload_n 0, 1) := by decide +kernel
theorem dX12_spend_48 : decode cX12_spend 48 = .ok (.invokevirtual 445, 3) := by decide +kernel
theorem dX12_spend_51 : decode cX12_spend 51 = .ok (.aload_n 0, 1) := by decide +kernel
theorem dX12_spend_52 : decode cX12_spend 52 = .ok (.getfield 113, 3) := by decide +kernel
theorem dX12_spend_55 : decode cX12_spend 55 = .ok (.iconst 0, 1) := by decide +kernel
theorem dX12_spend_56 : decode cX12_spend 56 = .ok (.iconst 3, 1) := by decide +kernel
theorem dX12_spend_57 : decode cX12_spend 57 = .ok (.iload_n 1, 1) := by decide +kernel
theorem dX12_spend_58 : decode cX12_spend 58 = .ok (.imul, 1) := by decide +kernel
theorem dX12_spend_59 : decode cX12_spend 59 = .ok (.iadd, 1) := by decide +kernel
theorem dX12_spend_60 : decode cX12_spend 60 = .ok (.iload_n 2, 1) := by decide +kernel
theorem dX12_spend_61 : decode cX12_spend 61 = .ok (.iadd, 1) := by decide +kernel
theorem dX12_spend_62 : decode cX12_spend 62 = .ok (.dup2, 1) := by decide +kernel
theorem dX12_spend_63 : decode cX12_spend 63 = .ok (.iaload, 1) := by decide +kernel
theorem dX12_spend_64 : decode cX12_spend 64 = .ok (.iload_n 3, 1) := by decide +kernel
theorem dX12_spend_65 : decode cX12_spend 65 = .ok (.isub, 1) := by decide +kernel
theorem dX12_spend_66 : decode cX12_spend 66 = .ok (.iastore, 1) := by decide +kernel
theorem dX12_spend_67 : decode cX12_spend 67 = .ok (.aload_n 0, 1) := by decide +kernel
theorem dX12_spend_68 : decode cX12_spend 68 = .ok (.getfield 113, 3) := by decide +kernel
theorem dX12_spend_71 : decode cX12_spend 71 = .ok (.bipush 35, 2) := by decide +kernel
theorem dX12_spend_73 : decode cX12_spend 73 = .ok (.iload_n 1, 1) := by decide +kernel
theorem dX12_spend_74 : decode cX12_spend 74 = .ok (.iadd, 1) := by decide +kernel
theorem dX12_spend_75 : decode cX12_spend 75 = .ok (.dup2, 1) := by decide +kernel
theorem dX12_spend_76 : decode cX12_spend 76 = .ok (.iaload, 1) := by decide +kernel
theorem dX12_spend_77 : decode cX12_spend 77 = .ok (.iload_n 3, 1) := by decide +kernel
theorem dX12_spend_78 : decode cX12_spend 78 = .ok (.iadd, 1) := by decide +kernel
theorem dX12_spend_79 : decode cX12_spend 79 = .ok (.iastore, 1) := by decide +kernel
theorem dX12_spend_80 : decode cX12_spend 80 = .ok (.aload_n 0, 1) := by decide +kernel
theorem dX12_spend_81 : decode cX12_spend 81 = .ok (.iload_n 1, 1) := by decide +kernel
theorem dX12_spend_82 : decode cX12_spend 82 = .ok (.iload_n 2, 1) := by decide +kernel
theorem dX12_spend_83 : decode cX12_spend 83 = .ok (.iload_n 3, 1) := by decide +kernel
theorem dX12_spend_84 : decode cX12_spend 84 = .ok (.iconst 1, 1) := by decide +kernel
theorem dX12_spend_85 : decode cX12_spend 85 = .ok (.invokevirtual 448, 3) := by decide +kernel
theorem dX12_spend_88 : decode cX12_spend 88 = .ok (.aload_n 0, 1) := by decide +kernel
theorem dX12_spend_89 : decode cX12_spend 89 = .ok (.iload_n 1, 1) := by decide +kernel
theorem dX12_spend_90 : decode cX12_spend 90 = .ok (.iload_n 2, 1) := by decide +kernel
theorem dX12_spend_91 : decode cX12_spend 91 = .ok (.invokevirtual 388, 3) := by decide +kernel
theorem dX12_spend_94 : decode cX12_spend 94 = .ok (.ireturn, 1) := by decide +kernel
abbrev mi_X12_spend : MI := (zTM, RX12, yX12_spend, cX12_spend, 4, (some .int), 4)
theorem cal_X12_spend : zCalV mi_X12_spend 3 := ⟨⟨zTB_i8 113 (by decide +kernel), zTB_i8 111 (by decide +kernel), zTB_i8 112 (by decide +kernel), zTB_i1 13 (by decide +kernel)⟩, ⟨by decide, by decide, by decide +kernel⟩, by decide⟩
noncomputable def X12_spend (x1 : Int32) (x2 : Int32) (x3 : Int32) (M : Mem) : Option (Int32 × Mem) :=
  bo_ (X12_isMan x1 M) fun b1 =>
  if b1 = true then
    bo_ (X12_isKind x2 M) fun b3 =>
    if b3 = true then
      if (X12_isIn x3 1 8) = true then
        bo_ (X12_inPurse x1 x2 M) fun v6 =>
        if v6 < x3 then
          some ((-1), M)
        else
        bo_ (X12_leftOf x1 M) fun v8 =>
        if x3 ≤ v8 then
          bo_ (X12_keepAct M) fun M10 =>
          gd_ (inb ((0 + (3 * x1)) + x2) (42) = true) (
          lt_ (uI M10 33 (((0 + (3 * x1)) + x2).toNatClampNeg) ((M10.1 33 (((0 + (3 * x1)) + x2).toNatClampNeg)) - x3)) fun M12 =>
          gd_ (inb (35 + x1) (42) = true) (
          lt_ (uI M12 33 ((35 + x1).toNatClampNeg) ((M12.1 33 ((35 + x1).toNatClampNeg)) + x3)) fun M14 =>
          bo_ (X12_lay x1 x2 x3 1 M14) fun M15 =>
          bo_ (X12_overOf x1 x2 M15) fun v16 =>
          some (v16, M15)))
        else
        some ((-1), M)
      else
      some ((-1), M)
    else
    some ((-1), M)
  else
  some ((-1), M)
set_option maxRecDepth 100000 in
set_option maxHeartbeats 4000000 in
theorem X12_spend_ok (G : Gh) (x1 : Int32) (x2 : Int32) (x3 : Int32) (M : Mem) : Mt G mi_X12_spend [.ref (G.2.2.2 (0)), .int x1, .int x2, .int x3] M ((dO dIM) (X12_spend x1 x2 x3 M)) := by
  refine Mt_of (lv := [some (.ref (G.2.2.2 (0))), some (.int x1), some (.int x2), some (.int x3)]) (by decide) rfl (Nat.le_of_ble_eq_true rfl) rfl ?_
  unfold X12_spend
  refine r_aload_n dX12_spend_0 rfl ?_
  refine r_iload_n dX12_spend_1 rfl ?_
  refine c_OZ rfl (inv_V (mi := mi_X12_spend) (b := 0) (rest := []) (X12_isMan_ok G x1 M) rfl (by decide) dX12_spend_2 lkm_X12_426 cal_X12_isMan cM_0 rfl rfl (Nat.le_of_ble_eq_true rfl) rfl) (fun b1 => ?_)
  refine r_ifz_eq (tgt := 45) dX12_spend_5 rfl (fun h2 => ?_) (fun h2 => ?_)
  · refine r_aload_n dX12_spend_8 rfl ?_
    refine r_iload_n dX12_spend_9 rfl ?_
    refine c_OZ rfl (inv_V (mi := mi_X12_spend) (b := 0) (rest := []) (X12_isKind_ok G x2 M) rfl (by decide) dX12_spend_10 lkm_X12_436 cal_X12_isKind cM_0 rfl rfl (Nat.le_of_ble_eq_true rfl) rfl) (fun b3 => ?_)
    refine r_ifz_eq (tgt := 45) dX12_spend_13 rfl (fun h4 => ?_) (fun h4 => ?_)
    · refine r_iload_n dX12_spend_16 rfl ?_
      refine r_iconst (x := 1) dX12_spend_17 rfl ?_
      refine r_bipush (x := 8) dX12_spend_18 rfl ?_
      refine c_Z (inv_S (mi := mi_X12_spend) (rest := []) (X12_isIn_ok G x3 1 8 M) rfl (by decide) dX12_spend_20 lkm_X12_401 cal_X12_isIn rfl (Nat.le_of_ble_eq_true rfl) rfl) ?_
      refine r_ifz_eq (tgt := 45) dX12_spend_23 rfl (fun h5 => ?_) (fun h5 => ?_)
      · refine r_iload_n dX12_spend_26 rfl ?_
        refine r_aload_n dX12_spend_27 rfl ?_
        refine r_iload_n dX12_spend_28 rfl ?_
        refine r_iload_n dX12_spend_29 rfl ?_
        refine c_OI rfl (inv_V (mi := mi_X12_spend) (b := 0) (rest := [.int x3]) (X12_inPurse_ok G x1 x2 M) rfl (by decide) dX12_spend_30 lkm_X12_439 cal_X12_inPurse cM_0 rfl rfl (Nat.le_of_ble_eq_true rfl) rfl) (fun v6 => ?_)
        refine r_icmp_gt (tgt := 45) dX12_spend_33 rfl (fun h7 => ?_) (fun h7 => ?_)
        · refine r_iconst (x := (-1)) dX12_spend_45 rfl ?_
          exact r_iret (ty := .int) dX12_spend_46 rfl rfl rfl
        refine r_iload_n dX12_spend_36 rfl ?_
        refine r_aload_n dX12_spend_37 rfl ?_
        refine r_iload_n dX12_spend_38 rfl ?_
        refine c_OI rfl (inv_V (mi := mi_X12_spend) (b := 0) (rest := [.int x3]) (X12_leftOf_ok G x1 M) rfl (by decide) dX12_spend_39 lkm_X12_442 cal_X12_leftOf cM_0 rfl rfl (Nat.le_of_ble_eq_true rfl) rfl) (fun v8 => ?_)
        refine r_icmp_le (tgt := 47) dX12_spend_42 rfl (fun h9 => ?_) (fun h9 => ?_)
        · refine r_aload_n dX12_spend_47 rfl ?_
          refine c_OV rfl (inv_V (mi := mi_X12_spend) (b := 0) (rest := []) (X12_keepAct_ok G M) rfl (by decide) dX12_spend_48 lkm_X12_445 cal_X12_keepAct cM_0 rfl rfl (Nat.le_of_ble_eq_true rfl) rfl) (fun M10 => ?_)
          refine r_aload_n dX12_spend_51 rfl ?_
          refine r_getf (v := .ref (G.2.2.2 (33))) dX12_spend_52 fM_0_48 kX12 (by decide) lkf_X12_113 rfl ?_
          refine r_iconst (x := 0) dX12_spend_55 rfl ?_
          refine r_iconst (x := 3) dX12_spend_56 rfl ?_
          refine r_iload_n dX12_spend_57 rfl ?_
          refine r_imul dX12_spend_58 ?_
          refine r_iadd dX12_spend_59 ?_
          refine r_iload_n dX12_spend_60 rfl ?_
          refine r_iadd dX12_spend_61 ?_
          refine r_dup2 dX12_spend_62 rfl rfl ?_
          refine r_gd rfl (fun g11 => ?_)
          refine r_iald dX12_spend_63 aM_33 (inb_in g11) rfl ?_
          refine r_iload_n dX12_spend_64 rfl ?_
          refine r_isub dX12_spend_65 ?_
          refine r_iast dX12_spend_66 aM_33 (inb_in g11) rfl (fun M12 => ?_)
          refine r_aload_n dX12_spend_67 rfl ?_
          refine r_getf (v := .ref (G.2.2.2 (33))) dX12_spend_68 fM_0_48 kX12 (by decide) lkf_X12_113 rfl ?_
          refine r_bipush (x := 35) dX12_spend_71 rfl ?_
          refine r_iload_n dX12_spend_73 rfl ?_
          refine r_iadd dX12_spend_74 ?_
          refine r_dup2 dX12_spend_75 rfl rfl ?_
          refine r_gd rfl (fun g13 => ?_)
          refine r_iald dX12_spend_76 aM_33 (inb_in g13) rfl ?_
          refine r_iload_n dX12_spend_77 rfl ?_
          refine r_iadd dX12_spend_78 ?_
          refine r_iast dX12_spend_79 aM_33 (inb_in g13) rfl (fun M14 => ?_)
          refine r_aload_n dX12_spend_80 rfl ?_
          refine r_iload_n dX12_spend_81 rfl ?_
          refine r_iload_n dX12_spend_82 rfl ?_
          refine r_iload_n dX12_spend_83 rfl ?_
          refine r_iconst (x := 1) dX12_spend_84 rfl ?_
          refine c_OV rfl (inv_V (mi := mi_X12_spend) (b := 0) (rest := []) (X12_lay_ok G x1 x2 x3 1 M14) rfl (by decide) dX12_spend_85 lkm_X12_448 cal_X12_lay cM_0 rfl rfl (Nat.le_of_ble_eq_true rfl) rfl) (fun M15 => ?_)
          refine r_aload_n dX12_spend_88 rfl ?_
          refine r_iload_n dX12_spend_89 rfl ?_
          refine r_iload_n dX12_spend_90 rfl ?_
          refine c_OI rfl (inv_V (mi := mi_X12_spend) (b := 0) (rest := []) (X12_overOf_ok G x1 x2 M15) rfl (by decide) dX12_spend_91 lkm_X12_388 cal_X12_overOf cM_0 rfl rfl (Nat.le_of_ble_eq_true rfl) rfl) (fun v16 => ?_)
          exact r_iret (ty := .int) dX12_spend_94 rfl rfl rfl
        refine r_iconst (x := (-1)) dX12_spend_45 rfl ?_
        exact r_iret (ty := .int) dX12_spend_46 rfl rfl rfl
      refine r_iconst (x := (-1)) dX12_spend_45 rfl ?_
      exact r_iret (ty := .int) dX12_spend_46 rfl rfl rfl
    refine r_iconst (x := (-1)) dX12_spend_45 rfl ?_
    exact r_iret (ty := .int) dX12_spend_46 rfl rfl rfl
  refine r_iconst (x := (-1)) dX12_spend_45 rfl ?_
  exact r_iret (ty := .int) dX12_spend_46 rfl rfl rfl

theorem dX12_lesser_0 : decode cX12_lesser 0 = .ok (.iload_n 0, 1) := by decide +kernel
theorem dX12_lesser_1 : decode cX12_lesser 1 = .ok (.iload_n 1, 1) := by decide +kernel
theorem dX12_lesser_2 : decode cX12_lesser 2 = .ok (.if_icmp .ge 7, 3) := by decide +kernel
theorem dX12_lesser_5 : decode cX12_lesser 5 = .ok (.iload_n 0, 1) := by decide +kernel
theorem dX12_lesser_6 : decode cX12_lesser 6 = .ok (.goto 4, 3) := by decide +kernel
theorem dX12_lesser_9 : decode cX12_lesser 9 = .ok (.iload_n 1, 1) := by decide +kernel
theorem dX12_lesser_10 : decode cX12_lesser 10 = .ok (.ireturn, 1) := by decide +kernel
abbrev mi_X12_lesser : MI := (zTM, RX12, yX12_lesser, cX12_lesser, 2, (some .int), 2)
theorem cal_X12_lesser : zCalS mi_X12_lesser 2 := ⟨⟨zTB_i8 136 (by decide +kernel), zTB_i8 135 (by decide +kernel), zTB_i1 13 (by decide +kernel)⟩, ⟨by decide, by decide, by decide +kernel⟩, by decide⟩
noncomputable def X12_lesser (x0 : Int32) (x1 : Int32) : Int32 :=
  if x1 ≤ x0 then
    x1
  else
  x0
set_option maxRecDepth 100000 in
set_option maxHeartbeats 4000000 in
theorem X12_lesser_ok (G : Gh) (x0 : Int32) (x1 : Int32) (M : Mem) : Mt G mi_X12_lesser [.int x0, .int x1] M ((dI M) (X12_lesser x0 x1)) := by
  refine Mt_of (lv := [some (.int x0), some (.int x1)]) (by decide) rfl (Nat.le_of_ble_eq_true rfl) rfl ?_
  unfold X12_lesser
  refine r_iload_n dX12_lesser_0 rfl ?_
  refine r_iload_n dX12_lesser_1 rfl ?_
  refine r_icmp_ge (tgt := 9) dX12_lesser_2 rfl (fun h1 => ?_) (fun h1 => ?_)
  · refine r_iload_n dX12_lesser_9 rfl ?_
    exact r_iret (ty := .int) dX12_lesser_10 rfl rfl rfl
  refine r_iload_n dX12_lesser_5 rfl ?_
  refine r_goto (tgt := 10) dX12_lesser_6 rfl ?_
  exact r_iret (ty := .int) dX12_lesser_10 rfl rfl rfl

