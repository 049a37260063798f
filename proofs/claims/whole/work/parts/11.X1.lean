theorem dX4_readMan_0 : decode cX4_readMan 0 = .ok (.aload_n 0, 1) := by decide +kernel
theorem dX4_readMan_1 : decode cX4_readMan 1 = .ok (.getfield 31, 3) := by decide +kernel
theorem dX4_readMan_4 : decode cX4_readMan 4 = .ok (.getfield 170, 3) := by decide +kernel
theorem dX4_readMan_7 : decode cX4_readMan 7 = .ok (.istore_n 1, 1) := by decide +kernel
theorem dX4_readMan_8 : decode cX4_readMan 8 = .ok (.aload_n 0, 1) := by decide +kernel
theorem dX4_readMan_9 : decode cX4_readMan 9 = .ok (.iload_n 1, 1) := by decide +kernel
theorem dX4_readMan_10 : decode cX4_readMan 10 = .ok (.iconst 5, 1) := by decide +kernel
theorem dX4_readMan_11 : decode cX4_readMan 11 = .ok (.if_icmp .ge 7, 3) := by decide +kernel
theorem dX4_readMan_14 : decode cX4_readMan 14 = .ok (.iconst 1, 1) := by decide +kernel
theorem dX4_readMan_15 : decode cX4_readMan 15 = .ok (.goto 4, 3) := by decide +kernel
theorem dX4_readMan_18 : decode cX4_readMan 18 = .ok (.iconst 0, 1) := by decide +kernel
theorem dX4_readMan_19 : decode cX4_readMan 19 = .ok (.invokevirtual 159, 3) := by decide +kernel
theorem dX4_readMan_22 : decode cX4_readMan 22 = .ok (.ifCond .eq 15, 3) := by decide +kernel
theorem dX4_readMan_25 : decode cX4_readMan 25 = .ok (.aload_n 0, 1) := by decide +kernel
theorem dX4_readMan_26 : decode cX4_readMan 26 = .ok (.aload_n 0, 1) := by decide +kernel
theorem dX4_readMan_27 : decode cX4_readMan 27 = .ok (.getfield 15, 3) := by decide +kernel
theorem dX4_readMan_30 : decode cX4_readMan 30 = .ok (.iload_n 1, 1) := by decide +kernel
theorem dX4_readMan_31 : decode cX4_readMan 31 = .ok (.invokevirtual 163, 3) := by decide +kernel
theorem dX4_readMan_34 : decode cX4_readMan 34 = .ok (.ifCond .ne 5, 3) := by decide +kernel
theorem dX4_readMan_37 : decode cX4_readMan 37 = .ok (.iconst 0, 1) := by decide +kernel
theorem dX4_readMan_38 : decode cX4_readMan 38 = .ok (.ireturn, 1) := by decide +kernel
theorem dX4_readMan_39 : decode cX4_readMan 39 = .ok (.aload_n 0, 1) := by decide +kernel
theorem dX4_readMan_40 : decode cX4_readMan 40 = .ok (.getfield 40, 3) := by decide +kernel
theorem dX4_readMan_43 : decode cX4_readMan 43 = .ok (.ldc 173, 2) := by decide +kernel
theorem dX4_readMan_45 : decode cX4_readMan 45 = .ok (.invokevirtual 175, 3) := by decide +kernel
theorem dX4_readMan_48 : decode cX4_readMan 48 = .ok (.ifCond .eq 16, 3) := by decide +kernel
theorem dX4_readMan_51 : decode cX4_readMan 51 = .ok (.aload_n 0, 1) := by decide +kernel
theorem dX4_readMan_52 : decode cX4_readMan 52 = .ok (.getfield 40, 3) := by decide +kernel
theorem dX4_readMan_55 : decode cX4_readMan 55 = .ok (.iconst 0, 1) := by decide +kernel
theorem dX4_readMan_56 : decode cX4_readMan 56 = .ok (.bipush 99, 2) := by decide +kernel
theorem dX4_readMan_58 : decode cX4_readMan 58 = .ok (.invokevirtual 178, 3) := by decide +kernel
theorem dX4_readMan_61 : decode cX4_readMan 61 = .ok (.ifCond .ne 5, 3) := by decide +kernel
theorem dX4_readMan_64 : decode cX4_readMan 64 = .ok (.iconst 0, 1) := by decide +kernel
theorem dX4_readMan_65 : decode cX4_readMan 65 = .ok (.ireturn, 1) := by decide +kernel
theorem dX4_readMan_66 : decode cX4_readMan 66 = .ok (.aload_n 0, 1) := by decide +kernel
theorem dX4_readMan_67 : decode cX4_readMan 67 = .ok (.getfield 31, 3) := by decide +kernel
theorem dX4_readMan_70 : decode cX4_readMan 70 = .ok (.getfield 182, 3) := by decide +kernel
theorem dX4_readMan_73 : decode cX4_readMan 73 = .ok (.iload_n 1, 1) := by decide +kernel
theorem dX4_readMan_74 : decode cX4_readMan 74 = .ok (.aload_n 0, 1) := by decide +kernel
theorem dX4_readMan_75 : decode cX4_readMan 75 = .ok (.getfield 40, 3) := by decide +kernel
theorem dX4_readMan_78 : decode cX4_readMan 78 = .ok (.getfield 185, 3) := by decide +kernel
theorem dX4_readMan_81 : decode cX4_readMan 81 = .ok (.invokestatic 188, 3) := by decide +kernel
theorem dX4_readMan_84 : decode cX4_readMan 84 = .ok (.aload_n 0, 1) := by decide +kernel
theorem dX4_readMan_85 : decode cX4_readMan 85 = .ok (.getfield 40, 3) := by decide +kernel
theorem dX4_readMan_88 : decode cX4_readMan 88 = .ok (.ldc 192, 2) := by decide +kernel
theorem dX4_readMan_90 : decode cX4_readMan 90 = .ok (.invokevirtual 92, 3) := by decide +kernel
theorem dX4_readMan_93 : decode cX4_readMan 93 = .ok (.ifCond .eq 22, 3) := by decide +kernel
theorem dX4_readMan_96 : decode cX4_readMan 96 = .ok (.aload_n 0, 1) := by decide +kernel
theorem dX4_readMan_97 : decode cX4_readMan 97 = .ok (.getfield 31, 3) := by decide +kernel
theorem dX4_readMan_100 : decode cX4_readMan 100 = .ok (.getfield 194, 3) := by decide +kernel
theorem dX4_readMan_103 : decode cX4_readMan 103 = .ok (.iload_n 1, 1) := by decide +kernel
theorem dX4_readMan_104 : decode cX4_readMan 104 = .ok (.iconst 1, 1) := by decide +kernel
theorem dX4_readMan_105 : decode cX4_readMan 105 = .ok (.invokestatic 188, 3) := by decide +kernel
theorem dX4_readMan_108 : decode cX4_readMan 108 = .ok (.aload_n 0, 1) := by decide +kernel
theorem dX4_readMan_109 : decode cX4_readMan 109 = .ok (.getfield 40, 3) := by decide +kernel
theorem dX4_readMan_112 : decode cX4_readMan 112 = .ok (.invokevirtual 153, 3) := by decide +kernel
theorem dX4_readMan_115 : decode cX4_readMan 115 = .ok (.aload_n 0, 1) := by decide +kernel
theorem dX4_readMan_116 : decode cX4_readMan 116 = .ok (.getfield 31, 3) := by decide +kernel
theorem dX4_readMan_119 : decode cX4_readMan 119 = .ok (.dup, 1) := by decide +kernel
theorem dX4_readMan_120 : decode cX4_readMan 120 = .ok (.getfield 170, 3) := by decide +kernel
theorem dX4_readMan_123 : decode cX4_readMan 123 = .ok (.iconst 1, 1) := by decide +kernel
theorem dX4_readMan_124 : decode cX4_readMan 124 = .ok (.iadd, 1) := by decide +kernel
theorem dX4_readMan_125 : decode cX4_readMan 125 = .ok (.putfield 170, 3) := by decide +kernel
theorem dX4_readMan_128 : decode cX4_readMan 128 = .ok (.aload_n 0, 1) := by decide +kernel
theorem dX4_readMan_129 : decode cX4_readMan 129 = .ok (.getfield 40, 3) := by decide +kernel
theorem dX4_readMan_132 : decode cX4_readMan 132 = .ok (.bipush 59, 2) := by decide +kernel
theorem dX4_readMan_134 : decode cX4_readMan 134 = .ok (.invokevirtual 167, 3) := by decide +kernel
theorem dX4_readMan_137 : decode cX4_readMan 137 = .ok (.ireturn, 1) := by decide +kernel
abbrev mi_X4_readMan : MI := (zTX, RX4, yX4_readMan, cX4_readMan, 2, (some .boolean), 11)
theorem cal_X4_readMan : zCalV mi_X4_readMan 0 := ⟨⟨zTB_i3 127 (by decide +kernel), zTB_i3 126 (by decide +kernel), zTB_i0 8 (by decide +kernel), zTB_i1 3 (by decide +kernel)⟩, ⟨by decide, by decide, by decide +kernel⟩, by decide⟩
noncomputable def X4_readMan (M : Mem) : Option (Bool × Mem) :=
  lt_ (α := Int32) (M.1 4 0) fun y1 =>
  l1_ (α := Int32) (
    if 5 ≤ y1 then
      0
    else
    1) fun y3 =>
  bp_ (X4_begins y3 M) fun b4 M5 =>
  if b4 = true then
    bp_ (X4_newName 19 y1 M5) fun b7 M8 =>
    if b7 = true then
      bp_ (X6_takesWord 23 M8) fun b10 M11 =>
      if b10 = true then
        bp_ (X6_takesNumber 0 99 M11) fun b13 M14 =>
        if b13 = true then
          lt_ (X11_put 5 y1 (M14.1 16 4) M14) fun M16 =>
          bo_ (X6_says 24 M16) fun b17 =>
          b1_ (α := Mem) (
            if b17 = true then
              lt_ (X11_put 6 y1 1 M16) fun M19 =>
              bo_ (X6_step M19) fun M20 =>
              some M20
            else
            some M16) fun M21 =>
          lt_ (uI M21 4 0 ((M21.1 4 0) + 1)) fun M22 =>
          bp_ (X6_takesSign 59 M22) fun b23 M24 =>
          some (b23, M24)
        else
        some (false, M14)
      else
      some (false, M11)
    else
    some (false, M8)
  else
  some (false, M5)
set_option maxRecDepth 100000 in
set_option maxHeartbeats 4000000 in
theorem X4_readMan_ok (G : Gh) (M : Mem) : Mt G mi_X4_readMan [.ref (G.2.2.2 (3))] M ((dO dZM) (X4_readMan M)) := by
  refine Mt_of (lv := [some (.ref (G.2.2.2 (3)))]) (by decide) rfl (Nat.le_of_ble_eq_true rfl) rfl ?_
  refine r_le (lv' := [some (.ref (G.2.2.2 (3))), none]) (And.intro rfl True.intro) ?_
  unfold X4_readMan
  refine r_aload_n dX4_readMan_0 rfl ?_
  refine r_getf (v := .ref (G.2.2.2 (4))) dX4_readMan_1 fX_3_0 kX4 (by decide) lkf_X4_31 rfl ?_
  refine r_getf (v := .int (M.1 4 0)) dX4_readMan_4 fX_4_0 kX3 (by decide) lkf_X4_170 rfl ?_
  refine r_letI (fun y1 => ?_)
  refine r_istore_n (lv' := [some (.ref (G.2.2.2 (3))), some (.int y1)]) dX4_readMan_7 (Nat.le_of_ble_eq_true rfl) rfl rfl ?_
  refine r_aload_n dX4_readMan_8 rfl ?_
  refine r_iload_n dX4_readMan_9 rfl ?_
  refine r_iconst (x := 5) dX4_readMan_10 rfl ?_
  refine r_jL1 (j := 19) (lvj := fun y3 => [some (.ref (G.2.2.2 (3))), some (.int y1)]) (stj := fun y3 => [.int y3, .ref (G.2.2.2 (3))]) (Mj := fun y3 => M) (fun y3 => ?_) (fun hj19 => ?_)
  · refine c_OZM rfl (inv_V (mi := mi_X4_readMan) (b := 3) (rest := []) (X4_begins_ok G y3 M) rfl (by decide) dX4_readMan_19 lkm_X4_159 cal_X4_begins cX_3 rfl rfl (Nat.le_of_ble_eq_true rfl) rfl) (fun b4 M5 => ?_)
    refine r_ifz_eq (tgt := 37) dX4_readMan_22 rfl (fun h6 => ?_) (fun h6 => ?_)
    · refine r_aload_n dX4_readMan_25 rfl ?_
      refine r_aload_n dX4_readMan_26 rfl ?_
      refine r_getf (v := .ref (G.2.2.2 (19))) dX4_readMan_27 fX_3_4 kX4 (by decide) lkf_X4_15 rfl ?_
      refine r_iload_n dX4_readMan_30 rfl ?_
      refine c_OZM rfl (inv_V (mi := mi_X4_readMan) (b := 3) (rest := []) (X4_newName_ok G aX_19p y1 M5) rfl (by decide) dX4_readMan_31 lkm_X4_163 cal_X4_newName cX_3 rfl rfl (Nat.le_of_ble_eq_true rfl) rfl) (fun b7 M8 => ?_)
      refine r_ifz_ne (tgt := 39) dX4_readMan_34 rfl (fun h9 => ?_) (fun h9 => ?_)
      · refine r_aload_n dX4_readMan_39 rfl ?_
        refine r_getf (v := .ref (G.2.2.2 (16))) dX4_readMan_40 fX_3_1 kX4 (by decide) lkf_X4_40 rfl ?_
        refine r_ldcS (i := 23) dX4_readMan_43 rfl ?_
        refine c_OZM rfl (inv_V (mi := mi_X4_readMan) (b := 16) (rest := []) (X6_takesWord_ok G (w1 := 23) (by decide) M8) rfl (by decide) dX4_readMan_45 lkm_X4_175 cal_X6_takesWord cX_16 rfl rfl (Nat.le_of_ble_eq_true rfl) rfl) (fun b10 M11 => ?_)
        refine r_ifz_eq (tgt := 64) dX4_readMan_48 rfl (fun h12 => ?_) (fun h12 => ?_)
        · refine r_aload_n dX4_readMan_51 rfl ?_
          refine r_getf (v := .ref (G.2.2.2 (16))) dX4_readMan_52 fX_3_1 kX4 (by decide) lkf_X4_40 rfl ?_
          refine r_iconst (x := 0) dX4_readMan_55 rfl ?_
          refine r_bipush (x := 99) dX4_readMan_56 rfl ?_
          refine c_OZM rfl (inv_V (mi := mi_X4_readMan) (b := 16) (rest := []) (X6_takesNumber_ok G 0 99 M11) rfl (by decide) dX4_readMan_58 lkm_X4_178 cal_X6_takesNumber cX_16 rfl rfl (Nat.le_of_ble_eq_true rfl) rfl) (fun b13 M14 => ?_)
          refine r_ifz_ne (tgt := 66) dX4_readMan_61 rfl (fun h15 => ?_) (fun h15 => ?_)
          · refine r_aload_n dX4_readMan_66 rfl ?_
            refine r_getf (v := .ref (G.2.2.2 (4))) dX4_readMan_67 fX_3_0 kX4 (by decide) lkf_X4_31 rfl ?_
            refine r_getf (v := .ref (G.2.2.2 (5))) dX4_readMan_70 fX_4_6 kX3 (by decide) lkf_X4_182 rfl ?_
            refine r_iload_n dX4_readMan_73 rfl ?_
            refine r_aload_n dX4_readMan_74 rfl ?_
            refine r_getf (v := .ref (G.2.2.2 (16))) dX4_readMan_75 fX_3_1 kX4 (by decide) lkf_X4_40 rfl ?_
            refine r_getf (v := .int (M14.1 16 4)) dX4_readMan_78 fX_16_4 kX6 (by decide) lkf_X4_185 rfl ?_
            refine c_V (inv_SN (mi := mi_X4_readMan) (rest := []) (X11_put_ok G aX_5p y1 (M14.1 16 4) M14) rfl (by decide) dX4_readMan_81 lkm_X4_188 cal_X11_put rfl (Nat.le_of_ble_eq_true rfl) rfl) (fun M16 => ?_)
            refine r_aload_n dX4_readMan_84 rfl ?_
            refine r_getf (v := .ref (G.2.2.2 (16))) dX4_readMan_85 fX_3_1 kX4 (by decide) lkf_X4_40 rfl ?_
            refine r_ldcS (i := 24) dX4_readMan_88 rfl ?_
            refine c_OZ rfl (inv_V (mi := mi_X4_readMan) (b := 16) (rest := []) (X6_says_ok G (w1 := 24) (by decide) M16) rfl (by decide) dX4_readMan_90 lkm_X4_92 cal_X6_says cX_16 rfl rfl (Nat.le_of_ble_eq_true rfl) rfl) (fun b17 => ?_)
            refine r_jB1 (j := 115) (lvj := fun M21 => [some (.ref (G.2.2.2 (3))), none]) (stj := fun M21 => []) (Mj := fun M21 => M21) (fun M21 => ?_) (fun hj115 => ?_)
            · refine r_aload_n dX4_readMan_115 rfl ?_
              refine r_getf (v := .ref (G.2.2.2 (4))) dX4_readMan_116 fX_3_0 kX4 (by decide) lkf_X4_31 rfl ?_
              refine r_dup dX4_readMan_119 rfl ?_
              refine r_getf (v := .int (M21.1 4 0)) dX4_readMan_120 fX_4_0 kX3 (by decide) lkf_X4_170 rfl ?_
              refine r_iconst (x := 1) dX4_readMan_123 rfl ?_
              refine r_iadd dX4_readMan_124 ?_
              refine r_putI dX4_readMan_125 fX_4_0 kX3 (by decide) rfl rfl lkf_X4_170 (fun _ => rfl) rfl rfl (fun M22 => ?_)
              refine r_aload_n dX4_readMan_128 rfl ?_
              refine r_getf (v := .ref (G.2.2.2 (16))) dX4_readMan_129 fX_3_1 kX4 (by decide) lkf_X4_40 rfl ?_
              refine r_bipush (x := 59) dX4_readMan_132 rfl ?_
              refine c_OZM rfl (inv_V (mi := mi_X4_readMan) (b := 16) (rest := []) (X6_takesSign_ok G 59 M22) rfl (by decide) dX4_readMan_134 lkm_X4_167 cal_X6_takesSign cX_16 rfl rfl (Nat.le_of_ble_eq_true rfl) rfl) (fun b23 M24 => ?_)
              exact r_iret (ty := .boolean) dX4_readMan_137 rfl (b2i_n _) rfl
            refine r_ifz_eq (tgt := 115) dX4_readMan_93 rfl (fun h18 => ?_) (fun h18 => ?_)
            · refine r_aload_n dX4_readMan_96 rfl ?_
              refine r_getf (v := .ref (G.2.2.2 (4))) dX4_readMan_97 fX_3_0 kX4 (by decide) lkf_X4_31 rfl ?_
              refine r_getf (v := .ref (G.2.2.2 (6))) dX4_readMan_100 fX_4_7 kX3 (by decide) lkf_X4_194 rfl ?_
              refine r_iload_n dX4_readMan_103 rfl ?_
              refine r_iconst (x := 1) dX4_readMan_104 rfl ?_
              refine c_V (inv_SN (mi := mi_X4_readMan) (rest := []) (X11_put_ok G aX_6p y1 1 M16) rfl (by decide) dX4_readMan_105 lkm_X4_188 cal_X11_put rfl (Nat.le_of_ble_eq_true rfl) rfl) (fun M19 => ?_)
              refine r_aload_n dX4_readMan_108 rfl ?_
              refine r_getf (v := .ref (G.2.2.2 (16))) dX4_readMan_109 fX_3_1 kX4 (by decide) lkf_X4_40 rfl ?_
              refine c_OV rfl (inv_V (mi := mi_X4_readMan) (b := 16) (rest := []) (X6_step_ok G M19) rfl (by decide) dX4_readMan_112 lkm_X4_153 cal_X6_step cX_16 rfl rfl (Nat.le_of_ble_eq_true rfl) rfl) (fun M20 => ?_)
              exact r_lk (hj115 M20) (And.intro rfl True.intro)
            exact r_lk (hj115 M16) (And.intro rfl True.intro)
          refine r_iconst (x := 0) dX4_readMan_64 rfl ?_
          exact r_iret (ty := .boolean) dX4_readMan_65 rfl rfl rfl
        refine r_iconst (x := 0) dX4_readMan_64 rfl ?_
        exact r_iret (ty := .boolean) dX4_readMan_65 rfl rfl rfl
      refine r_iconst (x := 0) dX4_readMan_37 rfl ?_
      exact r_iret (ty := .boolean) dX4_readMan_38 rfl rfl rfl
    refine r_iconst (x := 0) dX4_readMan_37 rfl ?_
    exact r_iret (ty := .boolean) dX4_readMan_38 rfl rfl rfl
  refine r_icmp_ge (tgt := 18) dX4_readMan_11 rfl (fun h2 => ?_) (fun h2 => ?_)
  · refine r_iconst (x := 0) dX4_readMan_18 rfl ?_
    exact r_lk (hj19 0) (And.intro rfl (And.intro rfl True.intro))
  refine r_iconst (x := 1) dX4_readMan_14 rfl ?_
  refine r_goto (tgt := 19) dX4_readMan_15 rfl ?_
  exact r_lk (hj19 1) (And.intro rfl (And.intro rfl True.intro))

theorem dX4_placeOfName_0 : decode cX4_placeOfName 0 = .ok (.aload_n 0, 1) := by decide +kernel
theorem dX4_placeOfName_1 : decode cX4_placeOfName 1 = .ok (.getfield 40, 3) := by decide +kernel
theorem dX4_placeOfName_4 : decode cX4_placeOfName 4 = .ok (.invokevirtual 235, 3) := by decide +kernel
theorem dX4_placeOfName_7 : decode cX4_placeOfName 7 = .ok (.ifCond .ne 14, 3) := by decide +kernel
theorem dX4_placeOfName_10 : decode cX4_placeOfName 10 = .ok (.aload_n 0, 1) := by decide +kernel
theorem dX4_placeOfName_11 : decode cX4_placeOfName 11 = .ok (.getfield 40, 3) := by decide +kernel
theorem dX4_placeOfName_14 : decode cX4_placeOfName 14 = .ok (.iconst 2, 1) := by decide +kernel
theorem dX4_placeOfName_15 : decode cX4_placeOfName 15 = .ok (.invokevirtual 149, 3) := by decide +kernel
theorem dX4_placeOfName_18 : decode cX4_placeOfName 18 = .ok (.pop, 1) := by decide +kernel
theorem dX4_placeOfName_19 : decode cX4_placeOfName 19 = .ok (.iconst (-1), 1) := by decide +kernel
theorem dX4_placeOfName_20 : decode cX4_placeOfName 20 = .ok (.ireturn, 1) := by decide +kernel
theorem dX4_placeOfName_21 : decode cX4_placeOfName 21 = .ok (.aload_n 0, 1) := by decide +kernel
theorem dX4_placeOfName_22 : decode cX4_placeOfName 22 = .ok (.aload_n 1, 1) := by decide +kernel
theorem dX4_placeOfName_23 : decode cX4_placeOfName 23 = .ok (.iload_n 2, 1) := by decide +kernel
theorem dX4_placeOfName_24 : decode cX4_placeOfName 24 = .ok (.invokevirtual 238, 3) := by decide +kernel
theorem dX4_placeOfName_27 : decode cX4_placeOfName 27 = .ok (.istore_n 3, 1) := by decide +kernel
theorem dX4_placeOfName_28 : decode cX4_placeOfName 28 = .ok (.iload_n 3, 1) := by decide +kernel
theorem dX4_placeOfName_29 : decode cX4_placeOfName 29 = .ok (.iconst (-1), 1) := by decide +kernel
theorem dX4_placeOfName_30 : decode cX4_placeOfName 30 = .ok (.if_icmp .ne 12, 3) := by decide +kernel
theorem dX4_placeOfName_33 : decode cX4_placeOfName 33 = .ok (.aload_n 0, 1) := by decide +kernel
theorem dX4_placeOfName_34 : decode cX4_placeOfName 34 = .ok (.getfield 40, 3) := by decide +kernel
theorem dX4_placeOfName_37 : decode cX4_placeOfName 37 = .ok (.iconst 5, 1) := by decide +kernel
theorem dX4_placeOfName_38 : decode cX4_placeOfName 38 = .ok (.invokevirtual 149, 3) := by decide +kernel
theorem dX4_placeOfName_41 : decode cX4_placeOfName 41 = .ok (.pop, 1) := by decide +kernel
theorem dX4_placeOfName_42 : decode cX4_placeOfName 42 = .ok (.iload_n 3, 1) := by decide +kernel
theorem dX4_placeOfName_43 : decode cX4_placeOfName 43 = .ok (.ireturn, 1) := by decide +kernel
abbrev mi_X4_placeOfName : MI := (zTX, RX4, yX4_placeOfName, cX4_placeOfName, 4, (some .int), 10)
theorem cal_X4_placeOfName : zCalV mi_X4_placeOfName 2 := ⟨⟨zTB_i3 147 (by decide +kernel), zTB_i3 146 (by decide +kernel), zTB_i0 10 (by decide +kernel), zTB_i1 3 (by decide +kernel)⟩, ⟨by decide, by decide, by decide +kernel⟩, by decide⟩
noncomputable def X4_placeOfName (a1 : Nat) (x2 : Int32) (M : Mem) : Option (Int32 × Mem) :=
  bo_ (X6_isName M) fun b1 =>
  if b1 = true then
    bo_ (X4_search a1 x2 M) fun v3 =>
    if v3 = (-1) then
      lp_ (X6_refuse 5 M) fun b5 M6 =>
      some (v3, M6)
    else
    some (v3, M)
  else
  lp_ (X6_refuse 2 M) fun b7 M8 =>
  some ((-1), M8)
set_option maxRecDepth 100000 in
set_option maxHeartbeats 4000000 in
theorem X4_placeOfName_ok (G : Gh) {a1 : Nat} (ha1 : zar zTX a1 = some (3, zlen zTX a1)) (x2 : Int32) (M : Mem) : Mt G mi_X4_placeOfName [.ref (G.2.2.2 (3)), .ref (G.2.2.2 (a1)), .int x2] M ((dO dIM) (X4_placeOfName a1 x2 M)) := by
  refine Mt_of (lv := [some (.ref (G.2.2.2 (3))), some (.ref (G.2.2.2 (a1))), some (.int x2)]) (by decide) rfl (Nat.le_of_ble_eq_true rfl) rfl ?_
  refine r_le (lv' := [some (.ref (G.2.2.2 (3))), some (.ref (G.2.2.2 (a1))), some (.int x2), none]) (And.intro rfl (And.intro rfl (And.intro rfl True.intro))) ?_
  unfold X4_placeOfName
  refine r_aload_n dX4_placeOfName_0 rfl ?_
  refine r_getf (v := .ref (G.2.2.2 (16))) dX4_placeOfName_1 fX_3_1 kX4 (by decide) lkf_X4_40 rfl ?_
  refine c_OZ rfl (inv_V (mi := mi_X4_placeOfName) (b := 16) (rest := []) (X6_isName_ok G M) rfl (by decide) dX4_placeOfName_4 lkm_X4_235 cal_X6_isName cX_16 rfl rfl (Nat.le_of_ble_eq_true rfl) rfl) (fun b1 => ?_)
  refine r_ifz_ne (tgt := 21) dX4_placeOfName_7 rfl (fun h2 => ?_) (fun h2 => ?_)
  · refine r_aload_n dX4_placeOfName_21 rfl ?_
    refine r_aload_n dX4_placeOfName_22 rfl ?_
    refine r_iload_n dX4_placeOfName_23 rfl ?_
    refine c_OI rfl (inv_V (mi := mi_X4_placeOfName) (b := 3) (rest := []) (X4_search_ok G ha1 x2 M) rfl (by decide) dX4_placeOfName_24 lkm_X4_238 cal_X4_search cX_3 rfl rfl (Nat.le_of_ble_eq_true rfl) rfl) (fun v3 => ?_)
    refine r_istore_n (lv' := [some (.ref (G.2.2.2 (3))), some (.ref (G.2.2.2 (a1))), some (.int x2), some (.int v3)]) dX4_placeOfName_27 (Nat.le_of_ble_eq_true rfl) rfl rfl ?_
    refine r_iload_n dX4_placeOfName_28 rfl ?_
    refine r_iconst (x := (-1)) dX4_placeOfName_29 rfl ?_
    refine r_icmp_ne (tgt := 42) dX4_placeOfName_30 rfl (fun h4 => ?_) (fun h4 => ?_)
    · refine r_aload_n dX4_placeOfName_33 rfl ?_
      refine r_getf (v := .ref (G.2.2.2 (16))) dX4_placeOfName_34 fX_3_1 kX4 (by decide) lkf_X4_40 rfl ?_
      refine r_iconst (x := 5) dX4_placeOfName_37 rfl ?_
      refine c_ZM (inv_V (mi := mi_X4_placeOfName) (b := 16) (rest := []) (X6_refuse_ok G 5 M) rfl (by decide) dX4_placeOfName_38 lkm_X4_149 cal_X6_refuse cX_16 rfl rfl (Nat.le_of_ble_eq_true rfl) rfl) (fun b5 M6 => ?_)
      refine r_pop dX4_placeOfName_41 rfl ?_
      refine r_iload_n dX4_placeOfName_42 rfl ?_
      exact r_iret (ty := .int) dX4_placeOfName_43 rfl rfl rfl
    refine r_iload_n dX4_placeOfName_42 rfl ?_
    exact r_iret (ty := .int) dX4_placeOfName_43 rfl rfl rfl
  refine r_aload_n dX4_placeOfName_10 rfl ?_
  refine r_getf (v := .ref (G.2.2.2 (16))) dX4_placeOfName_11 fX_3_1 kX4 (by decide) lkf_X4_40 rfl ?_
  refine r_iconst (x := 2) dX4_placeOfName_14 rfl ?_
  refine c_ZM (inv_V (mi := mi_X4_placeOfName) (b := 16) (rest := []) (X6_refuse_ok G 2 M) rfl (by decide) dX4_placeOfName_15 lkm_X4_149 cal_X6_refuse cX_16 rfl rfl (Nat.le_of_ble_eq_true rfl) rfl) (fun b7 M8 => ?_)
  refine r_pop dX4_placeOfName_18 rfl ?_
  refine r_iconst (x := (-1)) dX4_placeOfName_19 rfl ?_
  exact r_iret (ty := .int) dX4_placeOfName_20 rfl rfl rfl

theorem dX4_tellsOnce_0 : decode cX4_tellsOnce 0 = .ok (.iload_n 2, 1) := by decide +kernel
theorem dX4_tellsOnce_1 : decode cX4_tellsOnce 1 = .ok (.ifCond .lt 15, 3) := by decide +kernel
theorem dX4_tellsOnce_4 : decode cX4_tellsOnce 4 = .ok (.iload_n 2, 1) := by decide +kernel
theorem dX4_tellsOnce_5 : decode cX4_tellsOnce 5 = .ok (.aload_n 1, 1) := by decide +kernel
theorem dX4_tellsOnce_6 : decode cX4_tellsOnce 6 = .ok (.arraylength, 1) := by decide +kernel
theorem dX4_tellsOnce_7 : decode cX4_tellsOnce 7 = .ok (.if_icmp .ge 9, 3) := by decide +kernel
theorem dX4_tellsOnce_10 : decode cX4_tellsOnce 10 = .ok (.aload_n 1, 1) := by decide +kernel
theorem dX4_tellsOnce_11 : decode cX4_tellsOnce 11 = .ok (.iload_n 2, 1) := by decide +kernel
theorem dX4_tellsOnce_12 : decode cX4_tellsOnce 12 = .ok (.baload, 1) := by decide +kernel
theorem dX4_tellsOnce_13 : decode cX4_tellsOnce 13 = .ok (.ifCond .eq 12, 3) := by decide +kernel
theorem dX4_tellsOnce_16 : decode cX4_tellsOnce 16 = .ok (.aload_n 0, 1) := by decide +kernel
theorem dX4_tellsOnce_17 : decode cX4_tellsOnce 17 = .ok (.getfield 40, 3) := by decide +kernel
theorem dX4_tellsOnce_20 : decode cX4_tellsOnce 20 = .ok (.iconst 3, 1) := by decide +kernel
theorem dX4_tellsOnce_21 : decode cX4_tellsOnce 21 = .ok (.invokevirtual 149, 3) := by decide +kernel
theorem dX4_tellsOnce_24 : decode cX4_tellsOnce 24 = .ok (.ireturn, 1) := by decide +kernel
theorem dX4_tellsOnce_25 : decode cX4_tellsOnce 25 = .ok (.aload_n 1, 1) := by decide +kernel
theorem dX4_tellsOnce_26 : decode cX4_tellsOnce 26 = .ok (.iload_n 2, 1) := by decide +kernel
theorem dX4_tellsOnce_27 : decode cX4_tellsOnce 27 = .ok (.iconst 1, 1) := by decide +kernel
theorem dX4_tellsOnce_28 : decode cX4_tellsOnce 28 = .ok (.bastore, 1) := by decide +kernel
theorem dX4_tellsOnce_29 : decode cX4_tellsOnce 29 = .ok (.aload_n 0, 1) := by decide +kernel
theorem dX4_tellsOnce_30 : decode cX4_tellsOnce 30 = .ok (.getfield 40, 3) := by decide +kernel
theorem dX4_tellsOnce_33 : decode cX4_tellsOnce 33 = .ok (.invokevirtual 153, 3) := by decide +kernel
theorem dX4_tellsOnce_36 : decode cX4_tellsOnce 36 = .ok (.iconst 1, 1) := by decide +kernel
theorem dX4_tellsOnce_37 : decode cX4_tellsOnce 37 = .ok (.ireturn, 1) := by decide +kernel
abbrev mi_X4_tellsOnce : MI := (zTX, RX4, yX4_tellsOnce, cX4_tellsOnce, 3, (some .boolean), 5)
theorem cal_X4_tellsOnce : zCalV mi_X4_tellsOnce 2 := ⟨⟨zTB_i3 151 (by decide +kernel), zTB_i3 150 (by decide +kernel), zTB_i0 11 (by decide +kernel), zTB_i1 3 (by decide +kernel)⟩, ⟨by decide, by decide, by decide +kernel⟩, by decide⟩
noncomputable def X4_tellsOnce (a1 : Nat) (x2 : Int32) (M : Mem) : Option (Bool × Mem) :=
  l1_ (α := Bool) (
    if x2 < 0 then
      true
    else
    if (nI (zlen zTX a1)) ≤ x2 then
      true
    else
    false) fun t3 =>
  if t3 = true then
    lp_ (X6_refuse 3 M) fun b5 M6 =>
    some (b5, M6)
  else
  gd_ (inb x2 (zlen zTX a1) = true) (
  if (M.1 a1 x2.toNatClampNeg) = 0 then
    lt_ (uI M a1 x2.toNatClampNeg 1) fun M9 =>
    bo_ (X6_step M9) fun M10 =>
    some (true, M10)
  else
  lp_ (X6_refuse 3 M) fun b11 M12 =>
  some (b11, M12))
set_option maxRecDepth 100000 in
set_option maxHeartbeats 4000000 in
theorem X4_tellsOnce_ok (G : Gh) {a1 : Nat} (ha1 : zar zTX a1 = some (2, zlen zTX a1)) (x2 : Int32) (M : Mem) : Mt G mi_X4_tellsOnce [.ref (G.2.2.2 (3)), .ref (G.2.2.2 (a1)), .int x2] M ((dO dZM) (X4_tellsOnce a1 x2 M)) := by
  refine Mt_of (lv := [some (.ref (G.2.2.2 (3))), some (.ref (G.2.2.2 (a1))), some (.int x2)]) (by decide) rfl (Nat.le_of_ble_eq_true rfl) rfl ?_
  unfold X4_tellsOnce
  refine r_iload_n dX4_tellsOnce_0 rfl ?_
  refine r_cL (jX := 16) (jY := 10) (lvX := [some (.ref (G.2.2.2 (3))), none, none]) (lvY := [some (.ref (G.2.2.2 (3))), some (.ref (G.2.2.2 (a1))), some (.int x2)]) (stX := []) (M1 := M) (fun h4 => ?_) (fun h4 => ?_) (fun hX16 hY10 => ?_)
  · refine r_eq (if_pos rfl) ?_
    refine r_aload_n dX4_tellsOnce_16 rfl ?_
    refine r_getf (v := .ref (G.2.2.2 (16))) dX4_tellsOnce_17 fX_3_1 kX4 (by decide) lkf_X4_40 rfl ?_
    refine r_iconst (x := 3) dX4_tellsOnce_20 rfl ?_
    refine c_ZM (inv_V (mi := mi_X4_tellsOnce) (b := 16) (rest := []) (X6_refuse_ok G 3 M) rfl (by decide) dX4_tellsOnce_21 lkm_X4_149 cal_X6_refuse cX_16 rfl rfl (Nat.le_of_ble_eq_true rfl) rfl) (fun b5 M6 => ?_)
    exact r_iret (ty := .boolean) dX4_tellsOnce_24 rfl (b2i_n _) rfl
  · refine r_eq (if_neg (by decide)) ?_
    refine r_aload_n dX4_tellsOnce_10 rfl ?_
    refine r_iload_n dX4_tellsOnce_11 rfl ?_
    refine r_gd rfl (fun g7 => ?_)
    refine r_zald dX4_tellsOnce_12 ha1 (inb_in g7) rfl ?_
    refine r_if_eq (tgt := 25) dX4_tellsOnce_13 rfl (fun h8 => ?_) (fun h8 => ?_)
    · refine r_aload_n dX4_tellsOnce_25 rfl ?_
      refine r_iload_n dX4_tellsOnce_26 rfl ?_
      refine r_iconst (x := 1) dX4_tellsOnce_27 rfl ?_
      refine r_zast dX4_tellsOnce_28 ha1 (inb_in g7) rfl (y := 1) rfl (fun M9 => ?_)
      refine r_aload_n dX4_tellsOnce_29 rfl ?_
      refine r_getf (v := .ref (G.2.2.2 (16))) dX4_tellsOnce_30 fX_3_1 kX4 (by decide) lkf_X4_40 rfl ?_
      refine c_OV rfl (inv_V (mi := mi_X4_tellsOnce) (b := 16) (rest := []) (X6_step_ok G M9) rfl (by decide) dX4_tellsOnce_33 lkm_X4_153 cal_X6_step cX_16 rfl rfl (Nat.le_of_ble_eq_true rfl) rfl) (fun M10 => ?_)
      refine r_iconst (x := 1) dX4_tellsOnce_36 rfl ?_
      exact r_iret (ty := .boolean) dX4_tellsOnce_37 rfl rfl rfl
    refine r_aload_n dX4_tellsOnce_16 rfl ?_
    refine r_getf (v := .ref (G.2.2.2 (16))) dX4_tellsOnce_17 fX_3_1 kX4 (by decide) lkf_X4_40 rfl ?_
    refine r_iconst (x := 3) dX4_tellsOnce_20 rfl ?_
    refine c_ZM (inv_V (mi := mi_X4_tellsOnce) (b := 16) (rest := []) (X6_refuse_ok G 3 M) rfl (by decide) dX4_tellsOnce_21 lkm_X4_149 cal_X6_refuse cX_16 rfl rfl (Nat.le_of_ble_eq_true rfl) rfl) (fun b11 M12 => ?_)
    exact r_iret (ty := .boolean) dX4_tellsOnce_24 rfl (b2i_n _) rfl
  refine r_if_lt (tgt := 16) dX4_tellsOnce_1 rfl (fun h1 => ?_) (fun h1 => ?_)
  · exact r_lk hX16 (And.intro rfl True.intro)
  refine r_iload_n dX4_tellsOnce_4 rfl ?_
  refine r_aload_n dX4_tellsOnce_5 rfl ?_
  refine r_alen (v := nI (zlen zTX a1)) dX4_tellsOnce_6 ha1 (by decide) rfl ?_
  refine r_icmp_ge (tgt := 16) dX4_tellsOnce_7 rfl (fun h2 => ?_) (fun h2 => ?_)
  · exact r_lk hX16 (And.intro rfl True.intro)
  exact r_lk hY10 (And.intro rfl (And.intro rfl (And.intro rfl True.intro)))

theorem dX4_readHours_0 : decode cX4_readHours 0 = .ok (.aload_n 0, 1) := by decide +kernel
theorem dX4_readHours_1 : decode cX4_readHours 1 = .ok (.getfield 40, 3) := by decide +kernel
theorem dX4_readHours_4 : decode cX4_readHours 4 = .ok (.invokevirtual 153, 3) := by decide +kernel
theorem dX4_readHours_7 : decode cX4_readHours 7 = .ok (.aload_n 0, 1) := by decide +kernel
theorem dX4_readHours_8 : decode cX4_readHours 8 = .ok (.aload_n 0, 1) := by decide +kernel
theorem dX4_readHours_9 : decode cX4_readHours 9 = .ok (.getfield 15, 3) := by decide +kernel
theorem dX4_readHours_12 : decode cX4_readHours 12 = .ok (.aload_n 0, 1) := by decide +kernel
theorem dX4_readHours_13 : decode cX4_readHours 13 = .ok (.getfield 31, 3) := by decide +kernel
theorem dX4_readHours_16 : decode cX4_readHours 16 = .ok (.getfield 170, 3) := by decide +kernel
theorem dX4_readHours_19 : decode cX4_readHours 19 = .ok (.invokevirtual 196, 3) := by decide +kernel
theorem dX4_readHours_22 : decode cX4_readHours 22 = .ok (.istore 4, 2) := by decide +kernel
theorem dX4_readHours_24 : decode cX4_readHours 24 = .ok (.iload 4, 2) := by decide +kernel
theorem dX4_readHours_26 : decode cX4_readHours 26 = .ok (.iconst (-1), 1) := by decide +kernel
theorem dX4_readHours_27 : decode cX4_readHours 27 = .ok (.if_icmp .ne 5, 3) := by decide +kernel
theorem dX4_readHours_30 : decode cX4_readHours 30 = .ok (.iconst 0, 1) := by decide +kernel
theorem dX4_readHours_31 : decode cX4_readHours 31 = .ok (.ireturn, 1) := by decide +kernel
theorem dX4_readHours_32 : decode cX4_readHours 32 = .ok (.aload_n 0, 1) := by decide +kernel
theorem dX4_readHours_33 : decode cX4_readHours 33 = .ok (.getfield 40, 3) := by decide +kernel
theorem dX4_readHours_36 : decode cX4_readHours 36 = .ok (.invokevirtual 153, 3) := by decide +kernel
theorem dX4_readHours_39 : decode cX4_readHours 39 = .ok (.aload_n 0, 1) := by decide +kernel
theorem dX4_readHours_40 : decode cX4_readHours 40 = .ok (.aload_n 0, 1) := by decide +kernel
theorem dX4_readHours_41 : decode cX4_readHours 41 = .ok (.getfield 9, 3) := by decide +kernel
theorem dX4_readHours_44 : decode cX4_readHours 44 = .ok (.aload_n 0, 1) := by decide +kernel
theorem dX4_readHours_45 : decode cX4_readHours 45 = .ok (.getfield 31, 3) := by decide +kernel
theorem dX4_readHours_48 : decode cX4_readHours 48 = .ok (.getfield 156, 3) := by decide +kernel
theorem dX4_readHours_51 : decode cX4_readHours 51 = .ok (.invokevirtual 196, 3) := by decide +kernel
theorem dX4_readHours_54 : decode cX4_readHours 54 = .ok (.istore 5, 2) := by decide +kernel
theorem dX4_readHours_56 : decode cX4_readHours 56 = .ok (.iload 5, 2) := by decide +kernel
theorem dX4_readHours_58 : decode cX4_readHours 58 = .ok (.iconst (-1), 1) := by decide +kernel
theorem dX4_readHours_59 : decode cX4_readHours 59 = .ok (.if_icmp .ne 5, 3) := by decide +kernel
theorem dX4_readHours_62 : decode cX4_readHours 62 = .ok (.iconst 0, 1) := by decide +kernel
theorem dX4_readHours_63 : decode cX4_readHours 63 = .ok (.ireturn, 1) := by decide +kernel
theorem dX4_readHours_64 : decode cX4_readHours 64 = .ok (.iload 4, 2) := by decide +kernel
theorem dX4_readHours_66 : decode cX4_readHours 66 = .ok (.iconst 3, 1) := by decide +kernel
theorem dX4_readHours_67 : decode cX4_readHours 67 = .ok (.imul, 1) := by decide +kernel
theorem dX4_readHours_68 : decode cX4_readHours 68 = .ok (.iload 5, 2) := by decide +kernel
theorem dX4_readHours_70 : decode cX4_readHours 70 = .ok (.iadd, 1) := by decide +kernel
theorem dX4_readHours_71 : decode cX4_readHours 71 = .ok (.istore 6, 2) := by decide +kernel
theorem dX4_readHours_73 : decode cX4_readHours 73 = .ok (.aload_n 0, 1) := by decide +kernel
theorem dX4_readHours_74 : decode cX4_readHours 74 = .ok (.aload_n 2, 1) := by decide +kernel
theorem dX4_readHours_75 : decode cX4_readHours 75 = .ok (.iload 6, 2) := by decide +kernel
theorem dX4_readHours_77 : decode cX4_readHours 77 = .ok (.invokevirtual 200, 3) := by decide +kernel
theorem dX4_readHours_80 : decode cX4_readHours 80 = .ok (.ifCond .eq 15, 3) := by decide +kernel
theorem dX4_readHours_83 : decode cX4_readHours 83 = .ok (.aload_n 0, 1) := by decide +kernel
theorem dX4_readHours_84 : decode cX4_readHours 84 = .ok (.getfield 40, 3) := by decide +kernel
theorem dX4_readHours_87 : decode cX4_readHours 87 = .ok (.iconst 0, 1) := by decide +kernel
theorem dX4_readHours_88 : decode cX4_readHours 88 = .ok (.iload_n 3, 1) := by decide +kernel
theorem dX4_readHours_89 : decode cX4_readHours 89 = .ok (.invokevirtual 178, 3) := by decide +kernel
theorem dX4_readHours_92 : decode cX4_readHours 92 = .ok (.ifCond .ne 5, 3) := by decide +kernel
theorem dX4_readHours_95 : decode cX4_readHours 95 = .ok (.iconst 0, 1) := by decide +kernel
theorem dX4_readHours_96 : decode cX4_readHours 96 = .ok (.ireturn, 1) := by decide +kernel
theorem dX4_readHours_97 : decode cX4_readHours 97 = .ok (.aload_n 1, 1) := by decide +kernel
theorem dX4_readHours_98 : decode cX4_readHours 98 = .ok (.iload 6, 2) := by decide +kernel
theorem dX4_readHours_100 : decode cX4_readHours 100 = .ok (.aload_n 0, 1) := by decide +kernel
theorem dX4_readHours_101 : decode cX4_readHours 101 = .ok (.getfield 40, 3) := by decide +kernel
theorem dX4_readHours_104 : decode cX4_readHours 104 = .ok (.getfield 185, 3) := by decide +kernel
theorem dX4_readHours_107 : decode cX4_readHours 107 = .ok (.invokestatic 188, 3) := by decide +kernel
theorem dX4_readHours_110 : decode cX4_readHours 110 = .ok (.aload_n 0, 1) := by decide +kernel
theorem dX4_readHours_111 : decode cX4_readHours 111 = .ok (.getfield 40, 3) := by decide +kernel
theorem dX4_readHours_114 : decode cX4_readHours 114 = .ok (.bipush 59, 2) := by decide +kernel
theorem dX4_readHours_116 : decode cX4_readHours 116 = .ok (.invokevirtual 167, 3) := by decide +kernel
theorem dX4_readHours_119 : decode cX4_readHours 119 = .ok (.ireturn, 1) := by decide +kernel
abbrev mi_X4_readHours : MI := (zTX, RX4, yX4_readHours, cX4_readHours, 7, (some .boolean), 11)
theorem cal_X4_readHours : zCalV mi_X4_readHours 3 := ⟨⟨zTB_i3 143 (by decide +kernel), zTB_i3 142 (by decide +kernel), zTB_i0 9 (by decide +kernel), zTB_i1 3 (by decide +kernel)⟩, ⟨by decide, by decide, by decide +kernel⟩, by decide⟩
noncomputable def X4_readHours (a1 : Nat) (a2 : Nat) (x3 : Int32) (M : Mem) : Option (Bool × Mem) :=
  bo_ (X6_step M) fun M1 =>
  bp_ (X4_placeOfName 19 (M1.1 4 0) M1) fun v2 M3 =>
  if v2 = (-1) then
    some (false, M3)
  else
  bo_ (X6_step M3) fun M5 =>
  bp_ (X4_placeOfName 18 (M5.1 4 1) M5) fun v6 M7 =>
  if v6 = (-1) then
    some (false, M7)
  else
  bp_ (X4_tellsOnce a2 ((v2 * 3) + v6) M7) fun b9 M10 =>
  if b9 = true then
    bp_ (X6_takesNumber 0 x3 M10) fun b12 M13 =>
    if b12 = true then
      lt_ (X11_put a1 ((v2 * 3) + v6) (M13.1 16 4) M13) fun M15 =>
      bp_ (X6_takesSign 59 M15) fun b16 M17 =>
      some (b16, M17)
    else
    some (false, M13)
  else
  some (false, M10)
set_option maxRecDepth 100000 in
set_option maxHeartbeats 4000000 in
theorem X4_readHours_ok (G : Gh) {a1 : Nat} (ha1 : zar zTX a1 = some (0, zlen zTX a1)) {a2 : Nat} (ha2 : zar zTX a2 = some (2, zlen zTX a2)) (x3 : Int32) (M : Mem) : Mt G mi_X4_readHours [.ref (G.2.2.2 (3)), .ref (G.2.2.2 (a1)), .ref (G.2.2.2 (a2)), .int x3] M ((dO dZM) (X4_readHours a1 a2 x3 M)) := by
  refine Mt_of (lv := [some (.ref (G.2.2.2 (3))), some (.ref (G.2.2.2 (a1))), some (.ref (G.2.2.2 (a2))), some (.int x3)]) (by decide) rfl (Nat.le_of_ble_eq_true rfl) rfl ?_
  refine r_le (lv' := [some (.ref (G.2.2.2 (3))), some (.ref (G.2.2.2 (a1))), some (.ref (G.2.2.2 (a2))), some (.int x3), none, none, none]) (And.intro rfl (And.intro rfl (And.intro rfl (And.intro rfl True.intro)))) ?_
  unfold X4_readHours
  refine r_aload_n dX4_readHours_0 rfl ?_
  refine r_getf (v := .ref (G.2.2.2 (16))) dX4_readHours_1 fX_3_1 kX4 (by decide) lkf_X4_40 rfl ?_
  refine c_OV rfl (inv_V (mi := mi_X4_readHours) (b := 16) (rest := []) (X6_step_ok G M) rfl (by decide) dX4_readHours_4 lkm_X4_153 cal_X6_step cX_16 rfl rfl (Nat.le_of_ble_eq_true rfl) rfl) (fun M1 => ?_)
  refine r_aload_n dX4_readHours_7 rfl ?_
  refine r_aload_n dX4_readHours_8 rfl ?_
  refine r_getf (v := .ref (G.2.2.2 (19))) dX4_readHours_9 fX_3_4 kX4 (by decide) lkf_X4_15 rfl ?_
  refine r_aload_n dX4_readHours_12 rfl ?_
  refine r_getf (v := .ref (G.2.2.2 (4))) dX4_readHours_13 fX_3_0 kX4 (by decide) lkf_X4_31 rfl ?_
  refine r_getf (v := .int (M1.1 4 0)) dX4_readHours_16 fX_4_0 kX3 (by decide) lkf_X4_170 rfl ?_
  refine c_OIM rfl (inv_V (mi := mi_X4_readHours) (b := 3) (rest := []) (X4_placeOfName_ok G aX_19p (M1.1 4 0) M1) rfl (by decide) dX4_readHours_19 lkm_X4_196 cal_X4_placeOfName cX_3 rfl rfl (Nat.le_of_ble_eq_true rfl) rfl) (fun v2 M3 => ?_)
  refine r_istore (lv' := [some (.ref (G.2.2.2 (3))), some (.ref (G.2.2.2 (a1))), some (.ref (G.2.2.2 (a2))), some (.int x3), some (.int v2), none, none]) dX4_readHours_22 (Nat.le_of_ble_eq_true rfl) rfl rfl ?_
  refine r_iload dX4_readHours_24 rfl ?_
  refine r_iconst (x := (-1)) dX4_readHours_26 rfl ?_
  refine r_icmp_ne (tgt := 32) dX4_readHours_27 rfl (fun h4 => ?_) (fun h4 => ?_)
  · refine r_iconst (x := 0) dX4_readHours_30 rfl ?_
    exact r_iret (ty := .boolean) dX4_readHours_31 rfl rfl rfl
  refine r_aload_n dX4_readHours_32 rfl ?_
  refine r_getf (v := .ref (G.2.2.2 (16))) dX4_readHours_33 fX_3_1 kX4 (by decide) lkf_X4_40 rfl ?_
  refine c_OV rfl (inv_V (mi := mi_X4_readHours) (b := 16) (rest := []) (X6_step_ok G M3) rfl (by decide) dX4_readHours_36 lkm_X4_153 cal_X6_step cX_16 rfl rfl (Nat.le_of_ble_eq_true rfl) rfl) (fun M5 => ?_)
  refine r_aload_n dX4_readHours_39 rfl ?_
  refine r_aload_n dX4_readHours_40 rfl ?_
  refine r_getf (v := .ref (G.2.2.2 (18))) dX4_readHours_41 fX_3_3 kX4 (by decide) lkf_X4_9 rfl ?_
  refine r_aload_n dX4_readHours_44 rfl ?_
  refine r_getf (v := .ref (G.2.2.2 (4))) dX4_readHours_45 fX_3_0 kX4 (by decide) lkf_X4_31 rfl ?_
  refine r_getf (v := .int (M5.1 4 1)) dX4_readHours_48 fX_4_1 kX3 (by decide) lkf_X4_156 rfl ?_
  refine c_OIM rfl (inv_V (mi := mi_X4_readHours) (b := 3) (rest := []) (X4_placeOfName_ok G aX_18p (M5.1 4 1) M5) rfl (by decide) dX4_readHours_51 lkm_X4_196 cal_X4_placeOfName cX_3 rfl rfl (Nat.le_of_ble_eq_true rfl) rfl) (fun v6 M7 => ?_)
  refine r_istore (lv' := [some (.ref (G.2.2.2 (3))), some (.ref (G.2.2.2 (a1))), some (.ref (G.2.2.2 (a2))), some (.int x3), some (.int v2), some (.int v6), none]) dX4_readHours_54 (Nat.le_of_ble_eq_true rfl) rfl rfl ?_
  refine r_iload dX4_readHours_56 rfl ?_
  refine r_iconst (x := (-1)) dX4_readHours_58 rfl ?_
  refine r_icmp_ne (tgt := 64) dX4_readHours_59 rfl (fun h8 => ?_) (fun h8 => ?_)
  · refine r_iconst (x := 0) dX4_readHours_62 rfl ?_
    exact r_iret (ty := .boolean) dX4_readHours_63 rfl rfl rfl
  refine r_iload dX4_readHours_64 rfl ?_
  refine r_iconst (x := 3) dX4_readHours_66 rfl ?_
  refine r_imul dX4_readHours_67 ?_
  refine r_iload dX4_readHours_68 rfl ?_
  refine r_iadd dX4_readHours_70 ?_
  refine r_istore (lv' := [some (.ref (G.2.2.2 (3))), some (.ref (G.2.2.2 (a1))), some (.ref (G.2.2.2 (a2))), some (.int x3), some (.int v2), some (.int v6), some (.int ((v2 * 3) + v6))]) dX4_readHours_71 (Nat.le_of_ble_eq_true rfl) rfl rfl ?_
  refine r_aload_n dX4_readHours_73 rfl ?_
  refine r_aload_n dX4_readHours_74 rfl ?_
  refine r_iload dX4_readHours_75 rfl ?_
  refine c_OZM rfl (inv_V (mi := mi_X4_readHours) (b := 3) (rest := []) (X4_tellsOnce_ok G ha2 ((v2 * 3) + v6) M7) rfl (by decide) dX4_readHours_77 lkm_X4_200 cal_X4_tellsOnce cX_3 rfl rfl (Nat.le_of_ble_eq_true rfl) rfl) (fun b9 M10 => ?_)
  refine r_ifz_eq (tgt := 95) dX4_readHours_80 rfl (fun h11 => ?_) (fun h11 => ?_)
  · refine r_aload_n dX4_readHours_83 rfl ?_
    refine r_getf (v := .ref (G.2.2.2 (16))) dX4_readHours_84 fX_3_1 kX4 (by decide) lkf_X4_40 rfl ?_
    refine r_iconst (x := 0) dX4_readHours_87 rfl ?_
    refine r_iload_n dX4_readHours_88 rfl ?_
    refine c_OZM rfl (inv_V (mi := mi_X4_readHours) (b := 16) (rest := []) (X6_takesNumber_ok G 0 x3 M10) rfl (by decide) dX4_readHours_89 lkm_X4_178 cal_X6_takesNumber cX_16 rfl rfl (Nat.le_of_ble_eq_true rfl) rfl) (fun b12 M13 => ?_)
    refine r_ifz_ne (tgt := 97) dX4_readHours_92 rfl (fun h14 => ?_) (fun h14 => ?_)
    · refine r_aload_n dX4_readHours_97 rfl ?_
      refine r_iload dX4_readHours_98 rfl ?_
      refine r_aload_n dX4_readHours_100 rfl ?_
      refine r_getf (v := .ref (G.2.2.2 (16))) dX4_readHours_101 fX_3_1 kX4 (by decide) lkf_X4_40 rfl ?_
      refine r_getf (v := .int (M13.1 16 4)) dX4_readHours_104 fX_16_4 kX6 (by decide) lkf_X4_185 rfl ?_
      refine c_V (inv_SN (mi := mi_X4_readHours) (rest := []) (X11_put_ok G ha1 ((v2 * 3) + v6) (M13.1 16 4) M13) rfl (by decide) dX4_readHours_107 lkm_X4_188 cal_X11_put rfl (Nat.le_of_ble_eq_true rfl) rfl) (fun M15 => ?_)
      refine r_aload_n dX4_readHours_110 rfl ?_
      refine r_getf (v := .ref (G.2.2.2 (16))) dX4_readHours_111 fX_3_1 kX4 (by decide) lkf_X4_40 rfl ?_
      refine r_bipush (x := 59) dX4_readHours_114 rfl ?_
      refine c_OZM rfl (inv_V (mi := mi_X4_readHours) (b := 16) (rest := []) (X6_takesSign_ok G 59 M15) rfl (by decide) dX4_readHours_116 lkm_X4_167 cal_X6_takesSign cX_16 rfl rfl (Nat.le_of_ble_eq_true rfl) rfl) (fun b16 M17 => ?_)
      exact r_iret (ty := .boolean) dX4_readHours_119 rfl (b2i_n _) rfl
    refine r_iconst (x := 0) dX4_readHours_95 rfl ?_
    exact r_iret (ty := .boolean) dX4_readHours_96 rfl rfl rfl
  refine r_iconst (x := 0) dX4_readHours_95 rfl ?_
  exact r_iret (ty := .boolean) dX4_readHours_96 rfl rfl rfl

theorem dX4_readHedge_0 : decode cX4_readHedge 0 = .ok (.aload_n 0, 1) := by decide +kernel
theorem dX4_readHedge_1 : decode cX4_readHedge 1 = .ok (.getfield 40, 3) := by decide +kernel
theorem dX4_readHedge_4 : decode cX4_readHedge 4 = .ok (.invokevirtual 153, 3) := by decide +kernel
theorem dX4_readHedge_7 : decode cX4_readHedge 7 = .ok (.aload_n 0, 1) := by decide +kernel
theorem dX4_readHedge_8 : decode cX4_readHedge 8 = .ok (.aload_n 0, 1) := by decide +kernel
theorem dX4_readHedge_9 : decode cX4_readHedge 9 = .ok (.getfield 15, 3) := by decide +kernel
theorem dX4_readHedge_12 : decode cX4_readHedge 12 = .ok (.aload_n 0, 1) := by decide +kernel
theorem dX4_readHedge_13 : decode cX4_readHedge 13 = .ok (.getfield 31, 3) := by decide +kernel
theorem dX4_readHedge_16 : decode cX4_readHedge 16 = .ok (.getfield 170, 3) := by decide +kernel
theorem dX4_readHedge_19 : decode cX4_readHedge 19 = .ok (.invokevirtual 196, 3) := by decide +kernel
theorem dX4_readHedge_22 : decode cX4_readHedge 22 = .ok (.istore_n 1, 1) := by decide +kernel
theorem dX4_readHedge_23 : decode cX4_readHedge 23 = .ok (.iload_n 1, 1) := by decide +kernel
theorem dX4_readHedge_24 : decode cX4_readHedge 24 = .ok (.iconst (-1), 1) := by decide +kernel
theorem dX4_readHedge_25 : decode cX4_readHedge 25 = .ok (.if_icmp .eq 28, 3) := by decide +kernel
theorem dX4_readHedge_28 : decode cX4_readHedge 28 = .ok (.aload_n 0, 1) := by decide +kernel
theorem dX4_readHedge_29 : decode cX4_readHedge 29 = .ok (.aload_n 0, 1) := by decide +kernel
theorem dX4_readHedge_30 : decode cX4_readHedge 30 = .ok (.getfield 25, 3) := by decide +kernel
theorem dX4_readHedge_33 : decode cX4_readHedge 33 = .ok (.iload_n 1, 1) := by decide +kernel
theorem dX4_readHedge_34 : decode cX4_readHedge 34 = .ok (.invokevirtual 200, 3) := by decide +kernel
theorem dX4_readHedge_37 : decode cX4_readHedge 37 = .ok (.ifCond .eq 16, 3) := by decide +kernel
theorem dX4_readHedge_40 : decode cX4_readHedge 40 = .ok (.aload_n 0, 1) := by decide +kernel
theorem dX4_readHedge_41 : decode cX4_readHedge 41 = .ok (.getfield 40, 3) := by decide +kernel
theorem dX4_readHedge_44 : decode cX4_readHedge 44 = .ok (.iconst 0, 1) := by decide +kernel
theorem dX4_readHedge_45 : decode cX4_readHedge 45 = .ok (.bipush 10, 2) := by decide +kernel
theorem dX4_readHedge_47 : decode cX4_readHedge 47 = .ok (.invokevirtual 178, 3) := by decide +kernel
theorem dX4_readHedge_50 : decode cX4_readHedge 50 = .ok (.ifCond .ne 5, 3) := by decide +kernel
theorem dX4_readHedge_53 : decode cX4_readHedge 53 = .ok (.iconst 0, 1) := by decide +kernel
theorem dX4_readHedge_54 : decode cX4_readHedge 54 = .ok (.ireturn, 1) := by decide +kernel
theorem dX4_readHedge_55 : decode cX4_readHedge 55 = .ok (.aload_n 0, 1) := by decide +kernel
theorem dX4_readHedge_56 : decode cX4_readHedge 56 = .ok (.getfield 31, 3) := by decide +kernel
theorem dX4_readHedge_59 : decode cX4_readHedge 59 = .ok (.getfield 204, 3) := by decide +kernel
theorem dX4_readHedge_62 : decode cX4_readHedge 62 = .ok (.iload_n 1, 1) := by decide +kernel
theorem dX4_readHedge_63 : decode cX4_readHedge 63 = .ok (.aload_n 0, 1) := by decide +kernel
theorem dX4_readHedge_64 : decode cX4_readHedge 64 = .ok (.getfield 40, 3) := by decide +kernel
theorem dX4_readHedge_67 : decode cX4_readHedge 67 = .ok (.getfield 185, 3) := by decide +kernel
theorem dX4_readHedge_70 : decode cX4_readHedge 70 = .ok (.invokestatic 188, 3) := by decide +kernel
theorem dX4_readHedge_73 : decode cX4_readHedge 73 = .ok (.aload_n 0, 1) := by decide +kernel
theorem dX4_readHedge_74 : decode cX4_readHedge 74 = .ok (.getfield 40, 3) := by decide +kernel
theorem dX4_readHedge_77 : decode cX4_readHedge 77 = .ok (.bipush 59, 2) := by decide +kernel
theorem dX4_readHedge_79 : decode cX4_readHedge 79 = .ok (.invokevirtual 167, 3) := by decide +kernel
theorem dX4_readHedge_82 : decode cX4_readHedge 82 = .ok (.ireturn, 1) := by decide +kernel
abbrev mi_X4_readHedge : MI := (zTX, RX4, yX4_readHedge, cX4_readHedge, 2, (some .boolean), 11)
theorem cal_X4_readHedge : zCalV mi_X4_readHedge 0 := ⟨⟨zTB_i3 157 (by decide +kernel), zTB_i3 156 (by decide +kernel), zTB_i0 12 (by decide +kernel), zTB_i1 3 (by decide +kernel)⟩, ⟨by decide, by decide, by decide +kernel⟩, by decide⟩
noncomputable def X4_readHedge (M : Mem) : Option (Bool × Mem) :=
  bo_ (X6_step M) fun M1 =>
  bp_ (X4_placeOfName 19 (M1.1 4 0) M1) fun v2 M3 =>
  if v2 = (-1) then
    some (false, M3)
  else
  bp_ (X4_tellsOnce 22 v2 M3) fun b5 M6 =>
  if b5 = true then
    bp_ (X6_takesNumber 0 10 M6) fun b8 M9 =>
    if b8 = true then
      lt_ (X11_put 7 v2 (M9.1 16 4) M9) fun M11 =>
      bp_ (X6_takesSign 59 M11) fun b12 M13 =>
      some (b12, M13)
    else
    some (false, M9)
  else
  some (false, M6)
set_option maxRecDepth 100000 in
set_option maxHeartbeats 4000000 in
theorem X4_readHedge_ok (G : Gh) (M : Mem) : Mt G mi_X4_readHedge [.ref (G.2.2.2 (3))] M ((dO dZM) (X4_readHedge M)) := by
  refine Mt_of (lv := [some (.ref (G.2.2.2 (3)))]) (by decide) rfl (Nat.le_of_ble_eq_true rfl) rfl ?_
  refine r_le (lv' := [some (.ref (G.2.2.2 (3))), none]) (And.intro rfl True.intro) ?_
  unfold X4_readHedge
  refine r_aload_n dX4_readHedge_0 rfl ?_
  refine r_getf (v := .ref (G.2.2.2 (16))) dX4_readHedge_1 fX_3_1 kX4 (by decide) lkf_X4_40 rfl ?_
  refine c_OV rfl (inv_V (mi := mi_X4_readHedge) (b := 16) (rest := []) (X6_step_ok G M) rfl (by decide) dX4_readHedge_4 lkm_X4_153 cal_X6_step cX_16 rfl rfl (Nat.le_of_ble_eq_true rfl) rfl) (fun M1 => ?_)
  refine r_aload_n dX4_readHedge_7 rfl ?_
  refine r_aload_n dX4_readHedge_8 rfl ?_
  refine r_getf (v := .ref (G.2.2.2 (19))) dX4_readHedge_9 fX_3_4 kX4 (by decide) lkf_X4_15 rfl ?_
  refine r_aload_n dX4_readHedge_12 rfl ?_
  refine r_getf (v := .ref (G.2.2.2 (4))) dX4_readHedge_13 fX_3_0 kX4 (by decide) lkf_X4_31 rfl ?_
  refine r_getf (v := .int (M1.1 4 0)) dX4_readHedge_16 fX_4_0 kX3 (by decide) lkf_X4_170 rfl ?_
  refine c_OIM rfl (inv_V (mi := mi_X4_readHedge) (b := 3) (rest := []) (X4_placeOfName_ok G aX_19p (M1.1 4 0) M1) rfl (by decide) dX4_readHedge_19 lkm_X4_196 cal_X4_placeOfName cX_3 rfl rfl (Nat.le_of_ble_eq_true rfl) rfl) (fun v2 M3 => ?_)
  refine r_istore_n (lv' := [some (.ref (G.2.2.2 (3))), some (.int v2)]) dX4_readHedge_22 (Nat.le_of_ble_eq_true rfl) rfl rfl ?_
  refine r_iload_n dX4_readHedge_23 rfl ?_
  refine r_iconst (x := (-1)) dX4_readHedge_24 rfl ?_
  refine r_icmp_eq (tgt := 53) dX4_readHedge_25 rfl (fun h4 => ?_) (fun h4 => ?_)
  · refine r_iconst (x := 0) dX4_readHedge_53 rfl ?_
    exact r_iret (ty := .boolean) dX4_readHedge_54 rfl rfl rfl
  refine r_aload_n dX4_readHedge_28 rfl ?_
  refine r_aload_n dX4_readHedge_29 rfl ?_
  refine r_getf (v := .ref (G.2.2.2 (22))) dX4_readHedge_30 fX_3_7 kX4 (by decide) lkf_X4_25 rfl ?_
  refine r_iload_n dX4_readHedge_33 rfl ?_
  refine c_OZM rfl (inv_V (mi := mi_X4_readHedge) (b := 3) (rest := []) (X4_tellsOnce_ok G aX_22p v2 M3) rfl (by decide) dX4_readHedge_34 lkm_X4_200 cal_X4_tellsOnce cX_3 rfl rfl (Nat.le_of_ble_eq_true rfl) rfl) (fun b5 M6 => ?_)
  refine r_ifz_eq (tgt := 53) dX4_readHedge_37 rfl (fun h7 => ?_) (fun h7 => ?_)
  · refine r_aload_n dX4_readHedge_40 rfl ?_
    refine r_getf (v := .ref (G.2.2.2 (16))) dX4_readHedge_41 fX_3_1 kX4 (by decide) lkf_X4_40 rfl ?_
    refine r_iconst (x := 0) dX4_readHedge_44 rfl ?_
    refine r_bipush (x := 10) dX4_readHedge_45 rfl ?_
    refine c_OZM rfl (inv_V (mi := mi_X4_readHedge) (b := 16) (rest := []) (X6_takesNumber_ok G 0 10 M6) rfl (by decide) dX4_readHedge_47 lkm_X4_178 cal_X6_takesNumber cX_16 rfl rfl (Nat.le_of_ble_eq_true rfl) rfl) (fun b8 M9 => ?_)
    refine r_ifz_ne (tgt := 55) dX4_readHedge_50 rfl (fun h10 => ?_) (fun h10 => ?_)
    · refine r_aload_n dX4_readHedge_55 rfl ?_
      refine r_getf (v := .ref (G.2.2.2 (4))) dX4_readHedge_56 fX_3_0 kX4 (by decide) lkf_X4_31 rfl ?_
      refine r_getf (v := .ref (G.2.2.2 (7))) dX4_readHedge_59 fX_4_8 kX3 (by decide) lkf_X4_204 rfl ?_
      refine r_iload_n dX4_readHedge_62 rfl ?_
      refine r_aload_n dX4_readHedge_63 rfl ?_
      refine r_getf (v := .ref (G.2.2.2 (16))) dX4_readHedge_64 fX_3_1 kX4 (by decide) lkf_X4_40 rfl ?_
      refine r_getf (v := .int (M9.1 16 4)) dX4_readHedge_67 fX_16_4 kX6 (by decide) lkf_X4_185 rfl ?_
      refine c_V (inv_SN (mi := mi_X4_readHedge) (rest := []) (X11_put_ok G aX_7p v2 (M9.1 16 4) M9) rfl (by decide) dX4_readHedge_70 lkm_X4_188 cal_X11_put rfl (Nat.le_of_ble_eq_true rfl) rfl) (fun M11 => ?_)
      refine r_aload_n dX4_readHedge_73 rfl ?_
      refine r_getf (v := .ref (G.2.2.2 (16))) dX4_readHedge_74 fX_3_1 kX4 (by decide) lkf_X4_40 rfl ?_
      refine r_bipush (x := 59) dX4_readHedge_77 rfl ?_
      refine c_OZM rfl (inv_V (mi := mi_X4_readHedge) (b := 16) (rest := []) (X6_takesSign_ok G 59 M11) rfl (by decide) dX4_readHedge_79 lkm_X4_167 cal_X6_takesSign cX_16 rfl rfl (Nat.le_of_ble_eq_true rfl) rfl) (fun b12 M13 => ?_)
      exact r_iret (ty := .boolean) dX4_readHedge_82 rfl (b2i_n _) rfl
    refine r_iconst (x := 0) dX4_readHedge_53 rfl ?_
    exact r_iret (ty := .boolean) dX4_readHedge_54 rfl rfl rfl
  refine r_iconst (x := 0) dX4_readHedge_53 rfl ?_
  exact r_iret (ty := .boolean) dX4_readHedge_54 rfl rfl rfl

theorem dX11_cell_0 : decode cX11_cell 0 = .ok (.iload_n 1, 1) := by decide +kernel
theorem dX11_cell_1 : decode cX11_cell 1 = .ok (.ifCond .lt 15, 3) := by decide +kernel
theorem dX11_cell_4 : decode cX11_cell 4 = .ok (.iload_n 1, 1) := by decide +kernel
theorem dX11_cell_5 : decode cX11_cell 5 = .ok (.aload_n 0, 1) := by decide +kernel
theorem dX11_cell_6 : decode cX11_cell 6 = .ok (.arraylength, 1) := by decide +kernel
theorem dX11_cell_7 : decode cX11_cell 7 = .ok (.if_icmp .ge 9, 3) := by decide +kernel
theorem dX11_cell_10 : decode cX11_cell 10 = .ok (.aload_n 0, 1) := by decide +kernel
theorem dX11_cell_11 : decode cX11_cell 11 = .ok (.iload_n 1, 1) := by decide +kernel
theorem dX11_cell_12 : decode cX11_cell 12 = .ok (.iaload, 1) := by decide +kernel
theorem dX11_cell_13 : decode cX11_cell 13 = .ok (.goto 4, 3) := by decide +kernel
theorem dX11_cell_16 : decode cX11_cell 16 = .ok (.iconst 0, 1) := by decide +kernel
theorem dX11_cell_17 : decode cX11_cell 17 = .ok (.ireturn, 1) := by decide +kernel
abbrev mi_X11_cell : MI := (zTX, RX11, yX11_cell, cX11_cell, 2, (some .int), 2)
theorem cal_X11_cell : zCalS mi_X11_cell 2 := ⟨⟨zTB_i3 170 (by decide +kernel), zTB_i3 169 (by decide +kernel), zTB_i1 1 (by decide +kernel)⟩, ⟨by decide, by decide, by decide +kernel⟩, by decide⟩
noncomputable def X11_cell (a0 : Nat) (x1 : Int32) (M : Mem) : Int32 :=
  if x1 < 0 then
    0
  else
  if (nI (zlen zTX a0)) ≤ x1 then
    0
  else
  M.1 a0 x1.toNatClampNeg
set_option maxRecDepth 100000 in
set_option maxHeartbeats 4000000 in
theorem X11_cell_ok (G : Gh) {a0 : Nat} (ha0 : zar zTX a0 = some (0, zlen zTX a0)) (x1 : Int32) (M : Mem) : Mt G mi_X11_cell [.ref (G.2.2.2 (a0)), .int x1] M ((dI M) (X11_cell a0 x1 M)) := by
  refine Mt_of (lv := [some (.ref (G.2.2.2 (a0))), some (.int x1)]) (by decide) rfl (Nat.le_of_ble_eq_true rfl) rfl ?_
  unfold X11_cell
  refine r_iload_n dX11_cell_0 rfl ?_
  refine r_if_lt (tgt := 16) dX11_cell_1 rfl (fun h1 => ?_) (fun h1 => ?_)
  · refine r_iconst (x := 0) dX11_cell_16 rfl ?_
    exact r_iret (ty := .int) dX11_cell_17 rfl rfl rfl
  refine r_iload_n dX11_cell_4 rfl ?_
  refine r_aload_n dX11_cell_5 rfl ?_
  refine r_alen (v := nI (zlen zTX a0)) dX11_cell_6 ha0 (by decide) rfl ?_
  refine r_icmp_ge (tgt := 16) dX11_cell_7 rfl (fun h2 => ?_) (fun h2 => ?_)
  · refine r_iconst (x := 0) dX11_cell_16 rfl ?_
    exact r_iret (ty := .int) dX11_cell_17 rfl rfl rfl
  refine r_aload_n dX11_cell_10 rfl ?_
  refine r_iload_n dX11_cell_11 rfl ?_
  refine r_iald dX11_cell_12 ha0 (vin h1 h2 (zlen_ltX _)) rfl ?_
  refine r_goto (tgt := 17) dX11_cell_13 rfl ?_
  exact r_iret (ty := .int) dX11_cell_17 rfl rfl rfl
def X11_cellR (x1 : Int32) : Int32 := if x1 < 0 then 0 else if (15 : Int32) ≤ x1 then 0 else zRounds.getD x1.toNatClampNeg 0
theorem X11_cellR_ok (G : Gh) (x1 : Int32) (M : Mem) : Mt G mi_X11_cell [.ref (G.2.2.2 (3000)), .int x1] M ((dI M) (X11_cellR x1)) := by
  refine Mt_of (lv := [some (.ref (G.2.2.2 (3000))), some (.int x1)]) (by decide) rfl (Nat.le_of_ble_eq_true rfl) rfl ?_
  unfold X11_cellR
  refine r_iload_n dX11_cell_0 rfl ?_
  refine r_if_lt (tgt := 16) dX11_cell_1 rfl (fun h1 => ?_) (fun h1 => ?_)
  · refine r_iconst (x := 0) dX11_cell_16 rfl ?_
    exact r_iret (ty := .int) dX11_cell_17 rfl rfl rfl
  refine r_iload_n dX11_cell_4 rfl ?_
  refine r_aload_n dX11_cell_5 rfl ?_
  refine r_tlen dX11_cell_6 ?_
  refine r_icmp_ge (tgt := 16) dX11_cell_7 rfl (fun h2 => ?_) (fun h2 => ?_)
  · refine r_iconst (x := 0) dX11_cell_16 rfl ?_
    exact r_iret (ty := .int) dX11_cell_17 rfl rfl rfl
  refine r_aload_n dX11_cell_10 rfl ?_
  refine r_iload_n dX11_cell_11 rfl ?_
  refine r_ti dX11_cell_12 (vin h1 (show ¬ nI 15 ≤ x1 from h2) (by decide)) ?_
  refine r_goto (tgt := 17) dX11_cell_13 rfl ?_
  exact r_iret (ty := .int) dX11_cell_17 rfl rfl rfl

theorem dX3_rateGiven_0 : decode cX3_rateGiven 0 = .ok (.aload_n 0, 1) := by decide +kernel
theorem dX3_rateGiven_1 : decode cX3_rateGiven 1 = .ok (.getfield 27, 3) := by decide +kernel
theorem dX3_rateGiven_4 : decode cX3_rateGiven 4 = .ok (.iload_n 1, 1) := by decide +kernel
theorem dX3_rateGiven_5 : decode cX3_rateGiven 5 = .ok (.iconst 3, 1) := by decide +kernel
theorem dX3_rateGiven_6 : decode cX3_rateGiven 6 = .ok (.imul, 1) := by decide +kernel
theorem dX3_rateGiven_7 : decode cX3_rateGiven 7 = .ok (.iload_n 2, 1) := by decide +kernel
theorem dX3_rateGiven_8 : decode cX3_rateGiven 8 = .ok (.iadd, 1) := by decide +kernel
theorem dX3_rateGiven_9 : decode cX3_rateGiven 9 = .ok (.invokestatic 94, 3) := by decide +kernel
theorem dX3_rateGiven_12 : decode cX3_rateGiven 12 = .ok (.ireturn, 1) := by decide +kernel
abbrev mi_X3_rateGiven : MI := (zTX, RX3, yX3_rateGiven, cX3_rateGiven, 3, (some .int), 3)
theorem cal_X3_rateGiven : zCalV mi_X3_rateGiven 2 := ⟨⟨zTB_i3 167 (by decide +kernel), zTB_i3 165 (by decide +kernel), zTB_i3 166 (by decide +kernel), zTB_i1 4 (by decide +kernel)⟩, ⟨by decide, by decide, by decide +kernel⟩, by decide⟩
noncomputable def X3_rateGiven (o0 : Nat) (x1 : Int32) (x2 : Int32) (M : Mem) : Int32 :=
  (X11_cell (o0 + 6) ((x1 * 3) + x2) M)
set_option maxRecDepth 100000 in
set_option maxHeartbeats 4000000 in
theorem X3_rateGiven_ok_4 (G : Gh) (x1 : Int32) (x2 : Int32) (M : Mem) : Mt G mi_X3_rateGiven [.ref (G.2.2.2 (4)), .int x1, .int x2] M ((dI M) (X3_rateGiven 4 x1 x2 M)) := by
  refine Mt_of (lv := [some (.ref (G.2.2.2 (4))), some (.int x1), some (.int x2)]) (by decide) rfl (Nat.le_of_ble_eq_true rfl) rfl ?_
  unfold X3_rateGiven
  refine r_aload_n dX3_rateGiven_0 rfl ?_
  refine r_getf (v := .ref (G.2.2.2 (4 + 6))) dX3_rateGiven_1 fX_4_11 kX3 (by decide) lkf_X3_27 rfl ?_
  refine r_iload_n dX3_rateGiven_4 rfl ?_
  refine r_iconst (x := 3) dX3_rateGiven_5 rfl ?_
  refine r_imul dX3_rateGiven_6 ?_
  refine r_iload_n dX3_rateGiven_7 rfl ?_
  refine r_iadd dX3_rateGiven_8 ?_
  refine c_I (inv_SN (mi := mi_X3_rateGiven) (rest := []) (X11_cell_ok G aX_10p ((x1 * 3) + x2) M) rfl (by decide) dX3_rateGiven_9 lkm_X3_94 cal_X11_cell rfl (Nat.le_of_ble_eq_true rfl) rfl) ?_
  exact r_iret (ty := .int) dX3_rateGiven_12 rfl rfl rfl
set_option maxRecDepth 100000 in
set_option maxHeartbeats 4000000 in
theorem X3_rateGiven_ok_23 (G : Gh) (x1 : Int32) (x2 : Int32) (M : Mem) : Mt G mi_X3_rateGiven [.ref (G.2.2.2 (23)), .int x1, .int x2] M ((dI M) (X3_rateGiven 23 x1 x2 M)) := by
  refine Mt_of (lv := [some (.ref (G.2.2.2 (23))), some (.int x1), some (.int x2)]) (by decide) rfl (Nat.le_of_ble_eq_true rfl) rfl ?_
  unfold X3_rateGiven
  refine r_aload_n dX3_rateGiven_0 rfl ?_
  refine r_getf (v := .ref (G.2.2.2 (23 + 6))) dX3_rateGiven_1 fX_23_11 kX3 (by decide) lkf_X3_27 rfl ?_
  refine r_iload_n dX3_rateGiven_4 rfl ?_
  refine r_iconst (x := 3) dX3_rateGiven_5 rfl ?_
  refine r_imul dX3_rateGiven_6 ?_
  refine r_iload_n dX3_rateGiven_7 rfl ?_
  refine r_iadd dX3_rateGiven_8 ?_
  refine c_I (inv_SN (mi := mi_X3_rateGiven) (rest := []) (X11_cell_ok G aX_29p ((x1 * 3) + x2) M) rfl (by decide) dX3_rateGiven_9 lkm_X3_94 cal_X11_cell rfl (Nat.le_of_ble_eq_true rfl) rfl) ?_
  exact r_iret (ty := .int) dX3_rateGiven_12 rfl rfl rfl

theorem dX4_readRate_0 : decode cX4_readRate 0 = .ok (.aload_n 0, 1) := by decide +kernel
theorem dX4_readRate_1 : decode cX4_readRate 1 = .ok (.getfield 40, 3) := by decide +kernel
theorem dX4_readRate_4 : decode cX4_readRate 4 = .ok (.invokevirtual 153, 3) := by decide +kernel
theorem dX4_readRate_7 : decode cX4_readRate 7 = .ok (.aload_n 0, 1) := by decide +kernel
theorem dX4_readRate_8 : decode cX4_readRate 8 = .ok (.aload_n 0, 1) := by decide +kernel
theorem dX4_readRate_9 : decode cX4_readRate 9 = .ok (.getfield 9, 3) := by decide +kernel
theorem dX4_readRate_12 : decode cX4_readRate 12 = .ok (.aload_n 0, 1) := by decide +kernel
theorem dX4_readRate_13 : decode cX4_readRate 13 = .ok (.getfield 31, 3) := by decide +kernel
theorem dX4_readRate_16 : decode cX4_readRate 16 = .ok (.getfield 156, 3) := by decide +kernel
theorem dX4_readRate_19 : decode cX4_readRate 19 = .ok (.invokevirtual 196, 3) := by decide +kernel
theorem dX4_readRate_22 : decode cX4_readRate 22 = .ok (.istore_n 1, 1) := by decide +kernel
theorem dX4_readRate_23 : decode cX4_readRate 23 = .ok (.iload_n 1, 1) := by decide +kernel
theorem dX4_readRate_24 : decode cX4_readRate 24 = .ok (.iconst (-1), 1) := by decide +kernel
theorem dX4_readRate_25 : decode cX4_readRate 25 = .ok (.if_icmp .ne 5, 3) := by decide +kernel
theorem dX4_readRate_28 : decode cX4_readRate 28 = .ok (.iconst 0, 1) := by decide +kernel
theorem dX4_readRate_29 : decode cX4_readRate 29 = .ok (.ireturn, 1) := by decide +kernel
theorem dX4_readRate_30 : decode cX4_readRate 30 = .ok (.aload_n 0, 1) := by decide +kernel
theorem dX4_readRate_31 : decode cX4_readRate 31 = .ok (.getfield 40, 3) := by decide +kernel
theorem dX4_readRate_34 : decode cX4_readRate 34 = .ok (.invokevirtual 153, 3) := by decide +kernel
theorem dX4_readRate_37 : decode cX4_readRate 37 = .ok (.aload_n 0, 1) := by decide +kernel
theorem dX4_readRate_38 : decode cX4_readRate 38 = .ok (.getfield 40, 3) := by decide +kernel
theorem dX4_readRate_41 : decode cX4_readRate 41 = .ok (.iconst 1, 1) := by decide +kernel
theorem dX4_readRate_42 : decode cX4_readRate 42 = .ok (.bipush 9, 2) := by decide +kernel
theorem dX4_readRate_44 : decode cX4_readRate 44 = .ok (.invokevirtual 178, 3) := by decide +kernel
theorem dX4_readRate_47 : decode cX4_readRate 47 = .ok (.ifCond .ne 5, 3) := by decide +kernel
theorem dX4_readRate_50 : decode cX4_readRate 50 = .ok (.iconst 0, 1) := by decide +kernel
theorem dX4_readRate_51 : decode cX4_readRate 51 = .ok (.ireturn, 1) := by decide +kernel
theorem dX4_readRate_52 : decode cX4_readRate 52 = .ok (.aload_n 0, 1) := by decide +kernel
theorem dX4_readRate_53 : decode cX4_readRate 53 = .ok (.getfield 40, 3) := by decide +kernel
theorem dX4_readRate_56 : decode cX4_readRate 56 = .ok (.getfield 185, 3) := by decide +kernel
theorem dX4_readRate_59 : decode cX4_readRate 59 = .ok (.istore_n 2, 1) := by decide +kernel
theorem dX4_readRate_60 : decode cX4_readRate 60 = .ok (.aload_n 0, 1) := by decide +kernel
theorem dX4_readRate_61 : decode cX4_readRate 61 = .ok (.getfield 40, 3) := by decide +kernel
theorem dX4_readRate_64 : decode cX4_readRate 64 = .ok (.ldc 207, 2) := by decide +kernel
theorem dX4_readRate_66 : decode cX4_readRate 66 = .ok (.invokevirtual 175, 3) := by decide +kernel
theorem dX4_readRate_69 : decode cX4_readRate 69 = .ok (.ifCond .ne 5, 3) := by decide +kernel
theorem dX4_readRate_72 : decode cX4_readRate 72 = .ok (.iconst 0, 1) := by decide +kernel
theorem dX4_readRate_73 : decode cX4_readRate 73 = .ok (.ireturn, 1) := by decide +kernel
theorem dX4_readRate_74 : decode cX4_readRate 74 = .ok (.aload_n 0, 1) := by decide +kernel
theorem dX4_readRate_75 : decode cX4_readRate 75 = .ok (.aload_n 0, 1) := by decide +kernel
theorem dX4_readRate_76 : decode cX4_readRate 76 = .ok (.getfield 9, 3) := by decide +kernel
theorem dX4_readRate_79 : decode cX4_readRate 79 = .ok (.aload_n 0, 1) := by decide +kernel
theorem dX4_readRate_80 : decode cX4_readRate 80 = .ok (.getfield 31, 3) := by decide +kernel
theorem dX4_readRate_83 : decode cX4_readRate 83 = .ok (.getfield 156, 3) := by decide +kernel
theorem dX4_readRate_86 : decode cX4_readRate 86 = .ok (.invokevirtual 196, 3) := by decide +kernel
theorem dX4_readRate_89 : decode cX4_readRate 89 = .ok (.istore_n 3, 1) := by decide +kernel
theorem dX4_readRate_90 : decode cX4_readRate 90 = .ok (.iload_n 3, 1) := by decide +kernel
theorem dX4_readRate_91 : decode cX4_readRate 91 = .ok (.iconst (-1), 1) := by decide +kernel
theorem dX4_readRate_92 : decode cX4_readRate 92 = .ok (.if_icmp .ne 5, 3) := by decide +kernel
theorem dX4_readRate_95 : decode cX4_readRate 95 = .ok (.iconst 0, 1) := by decide +kernel
theorem dX4_readRate_96 : decode cX4_readRate 96 = .ok (.ireturn, 1) := by decide +kernel
theorem dX4_readRate_97 : decode cX4_readRate 97 = .ok (.iload_n 3, 1) := by decide +kernel
theorem dX4_readRate_98 : decode cX4_readRate 98 = .ok (.iload_n 1, 1) := by decide +kernel
theorem dX4_readRate_99 : decode cX4_readRate 99 = .ok (.if_icmp .eq 15, 3) := by decide +kernel
theorem dX4_readRate_102 : decode cX4_readRate 102 = .ok (.aload_n 0, 1) := by decide +kernel
theorem dX4_readRate_103 : decode cX4_readRate 103 = .ok (.getfield 31, 3) := by decide +kernel
theorem dX4_readRate_106 : decode cX4_readRate 106 = .ok (.iload_n 1, 1) := by decide +kernel
theorem dX4_readRate_107 : decode cX4_readRate 107 = .ok (.iload_n 3, 1) := by decide +kernel
theorem dX4_readRate_108 : decode cX4_readRate 108 = .ok (.invokevirtual 209, 3) := by decide +kernel
theorem dX4_readRate_111 : decode cX4_readRate 111 = .ok (.ifCond .eq 12, 3) := by decide +kernel
theorem dX4_readRate_114 : decode cX4_readRate 114 = .ok (.aload_n 0, 1) := by decide +kernel
theorem dX4_readRate_115 : decode cX4_readRate 115 = .ok (.getfield 40, 3) := by decide +kernel
theorem dX4_readRate_118 : decode cX4_readRate 118 = .ok (.iconst 3, 1) := by decide +kernel
theorem dX4_readRate_119 : decode cX4_readRate 119 = .ok (.invokevirtual 149, 3) := by decide +kernel
theorem dX4_readRate_122 : decode cX4_readRate 122 = .ok (.ireturn, 1) := by decide +kernel
theorem dX4_readRate_123 : decode cX4_readRate 123 = .ok (.aload_n 0, 1) := by decide +kernel
theorem dX4_readRate_124 : decode cX4_readRate 124 = .ok (.getfield 40, 3) := by decide +kernel
theorem dX4_readRate_127 : decode cX4_readRate 127 = .ok (.invokevirtual 153, 3) := by decide +kernel
theorem dX4_readRate_130 : decode cX4_readRate 130 = .ok (.aload_n 0, 1) := by decide +kernel
theorem dX4_readRate_131 : decode cX4_readRate 131 = .ok (.getfield 40, 3) := by decide +kernel
theorem dX4_readRate_134 : decode cX4_readRate 134 = .ok (.iconst 1, 1) := by decide +kernel
theorem dX4_readRate_135 : decode cX4_readRate 135 = .ok (.bipush 9, 2) := by decide +kernel
theorem dX4_readRate_137 : decode cX4_readRate 137 = .ok (.invokevirtual 178, 3) := by decide +kernel
theorem dX4_readRate_140 : decode cX4_readRate 140 = .ok (.ifCond .ne 5, 3) := by decide +kernel
theorem dX4_readRate_143 : decode cX4_readRate 143 = .ok (.iconst 0, 1) := by decide +kernel
theorem dX4_readRate_144 : decode cX4_readRate 144 = .ok (.ireturn, 1) := by decide +kernel
theorem dX4_readRate_145 : decode cX4_readRate 145 = .ok (.aload_n 0, 1) := by decide +kernel
theorem dX4_readRate_146 : decode cX4_readRate 146 = .ok (.getfield 31, 3) := by decide +kernel
theorem dX4_readRate_149 : decode cX4_readRate 149 = .ok (.getfield 213, 3) := by decide +kernel
theorem dX4_readRate_152 : decode cX4_readRate 152 = .ok (.iload_n 1, 1) := by decide +kernel
theorem dX4_readRate_153 : decode cX4_readRate 153 = .ok (.iconst 3, 1) := by decide +kernel
theorem dX4_readRate_154 : decode cX4_readRate 154 = .ok (.imul, 1) := by decide +kernel
theorem dX4_readRate_155 : decode cX4_readRate 155 = .ok (.iload_n 3, 1) := by decide +kernel
theorem dX4_readRate_156 : decode cX4_readRate 156 = .ok (.iadd, 1) := by decide +kernel
theorem dX4_readRate_157 : decode cX4_readRate 157 = .ok (.iload_n 2, 1) := by decide +kernel
theorem dX4_readRate_158 : decode cX4_readRate 158 = .ok (.invokestatic 188, 3) := by decide +kernel
theorem dX4_readRate_161 : decode cX4_readRate 161 = .ok (.aload_n 0, 1) := by decide +kernel
theorem dX4_readRate_162 : decode cX4_readRate 162 = .ok (.getfield 31, 3) := by decide +kernel
theorem dX4_readRate_165 : decode cX4_readRate 165 = .ok (.getfield 216, 3) := by decide +kernel
theorem dX4_readRate_168 : decode cX4_readRate 168 = .ok (.iload_n 1, 1) := by decide +kernel
theorem dX4_readRate_169 : decode cX4_readRate 169 = .ok (.iconst 3, 1) := by decide +kernel
theorem dX4_readRate_170 : decode cX4_readRate 170 = .ok (.imul, 1) := by decide +kernel
theorem dX4_readRate_171 : decode cX4_readRate 171 = .ok (.iload_n 3, 1) := by decide +kernel
theorem dX4_readRate_172 : decode cX4_readRate 172 = .ok (.iadd, 1) := by decide +kernel
theorem dX4_readRate_173 : decode cX4_readRate 173 = .ok (.aload_n 0, 1) := by decide +kernel
theorem dX4_readRate_174 : decode cX4_readRate 174 = .ok (.getfield 40, 3) := by decide +kernel
theorem dX4_readRate_177 : decode cX4_readRate 177 = .ok (.getfield 185, 3) := by decide +kernel
theorem dX4_readRate_180 : decode cX4_readRate 180 = .ok (.invokestatic 188, 3) := by decide +kernel
theorem dX4_readRate_183 : decode cX4_readRate 183 = .ok (.aload_n 0, 1) := by decide +kernel
theorem dX4_readRate_184 : decode cX4_readRate 184 = .ok (.getfield 31, 3) := by decide +kernel
theorem dX4_readRate_187 : decode cX4_readRate 187 = .ok (.dup, 1) := by decide +kernel
theorem dX4_readRate_188 : decode cX4_readRate 188 = .ok (.getfield 219, 3) := by decide +kernel
theorem dX4_readRate_191 : decode cX4_readRate 191 = .ok (.iconst 1, 1) := by decide +kernel
theorem dX4_readRate_192 : decode cX4_readRate 192 = .ok (.iadd, 1) := by decide +kernel
theorem dX4_readRate_193 : decode cX4_readRate 193 = .ok (.putfield 219, 3) := by decide +kernel
theorem dX4_readRate_196 : decode cX4_readRate 196 = .ok (.aload_n 0, 1) := by decide +kernel
theorem dX4_readRate_197 : decode cX4_readRate 197 = .ok (.getfield 40, 3) := by decide +kernel
theorem dX4_readRate_200 : decode cX4_readRate 200 = .ok (.bipush 59, 2) := by decide +kernel
theorem dX4_readRate_202 : decode cX4_readRate 202 = .ok (.invokevirtual 167, 3) := by decide +kernel
theorem dX4_readRate_205 : decode cX4_readRate 205 = .ok (.ireturn, 1) := by decide +kernel
abbrev mi_X4_readRate : MI := (zTX, RX4, yX4_readRate, cX4_readRate, 4, (some .boolean), 11)
theorem cal_X4_readRate : zCalV mi_X4_readRate 0 := ⟨⟨zTB_i3 162 (by decide +kernel), zTB_i3 161 (by decide +kernel), zTB_i0 13 (by decide +kernel), zTB_i1 3 (by decide +kernel)⟩, ⟨by decide, by decide, by decide +kernel⟩, by decide⟩
noncomputable def X4_readRate (M : Mem) : Option (Bool × Mem) :=
  bo_ (X6_step M) fun M1 =>
  bp_ (X4_placeOfName 18 (M1.1 4 1) M1) fun v2 M3 =>
  if v2 = (-1) then
    some (false, M3)
  else
  bo_ (X6_step M3) fun M5 =>
  bp_ (X6_takesNumber 1 9 M5) fun b6 M7 =>
  if b6 = true then
    lt_ (α := Int32) (M7.1 16 4) fun y9 =>
    bp_ (X6_takesWord 29 M7) fun b10 M11 =>
    if b10 = true then
      bp_ (X4_placeOfName 18 (M11.1 4 1) M11) fun v13 M14 =>
      if v13 = (-1) then
        some (false, M14)
      else
      l1_ (α := Bool) (
        if v13 = v2 then
          true
        else
        if (X3_rateGiven 4 v2 v13 M14) = 0 then
          false
        else
        true) fun t18 =>
      if t18 = true then
        lp_ (X6_refuse 3 M14) fun b20 M21 =>
        some (b20, M21)
      else
      bo_ (X6_step M14) fun M22 =>
      bp_ (X6_takesNumber 1 9 M22) fun b23 M24 =>
      if b23 = true then
        lt_ (X11_put 10 ((v2 * 3) + v13) y9 M24) fun M26 =>
        lt_ (X11_put 11 ((v2 * 3) + v13) (M26.1 16 4) M26) fun M27 =>
        lt_ (uI M27 4 3 ((M27.1 4 3) + 1)) fun M28 =>
        bp_ (X6_takesSign 59 M28) fun b29 M30 =>
        some (b29, M30)
      else
      some (false, M24)
    else
    some (false, M11)
  else
  some (false, M7)
set_option maxRecDepth 100000 in
set_option maxHeartbeats 4000000 in
theorem X4_readRate_ok (G : Gh) (M : Mem) : Mt G mi_X4_readRate [.ref (G.2.2.2 (3))] M ((dO dZM) (X4_readRate M)) := by
  refine Mt_of (lv := [some (.ref (G.2.2.2 (3)))]) (by decide) rfl (Nat.le_of_ble_eq_true rfl) rfl ?_
  refine r_le (lv' := [some (.ref (G.2.2.2 (3))), none, none, none]) (And.intro rfl True.intro) ?_
  unfold X4_readRate
  refine r_aload_n dX4_readRate_0 rfl ?_
  refine r_getf (v := .ref (G.2.2.2 (16))) dX4_readRate_1 fX_3_1 kX4 (by decide) lkf_X4_40 rfl ?_
  refine c_OV rfl (inv_V (mi := mi_X4_readRate) (b := 16) (rest := []) (X6_step_ok G M) rfl (by decide) dX4_readRate_4 lkm_X4_153 cal_X6_step cX_16 rfl rfl (Nat.le_of_ble_eq_true rfl) rfl) (fun M1 => ?_)
  refine r_aload_n dX4_readRate_7 rfl ?_
  refine r_aload_n dX4_readRate_8 rfl ?_
  refine r_getf (v := .ref (G.2.2.2 (18))) dX4_readRate_9 fX_3_3 kX4 (by decide) lkf_X4_9 rfl ?_
  refine r_aload_n dX4_readRate_12 rfl ?_
  refine r_getf (v := .ref (G.2.2.2 (4))) dX4_readRate_13 fX_3_0 kX4 (by decide) lkf_X4_31 rfl ?_
  refine r_getf (v := .int (M1.1 4 1)) dX4_readRate_16 fX_4_1 kX3 (by decide) lkf_X4_156 rfl ?_
  refine c_OIM rfl (inv_V (mi := mi_X4_readRate) (b := 3) (rest := []) (X4_placeOfName_ok G aX_18p (M1.1 4 1) M1) rfl (by decide) dX4_readRate_19 lkm_X4_196 cal_X4_placeOfName cX_3 rfl rfl (Nat.le_of_ble_eq_true rfl) rfl) (fun v2 M3 => ?_)
  refine r_istore_n (lv' := [some (.ref (G.2.2.2 (3))), some (.int v2), none, none]) dX4_readRate_22 (Nat.le_of_ble_eq_true rfl) rfl rfl ?_
  refine r_iload_n dX4_readRate_23 rfl ?_
  refine r_iconst (x := (-1)) dX4_readRate_24 rfl ?_
  refine r_icmp_ne (tgt := 30) dX4_readRate_25 rfl (fun h4 => ?_) (fun h4 => ?_)
  · refine r_iconst (x := 0) dX4_readRate_28 rfl ?_
    exact r_iret (ty := .boolean) dX4_readRate_29 rfl rfl rfl
  refine r_aload_n dX4_readRate_30 rfl ?_
  refine r_getf (v := .ref (G.2.2.2 (16))) dX4_readRate_31 fX_3_1 kX4 (by decide) lkf_X4_40 rfl ?_
  refine c_OV rfl (inv_V (mi := mi_X4_readRate) (b := 16) (rest := []) (X6_step_ok G M3) rfl (by decide) dX4_readRate_34 lkm_X4_153 cal_X6_step cX_16 rfl rfl (Nat.le_of_ble_eq_true rfl) rfl) (fun M5 => ?_)
  refine r_aload_n dX4_readRate_37 rfl ?_
  refine r_getf (v := .ref (G.2.2.2 (16))) dX4_readRate_38 fX_3_1 kX4 (by decide) lkf_X4_40 rfl ?_
  refine r_iconst (x := 1) dX4_readRate_41 rfl ?_
  refine r_bipush (x := 9) dX4_readRate_42 rfl ?_
  refine c_OZM rfl (inv_V (mi := mi_X4_readRate) (b := 16) (rest := []) (X6_takesNumber_ok G 1 9 M5) rfl (by decide) dX4_readRate_44 lkm_X4_178 cal_X6_takesNumber cX_16 rfl rfl (Nat.le_of_ble_eq_true rfl) rfl) (fun b6 M7 => ?_)
  refine r_ifz_ne (tgt := 52) dX4_readRate_47 rfl (fun h8 => ?_) (fun h8 => ?_)
  · refine r_aload_n dX4_readRate_52 rfl ?_
    refine r_getf (v := .ref (G.2.2.2 (16))) dX4_readRate_53 fX_3_1 kX4 (by decide) lkf_X4_40 rfl ?_
    refine r_getf (v := .int (M7.1 16 4)) dX4_readRate_56 fX_16_4 kX6 (by decide) lkf_X4_185 rfl ?_
    refine r_letI (fun y9 => ?_)
    refine r_istore_n (lv' := [some (.ref (G.2.2.2 (3))), some (.int v2), some (.int y9), none]) dX4_readRate_59 (Nat.le_of_ble_eq_true rfl) rfl rfl ?_
    refine r_aload_n dX4_readRate_60 rfl ?_
    refine r_getf (v := .ref (G.2.2.2 (16))) dX4_readRate_61 fX_3_1 kX4 (by decide) lkf_X4_40 rfl ?_
    refine r_ldcS (i := 29) dX4_readRate_64 rfl ?_
    refine c_OZM rfl (inv_V (mi := mi_X4_readRate) (b := 16) (rest := []) (X6_takesWord_ok G (w1 := 29) (by decide) M7) rfl (by decide) dX4_readRate_66 lkm_X4_175 cal_X6_takesWord cX_16 rfl rfl (Nat.le_of_ble_eq_true rfl) rfl) (fun b10 M11 => ?_)
    refine r_ifz_ne (tgt := 74) dX4_readRate_69 rfl (fun h12 => ?_) (fun h12 => ?_)
    · refine r_aload_n dX4_readRate_74 rfl ?_
      refine r_aload_n dX4_readRate_75 rfl ?_
      refine r_getf (v := .ref (G.2.2.2 (18))) dX4_readRate_76 fX_3_3 kX4 (by decide) lkf_X4_9 rfl ?_
      refine r_aload_n dX4_readRate_79 rfl ?_
      refine r_getf (v := .ref (G.2.2.2 (4))) dX4_readRate_80 fX_3_0 kX4 (by decide) lkf_X4_31 rfl ?_
      refine r_getf (v := .int (M11.1 4 1)) dX4_readRate_83 fX_4_1 kX3 (by decide) lkf_X4_156 rfl ?_
      refine c_OIM rfl (inv_V (mi := mi_X4_readRate) (b := 3) (rest := []) (X4_placeOfName_ok G aX_18p (M11.1 4 1) M11) rfl (by decide) dX4_readRate_86 lkm_X4_196 cal_X4_placeOfName cX_3 rfl rfl (Nat.le_of_ble_eq_true rfl) rfl) (fun v13 M14 => ?_)
      refine r_istore_n (lv' := [some (.ref (G.2.2.2 (3))), some (.int v2), some (.int y9), some (.int v13)]) dX4_readRate_89 (Nat.le_of_ble_eq_true rfl) rfl rfl ?_
      refine r_iload_n dX4_readRate_90 rfl ?_
      refine r_iconst (x := (-1)) dX4_readRate_91 rfl ?_
      refine r_icmp_ne (tgt := 97) dX4_readRate_92 rfl (fun h15 => ?_) (fun h15 => ?_)
      · refine r_iconst (x := 0) dX4_readRate_95 rfl ?_
        exact r_iret (ty := .boolean) dX4_readRate_96 rfl rfl rfl
      refine r_iload_n dX4_readRate_97 rfl ?_
      refine r_iload_n dX4_readRate_98 rfl ?_
      refine r_cL (jX := 114) (jY := 123) (lvX := [some (.ref (G.2.2.2 (3))), none, none, none]) (lvY := [some (.ref (G.2.2.2 (3))), some (.int v2), some (.int y9), some (.int v13)]) (stX := []) (M1 := M14) (fun h19 => ?_) (fun h19 => ?_) (fun hX114 hY123 => ?_)
      · refine r_eq (if_pos rfl) ?_
        refine r_aload_n dX4_readRate_114 rfl ?_
        refine r_getf (v := .ref (G.2.2.2 (16))) dX4_readRate_115 fX_3_1 kX4 (by decide) lkf_X4_40 rfl ?_
        refine r_iconst (x := 3) dX4_readRate_118 rfl ?_
        refine c_ZM (inv_V (mi := mi_X4_readRate) (b := 16) (rest := []) (X6_refuse_ok G 3 M14) rfl (by decide) dX4_readRate_119 lkm_X4_149 cal_X6_refuse cX_16 rfl rfl (Nat.le_of_ble_eq_true rfl) rfl) (fun b20 M21 => ?_)
        exact r_iret (ty := .boolean) dX4_readRate_122 rfl (b2i_n _) rfl
      · refine r_eq (if_neg (by decide)) ?_
        refine r_aload_n dX4_readRate_123 rfl ?_
        refine r_getf (v := .ref (G.2.2.2 (16))) dX4_readRate_124 fX_3_1 kX4 (by decide) lkf_X4_40 rfl ?_
        refine c_OV rfl (inv_V (mi := mi_X4_readRate) (b := 16) (rest := []) (X6_step_ok G M14) rfl (by decide) dX4_readRate_127 lkm_X4_153 cal_X6_step cX_16 rfl rfl (Nat.le_of_ble_eq_true rfl) rfl) (fun M22 => ?_)
        refine r_aload_n dX4_readRate_130 rfl ?_
        refine r_getf (v := .ref (G.2.2.2 (16))) dX4_readRate_131 fX_3_1 kX4 (by decide) lkf_X4_40 rfl ?_
        refine r_iconst (x := 1) dX4_readRate_134 rfl ?_
        refine r_bipush (x := 9) dX4_readRate_135 rfl ?_
        refine c_OZM rfl (inv_V (mi := mi_X4_readRate) (b := 16) (rest := []) (X6_takesNumber_ok G 1 9 M22) rfl (by decide) dX4_readRate_137 lkm_X4_178 cal_X6_takesNumber cX_16 rfl rfl (Nat.le_of_ble_eq_true rfl) rfl) (fun b23 M24 => ?_)
        refine r_ifz_ne (tgt := 145) dX4_readRate_140 rfl (fun h25 => ?_) (fun h25 => ?_)
        · refine r_aload_n dX4_readRate_145 rfl ?_
          refine r_getf (v := .ref (G.2.2.2 (4))) dX4_readRate_146 fX_3_0 kX4 (by decide) lkf_X4_31 rfl ?_
          refine r_getf (v := .ref (G.2.2.2 (10))) dX4_readRate_149 fX_4_11 kX3 (by decide) lkf_X4_213 rfl ?_
          refine r_iload_n dX4_readRate_152 rfl ?_
          refine r_iconst (x := 3) dX4_readRate_153 rfl ?_
          refine r_imul dX4_readRate_154 ?_
          refine r_iload_n dX4_readRate_155 rfl ?_
          refine r_iadd dX4_readRate_156 ?_
          refine r_iload_n dX4_readRate_157 rfl ?_
          refine c_V (inv_SN (mi := mi_X4_readRate) (rest := []) (X11_put_ok G aX_10p ((v2 * 3) + v13) y9 M24) rfl (by decide) dX4_readRate_158 lkm_X4_188 cal_X11_put rfl (Nat.le_of_ble_eq_true rfl) rfl) (fun M26 => ?_)
          refine r_aload_n dX4_readRate_161 rfl ?_
          refine r_getf (v := .ref (G.2.2.2 (4))) dX4_readRate_162 fX_3_0 kX4 (by decide) lkf_X4_31 rfl ?_
          refine r_getf (v := .ref (G.2.2.2 (11))) dX4_readRate_165 fX_4_12 kX3 (by decide) lkf_X4_216 rfl ?_
          refine r_iload_n dX4_readRate_168 rfl ?_
          refine r_iconst (x := 3) dX4_readRate_169 rfl ?_
          refine r_imul dX4_readRate_170 ?_
          refine r_iload_n dX4_readRate_171 rfl ?_
          refine r_iadd dX4_readRate_172 ?_
          refine r_aload_n dX4_readRate_173 rfl ?_
          refine r_getf (v := .ref (G.2.2.2 (16))) dX4_readRate_174 fX_3_1 kX4 (by decide) lkf_X4_40 rfl ?_
          refine r_getf (v := .int (M26.1 16 4)) dX4_readRate_177 fX_16_4 kX6 (by decide) lkf_X4_185 rfl ?_
          refine c_V (inv_SN (mi := mi_X4_readRate) (rest := []) (X11_put_ok G aX_11p ((v2 * 3) + v13) (M26.1 16 4) M26) rfl (by decide) dX4_readRate_180 lkm_X4_188 cal_X11_put rfl (Nat.le_of_ble_eq_true rfl) rfl) (fun M27 => ?_)
          refine r_aload_n dX4_readRate_183 rfl ?_
          refine r_getf (v := .ref (G.2.2.2 (4))) dX4_readRate_184 fX_3_0 kX4 (by decide) lkf_X4_31 rfl ?_
          refine r_dup dX4_readRate_187 rfl ?_
          refine r_getf (v := .int (M27.1 4 3)) dX4_readRate_188 fX_4_3 kX3 (by decide) lkf_X4_219 rfl ?_
          refine r_iconst (x := 1) dX4_readRate_191 rfl ?_
          refine r_iadd dX4_readRate_192 ?_
          refine r_putI dX4_readRate_193 fX_4_3 kX3 (by decide) rfl rfl lkf_X4_219 (fun _ => rfl) rfl rfl (fun M28 => ?_)
          refine r_aload_n dX4_readRate_196 rfl ?_
          refine r_getf (v := .ref (G.2.2.2 (16))) dX4_readRate_197 fX_3_1 kX4 (by decide) lkf_X4_40 rfl ?_
          refine r_bipush (x := 59) dX4_readRate_200 rfl ?_
          refine c_OZM rfl (inv_V (mi := mi_X4_readRate) (b := 16) (rest := []) (X6_takesSign_ok G 59 M28) rfl (by decide) dX4_readRate_202 lkm_X4_167 cal_X6_takesSign cX_16 rfl rfl (Nat.le_of_ble_eq_true rfl) rfl) (fun b29 M30 => ?_)
          exact r_iret (ty := .boolean) dX4_readRate_205 rfl (b2i_n _) rfl
        refine r_iconst (x := 0) dX4_readRate_143 rfl ?_
        exact r_iret (ty := .boolean) dX4_readRate_144 rfl rfl rfl
      refine r_icmp_eq (tgt := 114) dX4_readRate_99 rfl (fun h16 => ?_) (fun h16 => ?_)
      · exact r_lk hX114 (And.intro rfl True.intro)
      refine r_aload_n dX4_readRate_102 rfl ?_
      refine r_getf (v := .ref (G.2.2.2 (4))) dX4_readRate_103 fX_3_0 kX4 (by decide) lkf_X4_31 rfl ?_
      refine r_iload_n dX4_readRate_106 rfl ?_
      refine r_iload_n dX4_readRate_107 rfl ?_
      refine c_I (inv_V (mi := mi_X4_readRate) (b := 4) (rest := []) (X3_rateGiven_ok_4 G v2 v13 M14) rfl (by decide) dX4_readRate_108 lkm_X4_209 cal_X3_rateGiven cX_4 rfl rfl (Nat.le_of_ble_eq_true rfl) rfl) ?_
      refine r_if_eq (tgt := 123) dX4_readRate_111 rfl (fun h17 => ?_) (fun h17 => ?_)
      · exact r_lk hY123 (And.intro rfl (And.intro rfl (And.intro rfl (And.intro rfl True.intro))))
      exact r_lk hX114 (And.intro rfl True.intro)
    refine r_iconst (x := 0) dX4_readRate_72 rfl ?_
    exact r_iret (ty := .boolean) dX4_readRate_73 rfl rfl rfl
  refine r_iconst (x := 0) dX4_readRate_50 rfl ?_
  exact r_iret (ty := .boolean) dX4_readRate_51 rfl rfl rfl

theorem dX4_readBook_0 : decode cX4_readBook 0 = .ok (.aload_n 0, 1) := by decide +kernel
theorem dX4_readBook_1 : decode cX4_readBook 1 = .ok (.aload_n 0, 1) := by decide +kernel
theorem dX4_readBook_2 : decode cX4_readBook 2 = .ok (.getfield 31, 3) := by decide +kernel
theorem dX4_readBook_5 : decode cX4_readBook 5 = .ok (.getfield 222, 3) := by decide +kernel
theorem dX4_readBook_8 : decode cX4_readBook 8 = .ok (.iconst 5, 1) := by decide +kernel
theorem dX4_readBook_9 : decode cX4_readBook 9 = .ok (.if_icmp .ge 7, 3) := by decide +kernel
theorem dX4_readBook_12 : decode cX4_readBook 12 = .ok (.iconst 1, 1) := by decide +kernel
theorem dX4_readBook_13 : decode cX4_readBook 13 = .ok (.goto 4, 3) := by decide +kernel
theorem dX4_readBook_16 : decode cX4_readBook 16 = .ok (.iconst 0, 1) := by decide +kernel
theorem dX4_readBook_17 : decode cX4_readBook 17 = .ok (.invokevirtual 159, 3) := by decide +kernel
theorem dX4_readBook_20 : decode cX4_readBook 20 = .ok (.ifCond .eq 16, 3) := by decide +kernel
theorem dX4_readBook_23 : decode cX4_readBook 23 = .ok (.aload_n 0, 1) := by decide +kernel
theorem dX4_readBook_24 : decode cX4_readBook 24 = .ok (.getfield 40, 3) := by decide +kernel
theorem dX4_readBook_27 : decode cX4_readBook 27 = .ok (.iconst 0, 1) := by decide +kernel
theorem dX4_readBook_28 : decode cX4_readBook 28 = .ok (.bipush 99, 2) := by decide +kernel
theorem dX4_readBook_30 : decode cX4_readBook 30 = .ok (.invokevirtual 178, 3) := by decide +kernel
theorem dX4_readBook_33 : decode cX4_readBook 33 = .ok (.ifCond .ne 5, 3) := by decide +kernel
theorem dX4_readBook_36 : decode cX4_readBook 36 = .ok (.iconst 0, 1) := by decide +kernel
theorem dX4_readBook_37 : decode cX4_readBook 37 = .ok (.ireturn, 1) := by decide +kernel
theorem dX4_readBook_38 : decode cX4_readBook 38 = .ok (.aload_n 0, 1) := by decide +kernel
theorem dX4_readBook_39 : decode cX4_readBook 39 = .ok (.getfield 31, 3) := by decide +kernel
theorem dX4_readBook_42 : decode cX4_readBook 42 = .ok (.getfield 225, 3) := by decide +kernel
theorem dX4_readBook_45 : decode cX4_readBook 45 = .ok (.aload_n 0, 1) := by decide +kernel
theorem dX4_readBook_46 : decode cX4_readBook 46 = .ok (.getfield 31, 3) := by decide +kernel
theorem dX4_readBook_49 : decode cX4_readBook 49 = .ok (.getfield 222, 3) := by decide +kernel
theorem dX4_readBook_52 : decode cX4_readBook 52 = .ok (.aload_n 0, 1) := by decide +kernel
theorem dX4_readBook_53 : decode cX4_readBook 53 = .ok (.getfield 40, 3) := by decide +kernel
theorem dX4_readBook_56 : decode cX4_readBook 56 = .ok (.getfield 185, 3) := by decide +kernel
theorem dX4_readBook_59 : decode cX4_readBook 59 = .ok (.invokestatic 188, 3) := by decide +kernel
theorem dX4_readBook_62 : decode cX4_readBook 62 = .ok (.aload_n 0, 1) := by decide +kernel
theorem dX4_readBook_63 : decode cX4_readBook 63 = .ok (.getfield 31, 3) := by decide +kernel
theorem dX4_readBook_66 : decode cX4_readBook 66 = .ok (.dup, 1) := by decide +kernel
theorem dX4_readBook_67 : decode cX4_readBook 67 = .ok (.getfield 222, 3) := by decide +kernel
theorem dX4_readBook_70 : decode cX4_readBook 70 = .ok (.iconst 1, 1) := by decide +kernel
theorem dX4_readBook_71 : decode cX4_readBook 71 = .ok (.iadd, 1) := by decide +kernel
theorem dX4_readBook_72 : decode cX4_readBook 72 = .ok (.putfield 222, 3) := by decide +kernel
theorem dX4_readBook_75 : decode cX4_readBook 75 = .ok (.aload_n 0, 1) := by decide +kernel
theorem dX4_readBook_76 : decode cX4_readBook 76 = .ok (.getfield 40, 3) := by decide +kernel
theorem dX4_readBook_79 : decode cX4_readBook 79 = .ok (.bipush 59, 2) := by decide +kernel
theorem dX4_readBook_81 : decode cX4_readBook 81 = .ok (.invokevirtual 167, 3) := by decide +kernel
theorem dX4_readBook_84 : decode cX4_readBook 84 = .ok (.ireturn, 1) := by decide +kernel
abbrev mi_X4_readBook : MI := (zTX, RX4, yX4_readBook, cX4_readBook, 1, (some .boolean), 6)
theorem cal_X4_readBook : zCalV mi_X4_readBook 0 := ⟨⟨zTB_i3 175 (by decide +kernel), zTB_i3 174 (by decide +kernel), zTB_i0 14 (by decide +kernel), zTB_i1 3 (by decide +kernel)⟩, ⟨by decide, by decide, by decide +kernel⟩, by decide⟩
noncomputable def X4_readBook (M : Mem) : Option (Bool × Mem) :=
  l1_ (α := Int32) (
    if 5 ≤ (M.1 4 2) then
      0
    else
    1) fun y2 =>
  bp_ (X4_begins y2 M) fun b3 M4 =>
  if b3 = true then
    bp_ (X6_takesNumber 0 99 M4) fun b6 M7 =>
    if b6 = true then
      lt_ (X11_put 12 (M7.1 4 2) (M7.1 16 4) M7) fun M9 =>
      lt_ (uI M9 4 2 ((M9.1 4 2) + 1)) fun M10 =>
      bp_ (X6_takesSign 59 M10) fun b11 M12 =>
      some (b11, M12)
    else
    some (false, M7)
  else
  some (false, M4)
set_option maxRecDepth 100000 in
set_option maxHeartbeats 4000000 in
theorem X4_readBook_ok (G : Gh) (M : Mem) : Mt G mi_X4_readBook [.ref (G.2.2.2 (3))] M ((dO dZM) (X4_readBook M)) := by
  refine Mt_of (lv := [some (.ref (G.2.2.2 (3)))]) (by decide) rfl (Nat.le_of_ble_eq_true rfl) rfl ?_
  unfold X4_readBook
  refine r_aload_n dX4_readBook_0 rfl ?_
  refine r_aload_n dX4_readBook_1 rfl ?_
  refine r_getf (v := .ref (G.2.2.2 (4))) dX4_readBook_2 fX_3_0 kX4 (by decide) lkf_X4_31 rfl ?_
  refine r_getf (v := .int (M.1 4 2)) dX4_readBook_5 fX_4_2 kX3 (by decide) lkf_X4_222 rfl ?_
  refine r_iconst (x := 5) dX4_readBook_8 rfl ?_
  refine r_jL1 (j := 17) (lvj := fun y2 => [some (.ref (G.2.2.2 (3)))]) (stj := fun y2 => [.int y2, .ref (G.2.2.2 (3))]) (Mj := fun y2 => M) (fun y2 => ?_) (fun hj17 => ?_)
  · refine c_OZM rfl (inv_V (mi := mi_X4_readBook) (b := 3) (rest := []) (X4_begins_ok G y2 M) rfl (by decide) dX4_readBook_17 lkm_X4_159 cal_X4_begins cX_3 rfl rfl (Nat.le_of_ble_eq_true rfl) rfl) (fun b3 M4 => ?_)
    refine r_ifz_eq (tgt := 36) dX4_readBook_20 rfl (fun h5 => ?_) (fun h5 => ?_)
    · refine r_aload_n dX4_readBook_23 rfl ?_
      refine r_getf (v := .ref (G.2.2.2 (16))) dX4_readBook_24 fX_3_1 kX4 (by decide) lkf_X4_40 rfl ?_
      refine r_iconst (x := 0) dX4_readBook_27 rfl ?_
      refine r_bipush (x := 99) dX4_readBook_28 rfl ?_
      refine c_OZM rfl (inv_V (mi := mi_X4_readBook) (b := 16) (rest := []) (X6_takesNumber_ok G 0 99 M4) rfl (by decide) dX4_readBook_30 lkm_X4_178 cal_X6_takesNumber cX_16 rfl rfl (Nat.le_of_ble_eq_true rfl) rfl) (fun b6 M7 => ?_)
      refine r_ifz_ne (tgt := 38) dX4_readBook_33 rfl (fun h8 => ?_) (fun h8 => ?_)
      · refine r_aload_n dX4_readBook_38 rfl ?_
        refine r_getf (v := .ref (G.2.2.2 (4))) dX4_readBook_39 fX_3_0 kX4 (by decide) lkf_X4_31 rfl ?_
        refine r_getf (v := .ref (G.2.2.2 (12))) dX4_readBook_42 fX_4_13 kX3 (by decide) lkf_X4_225 rfl ?_
        refine r_aload_n dX4_readBook_45 rfl ?_
        refine r_getf (v := .ref (G.2.2.2 (4))) dX4_readBook_46 fX_3_0 kX4 (by decide) lkf_X4_31 rfl ?_
        refine r_getf (v := .int (M7.1 4 2)) dX4_readBook_49 fX_4_2 kX3 (by decide) lkf_X4_222 rfl ?_
        refine r_aload_n dX4_readBook_52 rfl ?_
        refine r_getf (v := .ref (G.2.2.2 (16))) dX4_readBook_53 fX_3_1 kX4 (by decide) lkf_X4_40 rfl ?_
        refine r_getf (v := .int (M7.1 16 4)) dX4_readBook_56 fX_16_4 kX6 (by decide) lkf_X4_185 rfl ?_
        refine c_V (inv_SN (mi := mi_X4_readBook) (rest := []) (X11_put_ok G aX_12p (M7.1 4 2) (M7.1 16 4) M7) rfl (by decide) dX4_readBook_59 lkm_X4_188 cal_X11_put rfl (Nat.le_of_ble_eq_true rfl) rfl) (fun M9 => ?_)
        refine r_aload_n dX4_readBook_62 rfl ?_
        refine r_getf (v := .ref (G.2.2.2 (4))) dX4_readBook_63 fX_3_0 kX4 (by decide) lkf_X4_31 rfl ?_
        refine r_dup dX4_readBook_66 rfl ?_
        refine r_getf (v := .int (M9.1 4 2)) dX4_readBook_67 fX_4_2 kX3 (by decide) lkf_X4_222 rfl ?_
        refine r_iconst (x := 1) dX4_readBook_70 rfl ?_
        refine r_iadd dX4_readBook_71 ?_
        refine r_putI dX4_readBook_72 fX_4_2 kX3 (by decide) rfl rfl lkf_X4_222 (fun _ => rfl) rfl rfl (fun M10 => ?_)
        refine r_aload_n dX4_readBook_75 rfl ?_
        refine r_getf (v := .ref (G.2.2.2 (16))) dX4_readBook_76 fX_3_1 kX4 (by decide) lkf_X4_40 rfl ?_
        refine r_bipush (x := 59) dX4_readBook_79 rfl ?_
        refine c_OZM rfl (inv_V (mi := mi_X4_readBook) (b := 16) (rest := []) (X6_takesSign_ok G 59 M10) rfl (by decide) dX4_readBook_81 lkm_X4_167 cal_X6_takesSign cX_16 rfl rfl (Nat.le_of_ble_eq_true rfl) rfl) (fun b11 M12 => ?_)
        exact r_iret (ty := .boolean) dX4_readBook_84 rfl (b2i_n _) rfl
      refine r_iconst (x := 0) dX4_readBook_36 rfl ?_
      exact r_iret (ty := .boolean) dX4_readBook_37 rfl rfl rfl
    refine r_iconst (x := 0) dX4_readBook_36 rfl ?_
    exact r_iret (ty := .boolean) dX4_readBook_37 rfl rfl rfl
  refine r_icmp_ge (tgt := 16) dX4_readBook_9 rfl (fun h1 => ?_) (fun h1 => ?_)
  · refine r_iconst (x := 0) dX4_readBook_16 rfl ?_
    exact r_lk (hj17 0) (And.intro rfl True.intro)
  refine r_iconst (x := 1) dX4_readBook_12 rfl ?_
  refine r_goto (tgt := 17) dX4_readBook_13 rfl ?_
  exact r_lk (hj17 1) (And.intro rfl True.intro)

theorem dX1_write_0 : decode cX1_write 0 = .ok (.aload_n 0, 1) := by decide +kernel
theorem dX1_write_1 : decode cX1_write 1 = .ok (.getfield 16, 3) := by decide +kernel
theorem dX1_write_4 : decode cX1_write 4 = .ok (.ifCond .lt 35, 3) := by decide +kernel
theorem dX1_write_7 : decode cX1_write 7 = .ok (.aload_n 0, 1) := by decide +kernel
theorem dX1_write_8 : decode cX1_write 8 = .ok (.getfield 16, 3) := by decide +kernel
theorem dX1_write_11 : decode cX1_write 11 = .ok (.aload_n 0, 1) := by decide +kernel
theorem dX1_write_12 : decode cX1_write 12 = .ok (.getfield 9, 3) := by decide +kernel
theorem dX1_write_15 : decode cX1_write 15 = .ok (.arraylength, 1) := by decide +kernel
theorem dX1_write_16 : decode cX1_write 16 = .ok (.if_icmp .ge 23, 3) := by decide +kernel
theorem dX1_write_19 : decode cX1_write 19 = .ok (.aload_n 0, 1) := by decide +kernel
theorem dX1_write_20 : decode cX1_write 20 = .ok (.getfield 9, 3) := by decide +kernel
theorem dX1_write_23 : decode cX1_write 23 = .ok (.aload_n 0, 1) := by decide +kernel
theorem dX1_write_24 : decode cX1_write 24 = .ok (.getfield 16, 3) := by decide +kernel
theorem dX1_write_27 : decode cX1_write 27 = .ok (.iload_n 1, 1) := by decide +kernel
theorem dX1_write_28 : decode cX1_write 28 = .ok (.iastore, 1) := by decide +kernel
theorem dX1_write_29 : decode cX1_write 29 = .ok (.aload_n 0, 1) := by decide +kernel
theorem dX1_write_30 : decode cX1_write 30 = .ok (.dup, 1) := by decide +kernel
theorem dX1_write_31 : decode cX1_write 31 = .ok (.getfield 16, 3) := by decide +kernel
theorem dX1_write_34 : decode cX1_write 34 = .ok (.iconst 1, 1) := by decide +kernel
theorem dX1_write_35 : decode cX1_write 35 = .ok (.iadd, 1) := by decide +kernel
theorem dX1_write_36 : decode cX1_write 36 = .ok (.putfield 16, 3) := by decide +kernel
theorem dX1_write_39 : decode cX1_write 39 = .ok (.return_, 1) := by decide +kernel
abbrev mi_X1_write : MI := (zTX, RX1, yX1_write, cX1_write, 2, none, 2)
theorem cal_X1_write : zCalV mi_X1_write 1 := ⟨⟨zTB_i3 200 (by decide +kernel), zTB_i3 198 (by decide +kernel), zTB_i3 199 (by decide +kernel), zTB_i1 5 (by decide +kernel)⟩, ⟨by decide, by decide, by decide +kernel⟩, by decide⟩
noncomputable def X1_write (o0 : Nat) (x1 : Int32) (M : Mem) : Mem :=
  if (M.1 o0 2) < 0 then
    M
  else
  if (300) ≤ (M.1 o0 2) then
    M
  else
  lt_ (uI M (o0 + 1) ((M.1 o0 2).toNatClampNeg) x1) fun M3 =>
  lt_ (uI M3 o0 2 ((M3.1 o0 2) + 1)) fun M4 =>
  M4
set_option maxRecDepth 100000 in
set_option maxHeartbeats 4000000 in
theorem X1_write_ok_13 (G : Gh) (x1 : Int32) (M : Mem) : Mt G mi_X1_write [.ref (G.2.2.2 (13)), .int x1] M (dV (X1_write 13 x1 M)) := by
  refine Mt_of (lv := [some (.ref (G.2.2.2 (13))), some (.int x1)]) (by decide) rfl (Nat.le_of_ble_eq_true rfl) rfl ?_
  unfold X1_write
  refine r_aload_n dX1_write_0 rfl ?_
  refine r_getf (v := .int (M.1 13 2)) dX1_write_1 fX_13_2 kX1 (by decide) lkf_X1_16 rfl ?_
  refine r_if_lt (tgt := 39) dX1_write_4 rfl (fun h1 => ?_) (fun h1 => ?_)
  · exact r_vret dX1_write_39 rfl rfl
  refine r_aload_n dX1_write_7 rfl ?_
  refine r_getf (v := .int (M.1 13 2)) dX1_write_8 fX_13_2 kX1 (by decide) lkf_X1_16 rfl ?_
  refine r_aload_n dX1_write_11 rfl ?_
  refine r_getf (v := .ref (G.2.2.2 (13 + 1))) dX1_write_12 fX_13_0 kX1 (by decide) lkf_X1_9 rfl ?_
  refine r_alen (v := 300) dX1_write_15 aX_14 (by decide) rfl ?_
  refine r_icmp_ge (tgt := 39) dX1_write_16 rfl (fun h2 => ?_) (fun h2 => ?_)
  · exact r_vret dX1_write_39 rfl rfl
  refine r_aload_n dX1_write_19 rfl ?_
  refine r_getf (v := .ref (G.2.2.2 (13 + 1))) dX1_write_20 fX_13_0 kX1 (by decide) lkf_X1_9 rfl ?_
  refine r_aload_n dX1_write_23 rfl ?_
  refine r_getf (v := .int (M.1 13 2)) dX1_write_24 fX_13_2 kX1 (by decide) lkf_X1_16 rfl ?_
  refine r_iload_n dX1_write_27 rfl ?_
  refine r_iast dX1_write_28 aX_14 (vin h1 h2 (by decide)) rfl (fun M3 => ?_)
  refine r_aload_n dX1_write_29 rfl ?_
  refine r_dup dX1_write_30 rfl ?_
  refine r_getf (v := .int (M3.1 13 2)) dX1_write_31 fX_13_2 kX1 (by decide) lkf_X1_16 rfl ?_
  refine r_iconst (x := 1) dX1_write_34 rfl ?_
  refine r_iadd dX1_write_35 ?_
  refine r_putI dX1_write_36 fX_13_2 kX1 (by decide) rfl rfl lkf_X1_16 (fun _ => rfl) rfl rfl (fun M4 => ?_)
  exact r_vret dX1_write_39 rfl rfl
set_option maxRecDepth 100000 in
set_option maxHeartbeats 4000000 in
theorem X1_write_ok_32 (G : Gh) (x1 : Int32) (M : Mem) : Mt G mi_X1_write [.ref (G.2.2.2 (32)), .int x1] M (dV (X1_write 32 x1 M)) := by
  refine Mt_of (lv := [some (.ref (G.2.2.2 (32))), some (.int x1)]) (by decide) rfl (Nat.le_of_ble_eq_true rfl) rfl ?_
  unfold X1_write
  refine r_aload_n dX1_write_0 rfl ?_
  refine r_getf (v := .int (M.1 32 2)) dX1_write_1 fX_32_2 kX1 (by decide) lkf_X1_16 rfl ?_
  refine r_if_lt (tgt := 39) dX1_write_4 rfl (fun h1 => ?_) (fun h1 => ?_)
  · exact r_vret dX1_write_39 rfl rfl
  refine r_aload_n dX1_write_7 rfl ?_
  refine r_getf (v := .int (M.1 32 2)) dX1_write_8 fX_32_2 kX1 (by decide) lkf_X1_16 rfl ?_
  refine r_aload_n dX1_write_11 rfl ?_
  refine r_getf (v := .ref (G.2.2.2 (32 + 1))) dX1_write_12 fX_32_0 kX1 (by decide) lkf_X1_9 rfl ?_
  refine r_alen (v := 300) dX1_write_15 aX_33 (by decide) rfl ?_
  refine r_icmp_ge (tgt := 39) dX1_write_16 rfl (fun h2 => ?_) (fun h2 => ?_)
  · exact r_vret dX1_write_39 rfl rfl
  refine r_aload_n dX1_write_19 rfl ?_
  refine r_getf (v := .ref (G.2.2.2 (32 + 1))) dX1_write_20 fX_32_0 kX1 (by decide) lkf_X1_9 rfl ?_
  refine r_aload_n dX1_write_23 rfl ?_
  refine r_getf (v := .int (M.1 32 2)) dX1_write_24 fX_32_2 kX1 (by decide) lkf_X1_16 rfl ?_
  refine r_iload_n dX1_write_27 rfl ?_
  refine r_iast dX1_write_28 aX_33 (vin h1 h2 (by decide)) rfl (fun M3 => ?_)
  refine r_aload_n dX1_write_29 rfl ?_
  refine r_dup dX1_write_30 rfl ?_
  refine r_getf (v := .int (M3.1 32 2)) dX1_write_31 fX_32_2 kX1 (by decide) lkf_X1_16 rfl ?_
  refine r_iconst (x := 1) dX1_write_34 rfl ?_
  refine r_iadd dX1_write_35 ?_
  refine r_putI dX1_write_36 fX_32_2 kX1 (by decide) rfl rfl lkf_X1_16 (fun _ => rfl) rfl rfl (fun M4 => ?_)
  exact r_vret dX1_write_39 rfl rfl

theorem dX2_leafTold_0 : decode cX2_leafTold 0 = .ok (.aload_n 0, 1) := by decide +kernel
theorem dX2_leafTold_1 : decode cX2_leafTold 1 = .ok (.getfield 9, 3) := by decide +kernel
theorem dX2_leafTold_4 : decode cX2_leafTold 4 = .ok (.getfield 53, 3) := by decide +kernel
theorem dX2_leafTold_7 : decode cX2_leafTold 7 = .ok (.iconst 3, 1) := by decide +kernel
theorem dX2_leafTold_8 : decode cX2_leafTold 8 = .ok (.if_icmp .ne 11, 3) := by decide +kernel
theorem dX2_leafTold_11 : decode cX2_leafTold 11 = .ok (.aload_n 0, 1) := by decide +kernel
theorem dX2_leafTold_12 : decode cX2_leafTold 12 = .ok (.getfield 9, 3) := by decide +kernel
theorem dX2_leafTold_15 : decode cX2_leafTold 15 = .ok (.getfield 79, 3) := by decide +kernel
theorem dX2_leafTold_18 : decode cX2_leafTold 18 = .ok (.ireturn, 1) := by decide +kernel
theorem dX2_leafTold_19 : decode cX2_leafTold 19 = .ok (.aload_n 0, 1) := by decide +kernel
theorem dX2_leafTold_20 : decode cX2_leafTold 20 = .ok (.getfield 9, 3) := by decide +kernel
theorem dX2_leafTold_23 : decode cX2_leafTold 23 = .ok (.ldc 82, 2) := by decide +kernel
theorem dX2_leafTold_25 : decode cX2_leafTold 25 = .ok (.invokevirtual 25, 3) := by decide +kernel
theorem dX2_leafTold_28 : decode cX2_leafTold 28 = .ok (.ifCond .eq 7, 3) := by decide +kernel
theorem dX2_leafTold_31 : decode cX2_leafTold 31 = .ok (.sipush 10000, 3) := by decide +kernel
theorem dX2_leafTold_34 : decode cX2_leafTold 34 = .ok (.ireturn, 1) := by decide +kernel
theorem dX2_leafTold_35 : decode cX2_leafTold 35 = .ok (.aload_n 0, 1) := by decide +kernel
theorem dX2_leafTold_36 : decode cX2_leafTold 36 = .ok (.getfield 9, 3) := by decide +kernel
theorem dX2_leafTold_39 : decode cX2_leafTold 39 = .ok (.ldc 84, 2) := by decide +kernel
theorem dX2_leafTold_41 : decode cX2_leafTold 41 = .ok (.invokevirtual 25, 3) := by decide +kernel
theorem dX2_leafTold_44 : decode cX2_leafTold 44 = .ok (.ifCond .eq 7, 3) := by decide +kernel
theorem dX2_leafTold_47 : decode cX2_leafTold 47 = .ok (.sipush 10001, 3) := by decide +kernel
theorem dX2_leafTold_50 : decode cX2_leafTold 50 = .ok (.ireturn, 1) := by decide +kernel
theorem dX2_leafTold_51 : decode cX2_leafTold 51 = .ok (.aload_n 0, 1) := by decide +kernel
theorem dX2_leafTold_52 : decode cX2_leafTold 52 = .ok (.getfield 9, 3) := by decide +kernel
theorem dX2_leafTold_55 : decode cX2_leafTold 55 = .ok (.ldc 86, 2) := by decide +kernel
theorem dX2_leafTold_57 : decode cX2_leafTold 57 = .ok (.invokevirtual 25, 3) := by decide +kernel
theorem dX2_leafTold_60 : decode cX2_leafTold 60 = .ok (.ifCond .eq 7, 3) := by decide +kernel
theorem dX2_leafTold_63 : decode cX2_leafTold 63 = .ok (.sipush 10002, 3) := by decide +kernel
theorem dX2_leafTold_66 : decode cX2_leafTold 66 = .ok (.ireturn, 1) := by decide +kernel
theorem dX2_leafTold_67 : decode cX2_leafTold 67 = .ok (.aload_n 0, 1) := by decide +kernel
theorem dX2_leafTold_68 : decode cX2_leafTold 68 = .ok (.getfield 9, 3) := by decide +kernel
theorem dX2_leafTold_71 : decode cX2_leafTold 71 = .ok (.ldc 88, 2) := by decide +kernel
theorem dX2_leafTold_73 : decode cX2_leafTold 73 = .ok (.invokevirtual 25, 3) := by decide +kernel
theorem dX2_leafTold_76 : decode cX2_leafTold 76 = .ok (.ifCond .eq 7, 3) := by decide +kernel
theorem dX2_leafTold_79 : decode cX2_leafTold 79 = .ok (.sipush 10003, 3) := by decide +kernel
theorem dX2_leafTold_82 : decode cX2_leafTold 82 = .ok (.ireturn, 1) := by decide +kernel
theorem dX2_leafTold_83 : decode cX2_leafTold 83 = .ok (.aload_n 0, 1) := by decide +kernel
theorem dX2_leafTold_84 : decode cX2_leafTold 84 = .ok (.getfield 9, 3) := by decide +kernel
theorem dX2_leafTold_87 : decode cX2_leafTold 87 = .ok (.ldc 90, 2) := by decide +kernel
theorem dX2_leafTold_89 : decode cX2_leafTold 89 = .ok (.invokevirtual 25, 3) := by decide +kernel
theorem dX2_leafTold_92 : decode cX2_leafTold 92 = .ok (.ifCond .eq 7, 3) := by decide +kernel
theorem dX2_leafTold_95 : decode cX2_leafTold 95 = .ok (.sipush 10004, 3) := by decide +kernel
theorem dX2_leafTold_98 : decode cX2_leafTold 98 = .ok (.ireturn, 1) := by decide +kernel
theorem dX2_leafTold_99 : decode cX2_leafTold 99 = .ok (.aload_n 0, 1) := by decide +kernel
theorem dX2_leafTold_100 : decode cX2_leafTold 100 = .ok (.getfield 9, 3) := by decide +kernel
theorem dX2_leafTold_103 : decode cX2_leafTold 103 = .ok (.ldc 92, 2) := by decide +kernel
theorem dX2_leafTold_105 : decode cX2_leafTold 105 = .ok (.invokevirtual 25, 3) := by decide +kernel
theorem dX2_leafTold_108 : decode cX2_leafTold 108 = .ok (.ifCond .eq 9, 3) := by decide +kernel
theorem dX2_leafTold_111 : decode cX2_leafTold 111 = .ok (.sipush 10005, 3) := by decide +kernel
theorem dX2_leafTold_114 : decode cX2_leafTold 114 = .ok (.goto 4, 3) := by decide +kernel
theorem dX2_leafTold_117 : decode cX2_leafTold 117 = .ok (.iconst (-1), 1) := by decide +kernel
theorem dX2_leafTold_118 : decode cX2_leafTold 118 = .ok (.ireturn, 1) := by decide +kernel
abbrev mi_X2_leafTold : MI := (zTX, RX2, yX2_leafTold, cX2_leafTold, 1, (some .int), 9)
theorem cal_X2_leafTold : zCalV mi_X2_leafTold 0 := ⟨⟨zTB_i3 216 (by decide +kernel), zTB_i3 215 (by decide +kernel), zTB_i0 22 (by decide +kernel), zTB_i1 7 (by decide +kernel)⟩, ⟨by decide, by decide, by decide +kernel⟩, by decide⟩
noncomputable def X2_leafTold (M : Mem) : Option (Int32) :=
  if (M.1 16 1) = 3 then
    some (M.1 16 3)
  else
  bo_ (X6_says 33 M) fun b2 =>
  if b2 = true then
    some 10000
  else
  bo_ (X6_says 34 M) fun b4 =>
  if b4 = true then
    some 10001
  else
  bo_ (X6_says 35 M) fun b6 =>
  if b6 = true then
    some 10002
  else
  bo_ (X6_says 36 M) fun b8 =>
  if b8 = true then
    some 10003
  else
  bo_ (X6_says 37 M) fun b10 =>
  if b10 = true then
    some 10004
  else
  bo_ (X6_says 38 M) fun b12 =>
  if b12 = true then
    some 10005
  else
  some (-1)
set_option maxRecDepth 100000 in
set_option maxHeartbeats 4000000 in
theorem X2_leafTold_ok (G : Gh) (M : Mem) : Mt G mi_X2_leafTold [.ref (G.2.2.2 (17))] M ((dO (dI M)) (X2_leafTold M)) := by
  refine Mt_of (lv := [some (.ref (G.2.2.2 (17)))]) (by decide) rfl (Nat.le_of_ble_eq_true rfl) rfl ?_
  unfold X2_leafTold
  refine r_aload_n dX2_leafTold_0 rfl ?_
  refine r_getf (v := .ref (G.2.2.2 (16))) dX2_leafTold_1 fX_17_0 kX2 (by decide) lkf_X2_9 rfl ?_
  refine r_getf (v := .int (M.1 16 1)) dX2_leafTold_4 fX_16_1 kX6 (by decide) lkf_X2_53 rfl ?_
  refine r_iconst (x := 3) dX2_leafTold_7 rfl ?_
  refine r_icmp_ne (tgt := 19) dX2_leafTold_8 rfl (fun h1 => ?_) (fun h1 => ?_)
  · refine r_aload_n dX2_leafTold_11 rfl ?_
    refine r_getf (v := .ref (G.2.2.2 (16))) dX2_leafTold_12 fX_17_0 kX2 (by decide) lkf_X2_9 rfl ?_
    refine r_getf (v := .int (M.1 16 3)) dX2_leafTold_15 fX_16_3 kX6 (by decide) lkf_X2_79 rfl ?_
    exact r_iret (ty := .int) dX2_leafTold_18 rfl rfl rfl
  refine r_aload_n dX2_leafTold_19 rfl ?_
  refine r_getf (v := .ref (G.2.2.2 (16))) dX2_leafTold_20 fX_17_0 kX2 (by decide) lkf_X2_9 rfl ?_
  refine r_ldcS (i := 33) dX2_leafTold_23 rfl ?_
  refine c_OZ rfl (inv_V (mi := mi_X2_leafTold) (b := 16) (rest := []) (X6_says_ok G (w1 := 33) (by decide) M) rfl (by decide) dX2_leafTold_25 lkm_X2_25 cal_X6_says cX_16 rfl rfl (Nat.le_of_ble_eq_true rfl) rfl) (fun b2 => ?_)
  refine r_ifz_eq (tgt := 35) dX2_leafTold_28 rfl (fun h3 => ?_) (fun h3 => ?_)
  · refine r_sipush (x := 10000) dX2_leafTold_31 rfl ?_
    exact r_iret (ty := .int) dX2_leafTold_34 rfl rfl rfl
  refine r_aload_n dX2_leafTold_35 rfl ?_
  refine r_getf (v := .ref (G.2.2.2 (16))) dX2_leafTold_36 fX_17_0 kX2 (by decide) lkf_X2_9 rfl ?_
  refine r_ldcS (i := 34) dX2_leafTold_39 rfl ?_
  refine c_OZ rfl (inv_V (mi := mi_X2_leafTold) (b := 16) (rest := []) (X6_says_ok G (w1 := 34) (by decide) M) rfl (by decide) dX2_leafTold_41 lkm_X2_25 cal_X6_says cX_16 rfl rfl (Nat.le_of_ble_eq_true rfl) rfl) (fun b4 => ?_)
  refine r_ifz_eq (tgt := 51) dX2_leafTold_44 rfl (fun h5 => ?_) (fun h5 => ?_)
  · refine r_sipush (x := 10001) dX2_leafTold_47 rfl ?_
    exact r_iret (ty := .int) dX2_leafTold_50 rfl rfl rfl
  refine r_aload_n dX2_leafTold_51 rfl ?_
  refine r_getf (v := .ref (G.2.2.2 (16))) dX2_leafTold_52 fX_17_0 kX2 (by decide) lkf_X2_9 rfl ?_
  refine r_ldcS (i := 35) dX2_leafTold_55 rfl ?_
  refine c_OZ rfl (inv_V (mi := mi_X2_leafTold) (b := 16) (rest := []) (X6_says_ok G (w1 := 35) (by decide) M) rfl (by decide) dX2_leafTold_57 lkm_X2_25 cal_X6_says cX_16 rfl rfl (Nat.le_of_ble_eq_true rfl) rfl) (fun b6 => ?_)
  refine r_ifz_eq (tgt := 67) dX2_leafTold_60 rfl (fun h7 => ?_) (fun h7 => ?_)
  · refine r_sipush (x := 10002) dX2_leafTold_63 rfl ?_
    exact r_iret (ty := .int) dX2_leafTold_66 rfl rfl rfl
  refine r_aload_n dX2_leafTold_67 rfl ?_
  refine r_getf (v := .ref (G.2.2.2 (16))) dX2_leafTold_68 fX_17_0 kX2 (by decide) lkf_X2_9 rfl ?_
  refine r_ldcS (i := 36) dX2_leafTold_71 rfl ?_
  refine c_OZ rfl (inv_V (mi := mi_X2_leafTold) (b := 16) (rest := []) (X6_says_ok G (w1 := 36) (by decide) M) rfl (by decide) dX2_leafTold_73 lkm_X2_25 cal_X6_says cX_16 rfl rfl (Nat.le_of_ble_eq_true rfl) rfl) (fun b8 => ?_)
  refine r_ifz_eq (tgt := 83) dX2_leafTold_76 rfl (fun h9 => ?_) (fun h9 => ?_)
  · refine r_sipush (x := 10003) dX2_leafTold_79 rfl ?_
    exact r_iret (ty := .int) dX2_leafTold_82 rfl rfl rfl
  refine r_aload_n dX2_leafTold_83 rfl ?_
  refine r_getf (v := .ref (G.2.2.2 (16))) dX2_leafTold_84 fX_17_0 kX2 (by decide) lkf_X2_9 rfl ?_
  refine r_ldcS (i := 37) dX2_leafTold_87 rfl ?_
  refine c_OZ rfl (inv_V (mi := mi_X2_leafTold) (b := 16) (rest := []) (X6_says_ok G (w1 := 37) (by decide) M) rfl (by decide) dX2_leafTold_89 lkm_X2_25 cal_X6_says cX_16 rfl rfl (Nat.le_of_ble_eq_true rfl) rfl) (fun b10 => ?_)
  refine r_ifz_eq (tgt := 99) dX2_leafTold_92 rfl (fun h11 => ?_) (fun h11 => ?_)
  · refine r_sipush (x := 10004) dX2_leafTold_95 rfl ?_
    exact r_iret (ty := .int) dX2_leafTold_98 rfl rfl rfl
  refine r_aload_n dX2_leafTold_99 rfl ?_
  refine r_getf (v := .ref (G.2.2.2 (16))) dX2_leafTold_100 fX_17_0 kX2 (by decide) lkf_X2_9 rfl ?_
  refine r_ldcS (i := 38) dX2_leafTold_103 rfl ?_
  refine c_OZ rfl (inv_V (mi := mi_X2_leafTold) (b := 16) (rest := []) (X6_says_ok G (w1 := 38) (by decide) M) rfl (by decide) dX2_leafTold_105 lkm_X2_25 cal_X6_says cX_16 rfl rfl (Nat.le_of_ble_eq_true rfl) rfl) (fun b12 => ?_)
  refine r_ifz_eq (tgt := 117) dX2_leafTold_108 rfl (fun h13 => ?_) (fun h13 => ?_)
  · refine r_sipush (x := 10005) dX2_leafTold_111 rfl ?_
    refine r_goto (tgt := 118) dX2_leafTold_114 rfl ?_
    exact r_iret (ty := .int) dX2_leafTold_118 rfl rfl rfl
  refine r_iconst (x := (-1)) dX2_leafTold_117 rfl ?_
  exact r_iret (ty := .int) dX2_leafTold_118 rfl rfl rfl

theorem dX2_readUnit_0 : decode cX2_readUnit 0 = .ok (.aload_n 0, 1) := by decide +kernel
theorem dX2_readUnit_1 : decode cX2_readUnit 1 = .ok (.getfield 9, 3) := by decide +kernel
theorem dX2_readUnit_4 : decode cX2_readUnit 4 = .ok (.getfield 53, 3) := by decide +kernel
theorem dX2_readUnit_7 : decode cX2_readUnit 7 = .ok (.bipush 40, 2) := by decide +kernel
theorem dX2_readUnit_9 : decode cX2_readUnit 9 = .ok (.if_icmp .ne 7, 3) := by decide +kernel
theorem dX2_readUnit_12 : decode cX2_readUnit 12 = .ok (.iconst 1, 1) := by decide +kernel
theorem dX2_readUnit_13 : decode cX2_readUnit 13 = .ok (.goto 4, 3) := by decide +kernel
theorem dX2_readUnit_16 : decode cX2_readUnit 16 = .ok (.iconst 0, 1) := by decide +kernel
theorem dX2_readUnit_17 : decode cX2_readUnit 17 = .ok (.istore_n 2, 1) := by decide +kernel
theorem dX2_readUnit_18 : decode cX2_readUnit 18 = .ok (.iload_n 2, 1) := by decide +kernel
theorem dX2_readUnit_19 : decode cX2_readUnit 19 = .ok (.ifCond .eq 7, 3) := by decide +kernel
theorem dX2_readUnit_22 : decode cX2_readUnit 22 = .ok (.iconst (-1), 1) := by decide +kernel
theorem dX2_readUnit_23 : decode cX2_readUnit 23 = .ok (.goto 7, 3) := by decide +kernel
theorem dX2_readUnit_26 : decode cX2_readUnit 26 = .ok (.aload_n 0, 1) := by decide +kernel
theorem dX2_readUnit_27 : decode cX2_readUnit 27 = .ok (.invokevirtual 69, 3) := by decide +kernel
theorem dX2_readUnit_30 : decode cX2_readUnit 30 = .ok (.istore_n 3, 1) := by decide +kernel
theorem dX2_readUnit_31 : decode cX2_readUnit 31 = .ok (.iload_n 2, 1) := by decide +kernel
theorem dX2_readUnit_32 : decode cX2_readUnit 32 = .ok (.ifCond .ne 8, 3) := by decide +kernel
theorem dX2_readUnit_35 : decode cX2_readUnit 35 = .ok (.iload_n 3, 1) := by decide +kernel
theorem dX2_readUnit_36 : decode cX2_readUnit 36 = .ok (.iconst (-1), 1) := by decide +kernel
theorem dX2_readUnit_37 : decode cX2_readUnit 37 = .ok (.if_icmp .eq 15, 3) := by decide +kernel
theorem dX2_readUnit_40 : decode cX2_readUnit 40 = .ok (.aload_n 0, 1) := by decide +kernel
theorem dX2_readUnit_41 : decode cX2_readUnit 41 = .ok (.getfield 15, 3) := by decide +kernel
theorem dX2_readUnit_44 : decode cX2_readUnit 44 = .ok (.getfield 73, 3) := by decide +kernel
theorem dX2_readUnit_47 : decode cX2_readUnit 47 = .ok (.bipush 30, 2) := by decide +kernel
theorem dX2_readUnit_49 : decode cX2_readUnit 49 = .ok (.if_icmp .lt 12, 3) := by decide +kernel
theorem dX2_readUnit_52 : decode cX2_readUnit 52 = .ok (.aload_n 0, 1) := by decide +kernel
theorem dX2_readUnit_53 : decode cX2_readUnit 53 = .ok (.getfield 9, 3) := by decide +kernel
theorem dX2_readUnit_56 : decode cX2_readUnit 56 = .ok (.iconst 2, 1) := by decide +kernel
theorem dX2_readUnit_57 : decode cX2_readUnit 57 = .ok (.invokevirtual 47, 3) := by decide +kernel
theorem dX2_readUnit_60 : decode cX2_readUnit 60 = .ok (.ireturn, 1) := by decide +kernel
theorem dX2_readUnit_61 : decode cX2_readUnit 61 = .ok (.iload_n 2, 1) := by decide +kernel
theorem dX2_readUnit_62 : decode cX2_readUnit 62 = .ok (.ifCond .eq 18, 3) := by decide +kernel
theorem dX2_readUnit_65 : decode cX2_readUnit 65 = .ok (.iload_n 1, 1) := by decide +kernel
theorem dX2_readUnit_66 : decode cX2_readUnit 66 = .ok (.bipush 7, 2) := by decide +kernel
theorem dX2_readUnit_68 : decode cX2_readUnit 68 = .ok (.if_icmp .lt 12, 3) := by decide +kernel
theorem dX2_readUnit_71 : decode cX2_readUnit 71 = .ok (.aload_n 0, 1) := by decide +kernel
theorem dX2_readUnit_72 : decode cX2_readUnit 72 = .ok (.getfield 9, 3) := by decide +kernel
theorem dX2_readUnit_75 : decode cX2_readUnit 75 = .ok (.iconst 2, 1) := by decide +kernel
theorem dX2_readUnit_76 : decode cX2_readUnit 76 = .ok (.invokevirtual 47, 3) := by decide +kernel
theorem dX2_readUnit_79 : decode cX2_readUnit 79 = .ok (.ireturn, 1) := by decide +kernel
theorem dX2_readUnit_80 : decode cX2_readUnit 80 = .ok (.aload_n 0, 1) := by decide +kernel
theorem dX2_readUnit_81 : decode cX2_readUnit 81 = .ok (.getfield 15, 3) := by decide +kernel
theorem dX2_readUnit_84 : decode cX2_readUnit 84 = .ok (.dup, 1) := by decide +kernel
theorem dX2_readUnit_85 : decode cX2_readUnit 85 = .ok (.getfield 73, 3) := by decide +kernel
theorem dX2_readUnit_88 : decode cX2_readUnit 88 = .ok (.iconst 1, 1) := by decide +kernel
theorem dX2_readUnit_89 : decode cX2_readUnit 89 = .ok (.iadd, 1) := by decide +kernel
theorem dX2_readUnit_90 : decode cX2_readUnit 90 = .ok (.putfield 73, 3) := by decide +kernel
theorem dX2_readUnit_93 : decode cX2_readUnit 93 = .ok (.aload_n 0, 1) := by decide +kernel
theorem dX2_readUnit_94 : decode cX2_readUnit 94 = .ok (.getfield 9, 3) := by decide +kernel
theorem dX2_readUnit_97 : decode cX2_readUnit 97 = .ok (.invokevirtual 31, 3) := by decide +kernel
theorem dX2_readUnit_100 : decode cX2_readUnit 100 = .ok (.iload_n 2, 1) := by decide +kernel
theorem dX2_readUnit_101 : decode cX2_readUnit 101 = .ok (.ifCond .ne 13, 3) := by decide +kernel
theorem dX2_readUnit_104 : decode cX2_readUnit 104 = .ok (.aload_n 0, 1) := by decide +kernel
theorem dX2_readUnit_105 : decode cX2_readUnit 105 = .ok (.getfield 15, 3) := by decide +kernel
theorem dX2_readUnit_108 : decode cX2_readUnit 108 = .ok (.iload_n 3, 1) := by decide +kernel
theorem dX2_readUnit_109 : decode cX2_readUnit 109 = .ok (.invokevirtual 36, 3) := by decide +kernel
theorem dX2_readUnit_112 : decode cX2_readUnit 112 = .ok (.iconst 1, 1) := by decide +kernel
theorem dX2_readUnit_113 : decode cX2_readUnit 113 = .ok (.ireturn, 1) := by decide +kernel
theorem dX2_readUnit_114 : decode cX2_readUnit 114 = .ok (.aload_n 0, 1) := by decide +kernel
theorem dX2_readUnit_115 : decode cX2_readUnit 115 = .ok (.iload_n 1, 1) := by decide +kernel
theorem dX2_readUnit_116 : decode cX2_readUnit 116 = .ok (.iconst 1, 1) := by decide +kernel
theorem dX2_readUnit_117 : decode cX2_readUnit 117 = .ok (.iadd, 1) := by decide +kernel
theorem dX2_readUnit_118 : decode cX2_readUnit 118 = .ok (.invokevirtual 76, 3) := by decide +kernel
theorem dX2_readUnit_121 : decode cX2_readUnit 121 = .ok (.ifCond .ne 5, 3) := by decide +kernel
theorem dX2_readUnit_124 : decode cX2_readUnit 124 = .ok (.iconst 0, 1) := by decide +kernel
theorem dX2_readUnit_125 : decode cX2_readUnit 125 = .ok (.ireturn, 1) := by decide +kernel
theorem dX2_readUnit_126 : decode cX2_readUnit 126 = .ok (.aload_n 0, 1) := by decide +kernel
theorem dX2_readUnit_127 : decode cX2_readUnit 127 = .ok (.getfield 9, 3) := by decide +kernel
theorem dX2_readUnit_130 : decode cX2_readUnit 130 = .ok (.getfield 53, 3) := by decide +kernel
theorem dX2_readUnit_133 : decode cX2_readUnit 133 = .ok (.bipush 41, 2) := by decide +kernel
theorem dX2_readUnit_135 : decode cX2_readUnit 135 = .ok (.if_icmp .eq 12, 3) := by decide +kernel
theorem dX2_readUnit_138 : decode cX2_readUnit 138 = .ok (.aload_n 0, 1) := by decide +kernel
theorem dX2_readUnit_139 : decode cX2_readUnit 139 = .ok (.getfield 9, 3) := by decide +kernel
theorem dX2_readUnit_142 : decode cX2_readUnit 142 = .ok (.iconst 2, 1) := by decide +kernel
theorem dX2_readUnit_143 : decode cX2_readUnit 143 = .ok (.invokevirtual 47, 3) := by decide +kernel
theorem dX2_readUnit_146 : decode cX2_readUnit 146 = .ok (.ireturn, 1) := by decide +kernel
theorem dX2_readUnit_147 : decode cX2_readUnit 147 = .ok (.aload_n 0, 1) := by decide +kernel
theorem dX2_readUnit_148 : decode cX2_readUnit 148 = .ok (.getfield 9, 3) := by decide +kernel
theorem dX2_readUnit_151 : decode cX2_readUnit 151 = .ok (.invokevirtual 31, 3) := by decide +kernel
theorem dX2_readUnit_154 : decode cX2_readUnit 154 = .ok (.iconst 1, 1) := by decide +kernel
theorem dX2_readUnit_155 : decode cX2_readUnit 155 = .ok (.ireturn, 1) := by decide +kernel
abbrev mi_X2_readUnit (kk : Nat) : MI := (zTX, RX2, yX2_readUnit, cX2_readUnit, 4, (some .boolean), 40 + 6 * kk + 1)
theorem calz_X2_readUnit : zCalV (mi_X2_readUnit 0) 1 := ⟨⟨zTB_i3 212 (by decide +kernel), zTB_i3 211 (by decide +kernel), zTB_i0 21 (by decide +kernel), zTB_i1 7 (by decide +kernel)⟩, ⟨by decide, by decide, by decide +kernel⟩, by decide⟩
theorem cal_X2_readUnit {kk : Nat} : zCalV (mi_X2_readUnit kk) 1 := calz_X2_readUnit
theorem dX2_readTerm_0 : decode cX2_readTerm 0 = .ok (.aload_n 0, 1) := by decide +kernel
theorem dX2_readTerm_1 : decode cX2_readTerm 1 = .ok (.iload_n 1, 1) := by decide +kernel
theorem dX2_readTerm_2 : decode cX2_readTerm 2 = .ok (.invokevirtual 63, 3) := by decide +kernel
theorem dX2_readTerm_5 : decode cX2_readTerm 5 = .ok (.istore_n 2, 1) := by decide +kernel
theorem dX2_readTerm_6 : decode cX2_readTerm 6 = .ok (.iconst 0, 1) := by decide +kernel
theorem dX2_readTerm_7 : decode cX2_readTerm 7 = .ok (.istore_n 3, 1) := by decide +kernel
theorem dX2_readTerm_8 : decode cX2_readTerm 8 = .ok (.iload_n 3, 1) := by decide +kernel
theorem dX2_readTerm_9 : decode cX2_readTerm 9 = .ok (.sipush 1600, 3) := by decide +kernel
theorem dX2_readTerm_12 : decode cX2_readTerm 12 = .ok (.if_icmp .ge 61, 3) := by decide +kernel
theorem dX2_readTerm_15 : decode cX2_readTerm 15 = .ok (.iload_n 2, 1) := by decide +kernel
theorem dX2_readTerm_16 : decode cX2_readTerm 16 = .ok (.ifCond .eq 57, 3) := by decide +kernel
theorem dX2_readTerm_19 : decode cX2_readTerm 19 = .ok (.aload_n 0, 1) := by decide +kernel
theorem dX2_readTerm_20 : decode cX2_readTerm 20 = .ok (.getfield 9, 3) := by decide +kernel
theorem dX2_readTerm_23 : decode cX2_readTerm 23 = .ok (.getfield 53, 3) := by decide +kernel
theorem dX2_readTerm_26 : decode cX2_readTerm 26 = .ok (.invokestatic 66, 3) := by decide +kernel
theorem dX2_readTerm_29 : decode cX2_readTerm 29 = .ok (.ifCond .eq 44, 3) := by decide +kernel
theorem dX2_readTerm_32 : decode cX2_readTerm 32 = .ok (.aload_n 0, 1) := by decide +kernel
theorem dX2_readTerm_33 : decode cX2_readTerm 33 = .ok (.getfield 9, 3) := by decide +kernel
theorem dX2_readTerm_36 : decode cX2_readTerm 36 = .ok (.getfield 53, 3) := by decide +kernel
theorem dX2_readTerm_39 : decode cX2_readTerm 39 = .ok (.istore 4, 2) := by decide +kernel
theorem dX2_readTerm_41 : decode cX2_readTerm 41 = .ok (.aload_n 0, 1) := by decide +kernel
theorem dX2_readTerm_42 : decode cX2_readTerm 42 = .ok (.getfield 9, 3) := by decide +kernel
theorem dX2_readTerm_45 : decode cX2_readTerm 45 = .ok (.invokevirtual 31, 3) := by decide +kernel
theorem dX2_readTerm_48 : decode cX2_readTerm 48 = .ok (.aload_n 0, 1) := by decide +kernel
theorem dX2_readTerm_49 : decode cX2_readTerm 49 = .ok (.iload_n 1, 1) := by decide +kernel
theorem dX2_readTerm_50 : decode cX2_readTerm 50 = .ok (.invokevirtual 63, 3) := by decide +kernel
theorem dX2_readTerm_53 : decode cX2_readTerm 53 = .ok (.istore_n 2, 1) := by decide +kernel
theorem dX2_readTerm_54 : decode cX2_readTerm 54 = .ok (.aload_n 0, 1) := by decide +kernel
theorem dX2_readTerm_55 : decode cX2_readTerm 55 = .ok (.getfield 15, 3) := by decide +kernel
theorem dX2_readTerm_58 : decode cX2_readTerm 58 = .ok (.sipush 20000, 3) := by decide +kernel
theorem dX2_readTerm_61 : decode cX2_readTerm 61 = .ok (.iload 4, 2) := by decide +kernel
theorem dX2_readTerm_63 : decode cX2_readTerm 63 = .ok (.iadd, 1) := by decide +kernel
theorem dX2_readTerm_64 : decode cX2_readTerm 64 = .ok (.invokevirtual 36, 3) := by decide +kernel
theorem dX2_readTerm_67 : decode cX2_readTerm 67 = .ok (.iinc 3 1, 3) := by decide +kernel
theorem dX2_readTerm_70 : decode cX2_readTerm 70 = .ok (.goto (-62), 3) := by decide +kernel
theorem dX2_readTerm_73 : decode cX2_readTerm 73 = .ok (.iload_n 2, 1) := by decide +kernel
theorem dX2_readTerm_74 : decode cX2_readTerm 74 = .ok (.ireturn, 1) := by decide +kernel
abbrev mi_X2_readTerm (kk : Nat) : MI := (zTX, RX2, yX2_readTerm, cX2_readTerm, 5, (some .boolean), 40 + 6 * kk + 2)
theorem calz_X2_readTerm : zCalV (mi_X2_readTerm 0) 1 := ⟨⟨zTB_i3 208 (by decide +kernel), zTB_i3 207 (by decide +kernel), zTB_i0 20 (by decide +kernel), zTB_i1 7 (by decide +kernel)⟩, ⟨by decide, by decide, by decide +kernel⟩, by decide⟩
theorem cal_X2_readTerm {kk : Nat} : zCalV (mi_X2_readTerm kk) 1 := calz_X2_readTerm
theorem dX2_readSum_0 : decode cX2_readSum 0 = .ok (.aload_n 0, 1) := by decide +kernel
theorem dX2_readSum_1 : decode cX2_readSum 1 = .ok (.iload_n 1, 1) := by decide +kernel
theorem dX2_readSum_2 : decode cX2_readSum 2 = .ok (.invokevirtual 57, 3) := by decide +kernel
theorem dX2_readSum_5 : decode cX2_readSum 5 = .ok (.istore_n 2, 1) := by decide +kernel
theorem dX2_readSum_6 : decode cX2_readSum 6 = .ok (.iconst 0, 1) := by decide +kernel
theorem dX2_readSum_7 : decode cX2_readSum 7 = .ok (.istore_n 3, 1) := by decide +kernel
theorem dX2_readSum_8 : decode cX2_readSum 8 = .ok (.iload_n 3, 1) := by decide +kernel
theorem dX2_readSum_9 : decode cX2_readSum 9 = .ok (.sipush 1600, 3) := by decide +kernel
theorem dX2_readSum_12 : decode cX2_readSum 12 = .ok (.if_icmp .ge 61, 3) := by decide +kernel
theorem dX2_readSum_15 : decode cX2_readSum 15 = .ok (.iload_n 2, 1) := by decide +kernel
theorem dX2_readSum_16 : decode cX2_readSum 16 = .ok (.ifCond .eq 57, 3) := by decide +kernel
theorem dX2_readSum_19 : decode cX2_readSum 19 = .ok (.aload_n 0, 1) := by decide +kernel
theorem dX2_readSum_20 : decode cX2_readSum 20 = .ok (.getfield 9, 3) := by decide +kernel
theorem dX2_readSum_23 : decode cX2_readSum 23 = .ok (.getfield 53, 3) := by decide +kernel
theorem dX2_readSum_26 : decode cX2_readSum 26 = .ok (.invokestatic 60, 3) := by decide +kernel
theorem dX2_readSum_29 : decode cX2_readSum 29 = .ok (.ifCond .eq 44, 3) := by decide +kernel
theorem dX2_readSum_32 : decode cX2_readSum 32 = .ok (.aload_n 0, 1) := by decide +kernel
theorem dX2_readSum_33 : decode cX2_readSum 33 = .ok (.getfield 9, 3) := by decide +kernel
theorem dX2_readSum_36 : decode cX2_readSum 36 = .ok (.getfield 53, 3) := by decide +kernel
theorem dX2_readSum_39 : decode cX2_readSum 39 = .ok (.istore 4, 2) := by decide +kernel
theorem dX2_readSum_41 : decode cX2_readSum 41 = .ok (.aload_n 0, 1) := by decide +kernel
theorem dX2_readSum_42 : decode cX2_readSum 42 = .ok (.getfield 9, 3) := by decide +kernel
theorem dX2_readSum_45 : decode cX2_readSum 45 = .ok (.invokevirtual 31, 3) := by decide +kernel
theorem dX2_readSum_48 : decode cX2_readSum 48 = .ok (.aload_n 0, 1) := by decide +kernel
theorem dX2_readSum_49 : decode cX2_readSum 49 = .ok (.iload_n 1, 1) := by decide +kernel
theorem dX2_readSum_50 : decode cX2_readSum 50 = .ok (.invokevirtual 57, 3) := by decide +kernel
theorem dX2_readSum_53 : decode cX2_readSum 53 = .ok (.istore_n 2, 1) := by decide +kernel
theorem dX2_readSum_54 : decode cX2_readSum 54 = .ok (.aload_n 0, 1) := by decide +kernel
theorem dX2_readSum_55 : decode cX2_readSum 55 = .ok (.getfield 15, 3) := by decide +kernel
theorem dX2_readSum_58 : decode cX2_readSum 58 = .ok (.sipush 20000, 3) := by decide +kernel
theorem dX2_readSum_61 : decode cX2_readSum 61 = .ok (.iload 4, 2) := by decide +kernel
theorem dX2_readSum_63 : decode cX2_readSum 63 = .ok (.iadd, 1) := by decide +kernel
theorem dX2_readSum_64 : decode cX2_readSum 64 = .ok (.invokevirtual 36, 3) := by decide +kernel
theorem dX2_readSum_67 : decode cX2_readSum 67 = .ok (.iinc 3 1, 3) := by decide +kernel
theorem dX2_readSum_70 : decode cX2_readSum 70 = .ok (.goto (-62), 3) := by decide +kernel
theorem dX2_readSum_73 : decode cX2_readSum 73 = .ok (.iload_n 2, 1) := by decide +kernel
theorem dX2_readSum_74 : decode cX2_readSum 74 = .ok (.ireturn, 1) := by decide +kernel
abbrev mi_X2_readSum (kk : Nat) : MI := (zTX, RX2, yX2_readSum, cX2_readSum, 5, (some .boolean), 40 + 6 * kk + 3)
theorem calz_X2_readSum : zCalV (mi_X2_readSum 0) 1 := ⟨⟨zTB_i3 204 (by decide +kernel), zTB_i3 203 (by decide +kernel), zTB_i0 19 (by decide +kernel), zTB_i1 7 (by decide +kernel)⟩, ⟨by decide, by decide, by decide +kernel⟩, by decide⟩
theorem cal_X2_readSum {kk : Nat} : zCalV (mi_X2_readSum kk) 1 := calz_X2_readSum
theorem dX2_readOne_0 : decode cX2_readOne 0 = .ok (.aload_n 0, 1) := by decide +kernel
theorem dX2_readOne_1 : decode cX2_readOne 1 = .ok (.getfield 9, 3) := by decide +kernel
theorem dX2_readOne_4 : decode cX2_readOne 4 = .ok (.ldc 45, 2) := by decide +kernel
theorem dX2_readOne_6 : decode cX2_readOne 6 = .ok (.invokevirtual 25, 3) := by decide +kernel
theorem dX2_readOne_9 : decode cX2_readOne 9 = .ok (.ifCond .eq 45, 3) := by decide +kernel
theorem dX2_readOne_12 : decode cX2_readOne 12 = .ok (.iload_n 1, 1) := by decide +kernel
theorem dX2_readOne_13 : decode cX2_readOne 13 = .ok (.bipush 7, 2) := by decide +kernel
theorem dX2_readOne_15 : decode cX2_readOne 15 = .ok (.if_icmp .lt 12, 3) := by decide +kernel
theorem dX2_readOne_18 : decode cX2_readOne 18 = .ok (.aload_n 0, 1) := by decide +kernel
theorem dX2_readOne_19 : decode cX2_readOne 19 = .ok (.getfield 9, 3) := by decide +kernel
theorem dX2_readOne_22 : decode cX2_readOne 22 = .ok (.iconst 2, 1) := by decide +kernel
theorem dX2_readOne_23 : decode cX2_readOne 23 = .ok (.invokevirtual 47, 3) := by decide +kernel
theorem dX2_readOne_26 : decode cX2_readOne 26 = .ok (.ireturn, 1) := by decide +kernel
theorem dX2_readOne_27 : decode cX2_readOne 27 = .ok (.aload_n 0, 1) := by decide +kernel
theorem dX2_readOne_28 : decode cX2_readOne 28 = .ok (.getfield 9, 3) := by decide +kernel
theorem dX2_readOne_31 : decode cX2_readOne 31 = .ok (.invokevirtual 31, 3) := by decide +kernel
theorem dX2_readOne_34 : decode cX2_readOne 34 = .ok (.aload_n 0, 1) := by decide +kernel
theorem dX2_readOne_35 : decode cX2_readOne 35 = .ok (.iload_n 1, 1) := by decide +kernel
theorem dX2_readOne_36 : decode cX2_readOne 36 = .ok (.iconst 1, 1) := by decide +kernel
theorem dX2_readOne_37 : decode cX2_readOne 37 = .ok (.iadd, 1) := by decide +kernel
theorem dX2_readOne_38 : decode cX2_readOne 38 = .ok (.invokevirtual 40, 3) := by decide +kernel
theorem dX2_readOne_41 : decode cX2_readOne 41 = .ok (.istore_n 2, 1) := by decide +kernel
theorem dX2_readOne_42 : decode cX2_readOne 42 = .ok (.aload_n 0, 1) := by decide +kernel
theorem dX2_readOne_43 : decode cX2_readOne 43 = .ok (.getfield 15, 3) := by decide +kernel
theorem dX2_readOne_46 : decode cX2_readOne 46 = .ok (.sipush 20033, 3) := by decide +kernel
theorem dX2_readOne_49 : decode cX2_readOne 49 = .ok (.invokevirtual 36, 3) := by decide +kernel
theorem dX2_readOne_52 : decode cX2_readOne 52 = .ok (.iload_n 2, 1) := by decide +kernel
theorem dX2_readOne_53 : decode cX2_readOne 53 = .ok (.ireturn, 1) := by decide +kernel
theorem dX2_readOne_54 : decode cX2_readOne 54 = .ok (.aload_n 0, 1) := by decide +kernel
theorem dX2_readOne_55 : decode cX2_readOne 55 = .ok (.iload_n 1, 1) := by decide +kernel
theorem dX2_readOne_56 : decode cX2_readOne 56 = .ok (.invokevirtual 50, 3) := by decide +kernel
theorem dX2_readOne_59 : decode cX2_readOne 59 = .ok (.istore_n 2, 1) := by decide +kernel
theorem dX2_readOne_60 : decode cX2_readOne 60 = .ok (.aload_n 0, 1) := by decide +kernel
theorem dX2_readOne_61 : decode cX2_readOne 61 = .ok (.getfield 9, 3) := by decide +kernel
theorem dX2_readOne_64 : decode cX2_readOne 64 = .ok (.getfield 53, 3) := by decide +kernel
theorem dX2_readOne_67 : decode cX2_readOne 67 = .ok (.istore_n 3, 1) := by decide +kernel
theorem dX2_readOne_68 : decode cX2_readOne 68 = .ok (.iload_n 2, 1) := by decide +kernel
theorem dX2_readOne_69 : decode cX2_readOne 69 = .ok (.ifCond .eq 46, 3) := by decide +kernel
theorem dX2_readOne_72 : decode cX2_readOne 72 = .ok (.iload_n 3, 1) := by decide +kernel
theorem dX2_readOne_73 : decode cX2_readOne 73 = .ok (.bipush 60, 2) := by decide +kernel
theorem dX2_readOne_75 : decode cX2_readOne 75 = .ok (.if_icmp .eq 15, 3) := by decide +kernel
theorem dX2_readOne_78 : decode cX2_readOne 78 = .ok (.iload_n 3, 1) := by decide +kernel
theorem dX2_readOne_79 : decode cX2_readOne 79 = .ok (.bipush 62, 2) := by decide +kernel
theorem dX2_readOne_81 : decode cX2_readOne 81 = .ok (.if_icmp .eq 9, 3) := by decide +kernel
theorem dX2_readOne_84 : decode cX2_readOne 84 = .ok (.iload_n 3, 1) := by decide +kernel
theorem dX2_readOne_85 : decode cX2_readOne 85 = .ok (.bipush 61, 2) := by decide +kernel
theorem dX2_readOne_87 : decode cX2_readOne 87 = .ok (.if_icmp .ne 28, 3) := by decide +kernel
theorem dX2_readOne_90 : decode cX2_readOne 90 = .ok (.aload_n 0, 1) := by decide +kernel
theorem dX2_readOne_91 : decode cX2_readOne 91 = .ok (.getfield 9, 3) := by decide +kernel
theorem dX2_readOne_94 : decode cX2_readOne 94 = .ok (.invokevirtual 31, 3) := by decide +kernel
theorem dX2_readOne_97 : decode cX2_readOne 97 = .ok (.aload_n 0, 1) := by decide +kernel
theorem dX2_readOne_98 : decode cX2_readOne 98 = .ok (.iload_n 1, 1) := by decide +kernel
theorem dX2_readOne_99 : decode cX2_readOne 99 = .ok (.invokevirtual 50, 3) := by decide +kernel
theorem dX2_readOne_102 : decode cX2_readOne 102 = .ok (.istore_n 2, 1) := by decide +kernel
theorem dX2_readOne_103 : decode cX2_readOne 103 = .ok (.aload_n 0, 1) := by decide +kernel
theorem dX2_readOne_104 : decode cX2_readOne 104 = .ok (.getfield 15, 3) := by decide +kernel
theorem dX2_readOne_107 : decode cX2_readOne 107 = .ok (.sipush 20000, 3) := by decide +kernel
theorem dX2_readOne_110 : decode cX2_readOne 110 = .ok (.iload_n 3, 1) := by decide +kernel
theorem dX2_readOne_111 : decode cX2_readOne 111 = .ok (.iadd, 1) := by decide +kernel
theorem dX2_readOne_112 : decode cX2_readOne 112 = .ok (.invokevirtual 36, 3) := by decide +kernel
theorem dX2_readOne_115 : decode cX2_readOne 115 = .ok (.iload_n 2, 1) := by decide +kernel
theorem dX2_readOne_116 : decode cX2_readOne 116 = .ok (.ireturn, 1) := by decide +kernel
abbrev mi_X2_readOne (kk : Nat) : MI := (zTX, RX2, yX2_readOne, cX2_readOne, 4, (some .boolean), 40 + 6 * kk + 4)
theorem calz_X2_readOne : zCalV (mi_X2_readOne 0) 1 := ⟨⟨zTB_i3 192 (by decide +kernel), zTB_i3 191 (by decide +kernel), zTB_i0 18 (by decide +kernel), zTB_i1 7 (by decide +kernel)⟩, ⟨by decide, by decide, by decide +kernel⟩, by decide⟩
theorem cal_X2_readOne {kk : Nat} : zCalV (mi_X2_readOne kk) 1 := calz_X2_readOne
theorem dX2_readBoth_0 : decode cX2_readBoth 0 = .ok (.aload_n 0, 1) := by decide +kernel
theorem dX2_readBoth_1 : decode cX2_readBoth 1 = .ok (.iload_n 1, 1) := by decide +kernel
theorem dX2_readBoth_2 : decode cX2_readBoth 2 = .ok (.invokevirtual 40, 3) := by decide +kernel
theorem dX2_readBoth_5 : decode cX2_readBoth 5 = .ok (.istore_n 2, 1) := by decide +kernel
theorem dX2_readBoth_6 : decode cX2_readBoth 6 = .ok (.iconst 0, 1) := by decide +kernel
theorem dX2_readBoth_7 : decode cX2_readBoth 7 = .ok (.istore_n 3, 1) := by decide +kernel
theorem dX2_readBoth_8 : decode cX2_readBoth 8 = .ok (.iload_n 3, 1) := by decide +kernel
theorem dX2_readBoth_9 : decode cX2_readBoth 9 = .ok (.sipush 1600, 3) := by decide +kernel
theorem dX2_readBoth_12 : decode cX2_readBoth 12 = .ok (.if_icmp .ge 48, 3) := by decide +kernel
theorem dX2_readBoth_15 : decode cX2_readBoth 15 = .ok (.iload_n 2, 1) := by decide +kernel
theorem dX2_readBoth_16 : decode cX2_readBoth 16 = .ok (.ifCond .eq 44, 3) := by decide +kernel
theorem dX2_readBoth_19 : decode cX2_readBoth 19 = .ok (.aload_n 0, 1) := by decide +kernel
theorem dX2_readBoth_20 : decode cX2_readBoth 20 = .ok (.getfield 9, 3) := by decide +kernel
theorem dX2_readBoth_23 : decode cX2_readBoth 23 = .ok (.ldc 43, 2) := by decide +kernel
theorem dX2_readBoth_25 : decode cX2_readBoth 25 = .ok (.invokevirtual 25, 3) := by decide +kernel
theorem dX2_readBoth_28 : decode cX2_readBoth 28 = .ok (.ifCond .eq 32, 3) := by decide +kernel
theorem dX2_readBoth_31 : decode cX2_readBoth 31 = .ok (.aload_n 0, 1) := by decide +kernel
theorem dX2_readBoth_32 : decode cX2_readBoth 32 = .ok (.getfield 9, 3) := by decide +kernel
theorem dX2_readBoth_35 : decode cX2_readBoth 35 = .ok (.invokevirtual 31, 3) := by decide +kernel
theorem dX2_readBoth_38 : decode cX2_readBoth 38 = .ok (.aload_n 0, 1) := by decide +kernel
theorem dX2_readBoth_39 : decode cX2_readBoth 39 = .ok (.iload_n 1, 1) := by decide +kernel
theorem dX2_readBoth_40 : decode cX2_readBoth 40 = .ok (.invokevirtual 40, 3) := by decide +kernel
theorem dX2_readBoth_43 : decode cX2_readBoth 43 = .ok (.istore_n 2, 1) := by decide +kernel
theorem dX2_readBoth_44 : decode cX2_readBoth 44 = .ok (.aload_n 0, 1) := by decide +kernel
theorem dX2_readBoth_45 : decode cX2_readBoth 45 = .ok (.getfield 15, 3) := by decide +kernel
theorem dX2_readBoth_48 : decode cX2_readBoth 48 = .ok (.sipush 20038, 3) := by decide +kernel
theorem dX2_readBoth_51 : decode cX2_readBoth 51 = .ok (.invokevirtual 36, 3) := by decide +kernel
theorem dX2_readBoth_54 : decode cX2_readBoth 54 = .ok (.iinc 3 1, 3) := by decide +kernel
theorem dX2_readBoth_57 : decode cX2_readBoth 57 = .ok (.goto (-49), 3) := by decide +kernel
theorem dX2_readBoth_60 : decode cX2_readBoth 60 = .ok (.iload_n 2, 1) := by decide +kernel
theorem dX2_readBoth_61 : decode cX2_readBoth 61 = .ok (.ireturn, 1) := by decide +kernel
abbrev mi_X2_readBoth (kk : Nat) : MI := (zTX, RX2, yX2_readBoth, cX2_readBoth, 4, (some .boolean), 40 + 6 * kk + 5)
theorem calz_X2_readBoth : zCalV (mi_X2_readBoth 0) 1 := ⟨⟨zTB_i3 188 (by decide +kernel), zTB_i3 187 (by decide +kernel), zTB_i0 17 (by decide +kernel), zTB_i1 7 (by decide +kernel)⟩, ⟨by decide, by decide, by decide +kernel⟩, by decide⟩
theorem cal_X2_readBoth {kk : Nat} : zCalV (mi_X2_readBoth kk) 1 := calz_X2_readBoth
theorem dX2_readEither_0 : decode cX2_readEither 0 = .ok (.aload_n 0, 1) := by decide +kernel
theorem dX2_readEither_1 : decode cX2_readEither 1 = .ok (.iload_n 1, 1) := by decide +kernel
theorem dX2_readEither_2 : decode cX2_readEither 2 = .ok (.invokevirtual 19, 3) := by decide +kernel
theorem dX2_readEither_5 : decode cX2_readEither 5 = .ok (.istore_n 2, 1) := by decide +kernel
theorem dX2_readEither_6 : decode cX2_readEither 6 = .ok (.iconst 0, 1) := by decide +kernel
theorem dX2_readEither_7 : decode cX2_readEither 7 = .ok (.istore_n 3, 1) := by decide +kernel
theorem dX2_readEither_8 : decode cX2_readEither 8 = .ok (.iload_n 3, 1) := by decide +kernel
theorem dX2_readEither_9 : decode cX2_readEither 9 = .ok (.sipush 1600, 3) := by decide +kernel
theorem dX2_readEither_12 : decode cX2_readEither 12 = .ok (.if_icmp .ge 48, 3) := by decide +kernel
theorem dX2_readEither_15 : decode cX2_readEither 15 = .ok (.iload_n 2, 1) := by decide +kernel
theorem dX2_readEither_16 : decode cX2_readEither 16 = .ok (.ifCond .eq 44, 3) := by decide +kernel
theorem dX2_readEither_19 : decode cX2_readEither 19 = .ok (.aload_n 0, 1) := by decide +kernel
theorem dX2_readEither_20 : decode cX2_readEither 20 = .ok (.getfield 9, 3) := by decide +kernel
theorem dX2_readEither_23 : decode cX2_readEither 23 = .ok (.ldc 23, 2) := by decide +kernel
theorem dX2_readEither_25 : decode cX2_readEither 25 = .ok (.invokevirtual 25, 3) := by decide +kernel
theorem dX2_readEither_28 : decode cX2_readEither 28 = .ok (.ifCond .eq 32, 3) := by decide +kernel
theorem dX2_readEither_31 : decode cX2_readEither 31 = .ok (.aload_n 0, 1) := by decide +kernel
theorem dX2_readEither_32 : decode cX2_readEither 32 = .ok (.getfield 9, 3) := by decide +kernel
theorem dX2_readEither_35 : decode cX2_readEither 35 = .ok (.invokevirtual 31, 3) := by decide +kernel
theorem dX2_readEither_38 : decode cX2_readEither 38 = .ok (.aload_n 0, 1) := by decide +kernel
theorem dX2_readEither_39 : decode cX2_readEither 39 = .ok (.iload_n 1, 1) := by decide +kernel
theorem dX2_readEither_40 : decode cX2_readEither 40 = .ok (.invokevirtual 19, 3) := by decide +kernel
theorem dX2_readEither_43 : decode cX2_readEither 43 = .ok (.istore_n 2, 1) := by decide +kernel
theorem dX2_readEither_44 : decode cX2_readEither 44 = .ok (.aload_n 0, 1) := by decide +kernel
theorem dX2_readEither_45 : decode cX2_readEither 45 = .ok (.getfield 15, 3) := by decide +kernel
theorem dX2_readEither_48 : decode cX2_readEither 48 = .ok (.sipush 20124, 3) := by decide +kernel
theorem dX2_readEither_51 : decode cX2_readEither 51 = .ok (.invokevirtual 36, 3) := by decide +kernel
theorem dX2_readEither_54 : decode cX2_readEither 54 = .ok (.iinc 3 1, 3) := by decide +kernel
theorem dX2_readEither_57 : decode cX2_readEither 57 = .ok (.goto (-49), 3) := by decide +kernel
theorem dX2_readEither_60 : decode cX2_readEither 60 = .ok (.iload_n 2, 1) := by decide +kernel
theorem dX2_readEither_61 : decode cX2_readEither 61 = .ok (.ireturn, 1) := by decide +kernel
abbrev mi_X2_readEither (kk : Nat) : MI := (zTX, RX2, yX2_readEither, cX2_readEither, 4, (some .boolean), 40 + 6 * kk + 6)
theorem calz_X2_readEither : zCalV (mi_X2_readEither 0) 1 := ⟨⟨zTB_i3 184 (by decide +kernel), zTB_i3 183 (by decide +kernel), zTB_i0 16 (by decide +kernel), zTB_i1 7 (by decide +kernel)⟩, ⟨by decide, by decide, by decide +kernel⟩, by decide⟩
theorem cal_X2_readEither {kk : Nat} : zCalV (mi_X2_readEither kk) 1 := calz_X2_readEither
noncomputable def X2_readUnit (fE : Int32 → Mem → Option (Bool × Mem)) (x1 : Int32) (M : Mem) : Option (Bool × Mem) :=
  l1_ (α := Int32) (
    if (M.1 16 1) = 40 then
      1
    else
    0) fun y2 =>
  b1_ (α := Int32) (
    if y2 = 0 then
      bo_ (X2_leafTold M) fun v4 =>
      some v4
    else
    some (-1)) fun y5 =>
  l1_ (α := Bool) (
    if y2 = 0 then
      if y5 = (-1) then
        false
      else
      true
    else
    true) fun t8 =>
  if t8 = true then
    if (M.1 13 3) < 30 then
      l1_ (α := Bool) (
        if y2 = 0 then
          true
        else
        if x1 < 7 then
          true
        else
        false) fun t13 =>
      if t13 = true then
        lt_ (uI M 13 3 ((M.1 13 3) + 1)) fun M15 =>
        bo_ (X6_step M15) fun M16 =>
        if y2 = 0 then
          lt_ (X1_write 13 y5 M16) fun M25 =>
          some (true, M25)
        else
        bp_ (fE (x1 + 1) M16) fun b18 M19 =>
        if b18 = true then
          if (M19.1 16 1) = 41 then
            bo_ (X6_step M19) fun M22 =>
            some (true, M22)
          else
          lp_ (X6_refuse 2 M19) fun b23 M24 =>
          some (b23, M24)
        else
        some (false, M19)
      else
      lp_ (X6_refuse 2 M) fun b26 M27 =>
      some (b26, M27)
    else
    lp_ (X6_refuse 2 M) fun b28 M29 =>
    some (b28, M29)
  else
  lp_ (X6_refuse 2 M) fun b30 M31 =>
  some (b30, M31)
set_option maxRecDepth 100000 in
set_option maxHeartbeats 4000000 in
theorem X2_readUnit_ok (G : Gh) {kk : Nat} {fE : Int32 → Mem → Option (Bool × Mem)} (hfE : ∀ (x1 : Int32) (M : Mem), Mt G (mi_X2_readEither kk) [.ref (G.2.2.2 (17)), .int x1] M (dO dZM (fE x1 M))) (x1 : Int32) (M : Mem) : Mt G (mi_X2_readUnit (kk + 1)) [.ref (G.2.2.2 (17)), .int x1] M ((dO dZM) (X2_readUnit fE x1 M)) := by
  refine Mt_of (lv := [some (.ref (G.2.2.2 (17))), some (.int x1)]) (show plainName RX2 = true by decide) rfl (Nat.le_of_ble_eq_true rfl) rfl ?_
  refine r_le (lv' := [some (.ref (G.2.2.2 (17))), some (.int x1), none, none]) (And.intro rfl (And.intro rfl True.intro)) ?_
  unfold X2_readUnit
  refine r_aload_n dX2_readUnit_0 rfl ?_
  refine r_getf (v := .ref (G.2.2.2 (16))) dX2_readUnit_1 fX_17_0 kX2 (by decide) lkf_X2_9 rfl ?_
  refine r_getf (v := .int (M.1 16 1)) dX2_readUnit_4 fX_16_1 kX6 (by decide) lkf_X2_53 rfl ?_
  refine r_bipush (x := 40) dX2_readUnit_7 rfl ?_
  refine r_jL1 (j := 17) (lvj := fun y2 => [some (.ref (G.2.2.2 (17))), some (.int x1), none, none]) (stj := fun y2 => [.int y2]) (Mj := fun y2 => M) (fun y2 => ?_) (fun hj17 => ?_)
  · refine r_istore_n (lv' := [some (.ref (G.2.2.2 (17))), some (.int x1), some (.int y2), none]) dX2_readUnit_17 (Nat.le_of_ble_eq_true rfl) rfl rfl ?_
    refine r_iload_n dX2_readUnit_18 rfl ?_
    refine r_jB1 (j := 30) (lvj := fun y5 => [some (.ref (G.2.2.2 (17))), some (.int x1), some (.int y2), none]) (stj := fun y5 => [.int y5]) (Mj := fun y5 => M) (fun y5 => ?_) (fun hj30 => ?_)
    · refine r_istore_n (lv' := [some (.ref (G.2.2.2 (17))), some (.int x1), some (.int y2), some (.int y5)]) dX2_readUnit_30 (Nat.le_of_ble_eq_true rfl) rfl rfl ?_
      refine r_iload_n dX2_readUnit_31 rfl ?_
      refine r_cL (jX := 40) (jY := 52) (lvX := [some (.ref (G.2.2.2 (17))), some (.int x1), some (.int y2), some (.int y5)]) (lvY := [some (.ref (G.2.2.2 (17))), none, none, none]) (stX := []) (M1 := M) (fun h9 => ?_) (fun h9 => ?_) (fun hX40 hY52 => ?_)
      · refine r_eq (if_pos rfl) ?_
        refine r_aload_n dX2_readUnit_40 rfl ?_
        refine r_getf (v := .ref (G.2.2.2 (13))) dX2_readUnit_41 fX_17_1 kX2 (by decide) lkf_X2_15 rfl ?_
        refine r_getf (v := .int (M.1 13 3)) dX2_readUnit_44 fX_13_3 kX1 (by decide) lkf_X2_73 rfl ?_
        refine r_bipush (x := 30) dX2_readUnit_47 rfl ?_
        refine r_icmp_lt (tgt := 61) dX2_readUnit_49 rfl (fun h10 => ?_) (fun h10 => ?_)
        · refine r_iload_n dX2_readUnit_61 rfl ?_
          refine r_cL (jX := 80) (jY := 71) (lvX := [some (.ref (G.2.2.2 (17))), some (.int x1), some (.int y2), some (.int y5)]) (lvY := [some (.ref (G.2.2.2 (17))), none, none, none]) (stX := []) (M1 := M) (fun h14 => ?_) (fun h14 => ?_) (fun hX80 hY71 => ?_)
          · refine r_eq (if_pos rfl) ?_
            refine r_aload_n dX2_readUnit_80 rfl ?_
            refine r_getf (v := .ref (G.2.2.2 (13))) dX2_readUnit_81 fX_17_1 kX2 (by decide) lkf_X2_15 rfl ?_
            refine r_dup dX2_readUnit_84 rfl ?_
            refine r_getf (v := .int (M.1 13 3)) dX2_readUnit_85 fX_13_3 kX1 (by decide) lkf_X2_73 rfl ?_
            refine r_iconst (x := 1) dX2_readUnit_88 rfl ?_
            refine r_iadd dX2_readUnit_89 ?_
            refine r_putI dX2_readUnit_90 fX_13_3 kX1 (by decide) rfl rfl lkf_X2_73 (fun _ => rfl) rfl rfl (fun M15 => ?_)
            refine r_aload_n dX2_readUnit_93 rfl ?_
            refine r_getf (v := .ref (G.2.2.2 (16))) dX2_readUnit_94 fX_17_0 kX2 (by decide) lkf_X2_9 rfl ?_
            refine c_OV rfl (inv_V (mi := (mi_X2_readUnit (kk + 1))) (b := 16) (rest := []) (X6_step_ok G M15) rfl (by show 4 + 1 ≤ (40 + 6 * (kk + 1) + 1); omega) dX2_readUnit_97 lkm_X2_31 cal_X6_step cX_16 rfl rfl (Nat.le_of_ble_eq_true rfl) rfl) (fun M16 => ?_)
            refine r_iload_n dX2_readUnit_100 rfl ?_
            refine r_if_ne (tgt := 114) dX2_readUnit_101 rfl (fun h17 => ?_) (fun h17 => ?_)
            · refine r_aload_n dX2_readUnit_104 rfl ?_
              refine r_getf (v := .ref (G.2.2.2 (13))) dX2_readUnit_105 fX_17_1 kX2 (by decide) lkf_X2_15 rfl ?_
              refine r_iload_n dX2_readUnit_108 rfl ?_
              refine c_V (inv_V (mi := (mi_X2_readUnit (kk + 1))) (b := 13) (rest := []) (X1_write_ok_13 G y5 M16) rfl (by show 2 + 1 ≤ (40 + 6 * (kk + 1) + 1); omega) dX2_readUnit_109 lkm_X2_36 cal_X1_write cX_13 rfl rfl (Nat.le_of_ble_eq_true rfl) rfl) (fun M25 => ?_)
              refine r_iconst (x := 1) dX2_readUnit_112 rfl ?_
              exact r_iret (ty := .boolean) dX2_readUnit_113 rfl rfl rfl
            refine r_aload_n dX2_readUnit_114 rfl ?_
            refine r_iload_n dX2_readUnit_115 rfl ?_
            refine r_iconst (x := 1) dX2_readUnit_116 rfl ?_
            refine r_iadd dX2_readUnit_117 ?_
            refine c_OZM rfl (inv_V (mi := (mi_X2_readUnit (kk + 1))) (b := 17) (rest := []) (hfE (x1 + 1) M16) rfl (by show (40 + 6 * kk + 6) + 1 ≤ (40 + 6 * (kk + 1) + 1); omega) dX2_readUnit_118 lkm_X2_76 cal_X2_readEither cX_17 rfl rfl (Nat.le_of_ble_eq_true rfl) rfl) (fun b18 M19 => ?_)
            refine r_ifz_ne (tgt := 126) dX2_readUnit_121 rfl (fun h20 => ?_) (fun h20 => ?_)
            · refine r_aload_n dX2_readUnit_126 rfl ?_
              refine r_getf (v := .ref (G.2.2.2 (16))) dX2_readUnit_127 fX_17_0 kX2 (by decide) lkf_X2_9 rfl ?_
              refine r_getf (v := .int (M19.1 16 1)) dX2_readUnit_130 fX_16_1 kX6 (by decide) lkf_X2_53 rfl ?_
              refine r_bipush (x := 41) dX2_readUnit_133 rfl ?_
              refine r_icmp_eq (tgt := 147) dX2_readUnit_135 rfl (fun h21 => ?_) (fun h21 => ?_)
              · refine r_aload_n dX2_readUnit_147 rfl ?_
                refine r_getf (v := .ref (G.2.2.2 (16))) dX2_readUnit_148 fX_17_0 kX2 (by decide) lkf_X2_9 rfl ?_
                refine c_OV rfl (inv_V (mi := (mi_X2_readUnit (kk + 1))) (b := 16) (rest := []) (X6_step_ok G M19) rfl (by show 4 + 1 ≤ (40 + 6 * (kk + 1) + 1); omega) dX2_readUnit_151 lkm_X2_31 cal_X6_step cX_16 rfl rfl (Nat.le_of_ble_eq_true rfl) rfl) (fun M22 => ?_)
                refine r_iconst (x := 1) dX2_readUnit_154 rfl ?_
                exact r_iret (ty := .boolean) dX2_readUnit_155 rfl rfl rfl
              refine r_aload_n dX2_readUnit_138 rfl ?_
              refine r_getf (v := .ref (G.2.2.2 (16))) dX2_readUnit_139 fX_17_0 kX2 (by decide) lkf_X2_9 rfl ?_
              refine r_iconst (x := 2) dX2_readUnit_142 rfl ?_
              refine c_ZM (inv_V (mi := (mi_X2_readUnit (kk + 1))) (b := 16) (rest := []) (X6_refuse_ok G 2 M19) rfl (by show 2 + 1 ≤ (40 + 6 * (kk + 1) + 1); omega) dX2_readUnit_143 lkm_X2_47 cal_X6_refuse cX_16 rfl rfl (Nat.le_of_ble_eq_true rfl) rfl) (fun b23 M24 => ?_)
              exact r_iret (ty := .boolean) dX2_readUnit_146 rfl (b2i_n _) rfl
            refine r_iconst (x := 0) dX2_readUnit_124 rfl ?_
            exact r_iret (ty := .boolean) dX2_readUnit_125 rfl rfl rfl
          · refine r_eq (if_neg (by decide)) ?_
            refine r_aload_n dX2_readUnit_71 rfl ?_
            refine r_getf (v := .ref (G.2.2.2 (16))) dX2_readUnit_72 fX_17_0 kX2 (by decide) lkf_X2_9 rfl ?_
            refine r_iconst (x := 2) dX2_readUnit_75 rfl ?_
            refine c_ZM (inv_V (mi := (mi_X2_readUnit (kk + 1))) (b := 16) (rest := []) (X6_refuse_ok G 2 M) rfl (by show 2 + 1 ≤ (40 + 6 * (kk + 1) + 1); omega) dX2_readUnit_76 lkm_X2_47 cal_X6_refuse cX_16 rfl rfl (Nat.le_of_ble_eq_true rfl) rfl) (fun b26 M27 => ?_)
            exact r_iret (ty := .boolean) dX2_readUnit_79 rfl (b2i_n _) rfl
          refine r_if_eq (tgt := 80) dX2_readUnit_62 rfl (fun h11 => ?_) (fun h11 => ?_)
          · exact r_lk hX80 (And.intro rfl (And.intro rfl (And.intro rfl (And.intro rfl True.intro))))
          refine r_iload_n dX2_readUnit_65 rfl ?_
          refine r_bipush (x := 7) dX2_readUnit_66 rfl ?_
          refine r_icmp_lt (tgt := 80) dX2_readUnit_68 rfl (fun h12 => ?_) (fun h12 => ?_)
          · exact r_lk hX80 (And.intro rfl (And.intro rfl (And.intro rfl (And.intro rfl True.intro))))
          exact r_lk hY71 (And.intro rfl True.intro)
        refine r_aload_n dX2_readUnit_52 rfl ?_
        refine r_getf (v := .ref (G.2.2.2 (16))) dX2_readUnit_53 fX_17_0 kX2 (by decide) lkf_X2_9 rfl ?_
        refine r_iconst (x := 2) dX2_readUnit_56 rfl ?_
        refine c_ZM (inv_V (mi := (mi_X2_readUnit (kk + 1))) (b := 16) (rest := []) (X6_refuse_ok G 2 M) rfl (by show 2 + 1 ≤ (40 + 6 * (kk + 1) + 1); omega) dX2_readUnit_57 lkm_X2_47 cal_X6_refuse cX_16 rfl rfl (Nat.le_of_ble_eq_true rfl) rfl) (fun b28 M29 => ?_)
        exact r_iret (ty := .boolean) dX2_readUnit_60 rfl (b2i_n _) rfl
      · refine r_eq (if_neg (by decide)) ?_
        refine r_aload_n dX2_readUnit_52 rfl ?_
        refine r_getf (v := .ref (G.2.2.2 (16))) dX2_readUnit_53 fX_17_0 kX2 (by decide) lkf_X2_9 rfl ?_
        refine r_iconst (x := 2) dX2_readUnit_56 rfl ?_
        refine c_ZM (inv_V (mi := (mi_X2_readUnit (kk + 1))) (b := 16) (rest := []) (X6_refuse_ok G 2 M) rfl (by show 2 + 1 ≤ (40 + 6 * (kk + 1) + 1); omega) dX2_readUnit_57 lkm_X2_47 cal_X6_refuse cX_16 rfl rfl (Nat.le_of_ble_eq_true rfl) rfl) (fun b30 M31 => ?_)
        exact r_iret (ty := .boolean) dX2_readUnit_60 rfl (b2i_n _) rfl
      refine r_if_ne (tgt := 40) dX2_readUnit_32 rfl (fun h6 => ?_) (fun h6 => ?_)
      · refine r_iload_n dX2_readUnit_35 rfl ?_
        refine r_iconst (x := (-1)) dX2_readUnit_36 rfl ?_
        refine r_icmp_eq (tgt := 52) dX2_readUnit_37 rfl (fun h7 => ?_) (fun h7 => ?_)
        · exact r_lk hY52 (And.intro rfl True.intro)
        exact r_lk hX40 (And.intro rfl (And.intro rfl (And.intro rfl (And.intro rfl True.intro))))
      exact r_lk hX40 (And.intro rfl (And.intro rfl (And.intro rfl (And.intro rfl True.intro))))
    refine r_if_eq (tgt := 26) dX2_readUnit_19 rfl (fun h3 => ?_) (fun h3 => ?_)
    · refine r_aload_n dX2_readUnit_26 rfl ?_
      refine c_OI rfl (inv_V (mi := (mi_X2_readUnit (kk + 1))) (b := 17) (rest := []) (X2_leafTold_ok G M) rfl (by show 9 + 1 ≤ (40 + 6 * (kk + 1) + 1); omega) dX2_readUnit_27 lkm_X2_69 cal_X2_leafTold cX_17 rfl rfl (Nat.le_of_ble_eq_true rfl) rfl) (fun v4 => ?_)
      exact r_lk (hj30 v4) (And.intro rfl (And.intro rfl (And.intro rfl True.intro)))
    refine r_iconst (x := (-1)) dX2_readUnit_22 rfl ?_
    refine r_goto (tgt := 30) dX2_readUnit_23 rfl ?_
    exact r_lk (hj30 (-1)) (And.intro rfl (And.intro rfl (And.intro rfl True.intro)))
  refine r_icmp_ne (tgt := 16) dX2_readUnit_9 rfl (fun h1 => ?_) (fun h1 => ?_)
  · refine r_iconst (x := 1) dX2_readUnit_12 rfl ?_
    refine r_goto (tgt := 17) dX2_readUnit_13 rfl ?_
    exact r_lk (hj17 1) (And.intro rfl (And.intro rfl True.intro))
  refine r_iconst (x := 0) dX2_readUnit_16 rfl ?_
  exact r_lk (hj17 0) (And.intro rfl (And.intro rfl True.intro))

theorem dX2_isTermSign_0 : decode cX2_isTermSign 0 = .ok (.iload_n 0, 1) := by decide +kernel
theorem dX2_isTermSign_1 : decode cX2_isTermSign 1 = .ok (.bipush 42, 2) := by decide +kernel
theorem dX2_isTermSign_3 : decode cX2_isTermSign 3 = .ok (.if_icmp .eq 15, 3) := by decide +kernel
theorem dX2_isTermSign_6 : decode cX2_isTermSign 6 = .ok (.iload_n 0, 1) := by decide +kernel
theorem dX2_isTermSign_7 : decode cX2_isTermSign 7 = .ok (.bipush 47, 2) := by decide +kernel
theorem dX2_isTermSign_9 : decode cX2_isTermSign 9 = .ok (.if_icmp .eq 9, 3) := by decide +kernel
theorem dX2_isTermSign_12 : decode cX2_isTermSign 12 = .ok (.iload_n 0, 1) := by decide +kernel
theorem dX2_isTermSign_13 : decode cX2_isTermSign 13 = .ok (.bipush 37, 2) := by decide +kernel
theorem dX2_isTermSign_15 : decode cX2_isTermSign 15 = .ok (.if_icmp .ne 7, 3) := by decide +kernel
theorem dX2_isTermSign_18 : decode cX2_isTermSign 18 = .ok (.iconst 1, 1) := by decide +kernel
theorem dX2_isTermSign_19 : decode cX2_isTermSign 19 = .ok (.goto 4, 3) := by decide +kernel
theorem dX2_isTermSign_22 : decode cX2_isTermSign 22 = .ok (.iconst 0, 1) := by decide +kernel
theorem dX2_isTermSign_23 : decode cX2_isTermSign 23 = .ok (.ireturn, 1) := by decide +kernel
abbrev mi_X2_isTermSign : MI := (zTX, RX2, yX2_isTermSign, cX2_isTermSign, 1, (some .boolean), 2)
theorem cal_X2_isTermSign : zCalS mi_X2_isTermSign 1 := ⟨⟨zTB_i3 226 (by decide +kernel), zTB_i3 225 (by decide +kernel), zTB_i1 7 (by decide +kernel)⟩, ⟨by decide, by decide, by decide +kernel⟩, by decide⟩
noncomputable def X2_isTermSign (x0 : Int32) : Bool :=
  if x0 = 42 then
    true
  else
  if x0 = 47 then
    true
  else
  if x0 = 37 then
    true
  else
  false
set_option maxRecDepth 100000 in
set_option maxHeartbeats 4000000 in
theorem X2_isTermSign_ok (G : Gh) (x0 : Int32) (M : Mem) : Mt G mi_X2_isTermSign [.int x0] M ((dZ M) (X2_isTermSign x0)) := by
  refine Mt_of (lv := [some (.int x0)]) (by decide) rfl (Nat.le_of_ble_eq_true rfl) rfl ?_
  unfold X2_isTermSign
  refine r_iload_n dX2_isTermSign_0 rfl ?_
  refine r_bipush (x := 42) dX2_isTermSign_1 rfl ?_
  refine r_icmp_eq (tgt := 18) dX2_isTermSign_3 rfl (fun h1 => ?_) (fun h1 => ?_)
  · refine r_iconst (x := 1) dX2_isTermSign_18 rfl ?_
    refine r_goto (tgt := 23) dX2_isTermSign_19 rfl ?_
    exact r_iret (ty := .boolean) dX2_isTermSign_23 rfl rfl rfl
  refine r_iload_n dX2_isTermSign_6 rfl ?_
  refine r_bipush (x := 47) dX2_isTermSign_7 rfl ?_
  refine r_icmp_eq (tgt := 18) dX2_isTermSign_9 rfl (fun h2 => ?_) (fun h2 => ?_)
  · refine r_iconst (x := 1) dX2_isTermSign_18 rfl ?_
    refine r_goto (tgt := 23) dX2_isTermSign_19 rfl ?_
    exact r_iret (ty := .boolean) dX2_isTermSign_23 rfl rfl rfl
  refine r_iload_n dX2_isTermSign_12 rfl ?_
  refine r_bipush (x := 37) dX2_isTermSign_13 rfl ?_
  refine r_icmp_ne (tgt := 22) dX2_isTermSign_15 rfl (fun h3 => ?_) (fun h3 => ?_)
  · refine r_iconst (x := 1) dX2_isTermSign_18 rfl ?_
    refine r_goto (tgt := 23) dX2_isTermSign_19 rfl ?_
    exact r_iret (ty := .boolean) dX2_isTermSign_23 rfl rfl rfl
  refine r_iconst (x := 0) dX2_isTermSign_22 rfl ?_
  exact r_iret (ty := .boolean) dX2_isTermSign_23 rfl rfl rfl

noncomputable def X2_readTerm_L1 (fE : Int32 → Mem → Option (Bool × Mem)) (x1 : Int32) : Nat → Int32 → Int32 → Mem → Option (Int32 × Mem)
  | 0, _, _, _ => none
  | n + 1, c2, c3, M =>
    if 1600 ≤ c3 then
      some (c2, M)
    else
    if c2 = 0 then
      some (c2, M)
    else
    if (X2_isTermSign (M.1 16 1)) = true then
      lt_ (α := Int32) (M.1 16 1) fun y6 =>
      bo_ (X6_step M) fun M7 =>
      bp_ (X2_readUnit fE x1 M7) fun b8 M9 =>
      lt_ (X1_write 13 (20000 + y6) M9) fun M10 =>
      X2_readTerm_L1 fE x1 n (b2i (b8)) (c3 + 1) M10
    else
    some (c2, M)
noncomputable def X2_readTerm (fE : Int32 → Mem → Option (Bool × Mem)) (x1 : Int32) (M : Mem) : Option (Bool × Mem) :=
  bp_ (X2_readUnit fE x1 M) fun b1 M2 =>
  b2_ (α := Int32) (β := Mem) (X2_readTerm_L1 fE x1 zFU (b2i (b1)) 0 M2) fun e11 M12 =>
  gd_ (e11 = 0 ∨ e11 = 1) (some ((decide (e11 = 1)), M12))
set_option maxRecDepth 100000 in
set_option maxHeartbeats 4000000 in
theorem X2_readTerm_L1_ok (G : Gh) {kk : Nat} {fE : Int32 → Mem → Option (Bool × Mem)} (hfE : ∀ (x1 : Int32) (M : Mem), Mt G (mi_X2_readEither kk) [.ref (G.2.2.2 (17)), .int x1] M (dO dZM (fE x1 M))) (x1 : Int32) {dn : Option (Int32 × Mem) → Option (Option Value × Mem)} (hs : dn none = none) (hx : ∀ (e11 : Int32) (M12 : Mem), Wr G (mi_X2_readTerm (kk + 1)) dn 73 [none, none, some (.int e11), none, none] [] M12 (some (e11, M12))) : ∀ (n : Nat) (c2 : Int32) (c3 : Int32) (M : Mem), Wr G (mi_X2_readTerm (kk + 1)) dn 8 [some (.ref (G.2.2.2 (17))), some (.int x1), some (.int c2), some (.int c3), none] [] M (X2_readTerm_L1 fE x1 n c2 c3 M) := by
  intro n
  induction n with
  | zero => intro c2 c3 M; exact r_none (by exact hs)
  | succ n ih =>
    intro c2 c3 M
    rw [X2_readTerm_L1]
    refine r_iload_n dX2_readTerm_8 rfl ?_
    refine r_sipush (x := 1600) dX2_readTerm_9 rfl ?_
    refine r_icmp_ge (tgt := 73) dX2_readTerm_12 rfl (fun h3 => ?_) (fun h3 => ?_)
    · exact r_lk (hx c2 M) (And.intro rfl True.intro)
    refine r_iload_n dX2_readTerm_15 rfl ?_
    refine r_if_eq (tgt := 73) dX2_readTerm_16 rfl (fun h4 => ?_) (fun h4 => ?_)
    · exact r_lk (hx c2 M) (And.intro rfl True.intro)
    refine r_aload_n dX2_readTerm_19 rfl ?_
    refine r_getf (v := .ref (G.2.2.2 (16))) dX2_readTerm_20 fX_17_0 kX2 (by decide) lkf_X2_9 rfl ?_
    refine r_getf (v := .int (M.1 16 1)) dX2_readTerm_23 fX_16_1 kX6 (by decide) lkf_X2_53 rfl ?_
    refine c_Z (inv_S (mi := (mi_X2_readTerm (kk + 1))) (rest := []) (X2_isTermSign_ok G (M.1 16 1) M) rfl (by show 2 + 1 ≤ (40 + 6 * (kk + 1) + 2); omega) dX2_readTerm_26 lkm_X2_66 cal_X2_isTermSign rfl (Nat.le_of_ble_eq_true rfl) rfl) ?_
    refine r_ifz_eq (tgt := 73) dX2_readTerm_29 rfl (fun h5 => ?_) (fun h5 => ?_)
    · refine r_aload_n dX2_readTerm_32 rfl ?_
      refine r_getf (v := .ref (G.2.2.2 (16))) dX2_readTerm_33 fX_17_0 kX2 (by decide) lkf_X2_9 rfl ?_
      refine r_getf (v := .int (M.1 16 1)) dX2_readTerm_36 fX_16_1 kX6 (by decide) lkf_X2_53 rfl ?_
      refine r_letI (fun y6 => ?_)
      refine r_istore (lv' := [some (.ref (G.2.2.2 (17))), some (.int x1), some (.int c2), some (.int c3), some (.int y6)]) dX2_readTerm_39 (Nat.le_of_ble_eq_true rfl) rfl rfl ?_
      refine r_aload_n dX2_readTerm_41 rfl ?_
      refine r_getf (v := .ref (G.2.2.2 (16))) dX2_readTerm_42 fX_17_0 kX2 (by decide) lkf_X2_9 rfl ?_
      refine c_OV (by exact hs) (inv_V (mi := (mi_X2_readTerm (kk + 1))) (b := 16) (rest := []) (X6_step_ok G M) rfl (by show 4 + 1 ≤ (40 + 6 * (kk + 1) + 2); omega) dX2_readTerm_45 lkm_X2_31 cal_X6_step cX_16 rfl rfl (Nat.le_of_ble_eq_true rfl) rfl) (fun M7 => ?_)
      refine r_aload_n dX2_readTerm_48 rfl ?_
      refine r_iload_n dX2_readTerm_49 rfl ?_
      refine c_OZM (by exact hs) (inv_V (mi := (mi_X2_readTerm (kk + 1))) (b := 17) (rest := []) (X2_readUnit_ok G hfE x1 M7) rfl (by show (40 + 6 * (kk + 1) + 1) + 1 ≤ (40 + 6 * (kk + 1) + 2); omega) dX2_readTerm_50 lkm_X2_63 cal_X2_readUnit cX_17 rfl rfl (Nat.le_of_ble_eq_true rfl) rfl) (fun b8 M9 => ?_)
      refine r_istore_n (lv' := [some (.ref (G.2.2.2 (17))), some (.int x1), some (.int (b2i (b8))), some (.int c3), some (.int y6)]) dX2_readTerm_53 (Nat.le_of_ble_eq_true rfl) rfl rfl ?_
      refine r_aload_n dX2_readTerm_54 rfl ?_
      refine r_getf (v := .ref (G.2.2.2 (13))) dX2_readTerm_55 fX_17_1 kX2 (by decide) lkf_X2_15 rfl ?_
      refine r_sipush (x := 20000) dX2_readTerm_58 rfl ?_
      refine r_iload dX2_readTerm_61 rfl ?_
      refine r_iadd dX2_readTerm_63 ?_
      refine c_V (inv_V (mi := (mi_X2_readTerm (kk + 1))) (b := 13) (rest := []) (X1_write_ok_13 G (20000 + y6) M9) rfl (by show 2 + 1 ≤ (40 + 6 * (kk + 1) + 2); omega) dX2_readTerm_64 lkm_X2_36 cal_X1_write cX_13 rfl rfl (Nat.le_of_ble_eq_true rfl) rfl) (fun M10 => ?_)
      refine r_iinc (y := c3 + 1) (lv' := [some (.ref (G.2.2.2 (17))), some (.int x1), some (.int (b2i (b8))), some (.int (c3 + 1)), some (.int y6)]) dX2_readTerm_67 rfl rfl (Nat.le_of_ble_eq_true rfl) rfl rfl ?_
      refine r_goto (tgt := 8) dX2_readTerm_70 rfl ?_
      exact r_lk (ih (b2i (b8)) (c3 + 1) M10) (And.intro rfl (And.intro rfl (And.intro rfl (And.intro rfl True.intro))))
    exact r_lk (hx c2 M) (And.intro rfl True.intro)
set_option maxRecDepth 100000 in
set_option maxHeartbeats 4000000 in
theorem X2_readTerm_ok (G : Gh) {kk : Nat} {fE : Int32 → Mem → Option (Bool × Mem)} (hfE : ∀ (x1 : Int32) (M : Mem), Mt G (mi_X2_readEither kk) [.ref (G.2.2.2 (17)), .int x1] M (dO dZM (fE x1 M))) (x1 : Int32) (M : Mem) : Mt G (mi_X2_readTerm (kk + 1)) [.ref (G.2.2.2 (17)), .int x1] M ((dO dZM) (X2_readTerm fE x1 M)) := by
  refine Mt_of (lv := [some (.ref (G.2.2.2 (17))), some (.int x1)]) (show plainName RX2 = true by decide) rfl (Nat.le_of_ble_eq_true rfl) rfl ?_
  refine r_le (lv' := [some (.ref (G.2.2.2 (17))), some (.int x1), none, none, none]) (And.intro rfl (And.intro rfl True.intro)) ?_
  unfold X2_readTerm
  refine r_aload_n dX2_readTerm_0 rfl ?_
  refine r_iload_n dX2_readTerm_1 rfl ?_
  refine c_OZM rfl (inv_V (mi := (mi_X2_readTerm (kk + 1))) (b := 17) (rest := []) (X2_readUnit_ok G hfE x1 M) rfl (by show (40 + 6 * (kk + 1) + 1) + 1 ≤ (40 + 6 * (kk + 1) + 2); omega) dX2_readTerm_2 lkm_X2_63 cal_X2_readUnit cX_17 rfl rfl (Nat.le_of_ble_eq_true rfl) rfl) (fun b1 M2 => ?_)
  refine r_istore_n (lv' := [some (.ref (G.2.2.2 (17))), some (.int x1), some (.int (b2i (b1))), none, none]) dX2_readTerm_5 (Nat.le_of_ble_eq_true rfl) rfl rfl ?_
  refine r_iconst (x := 0) dX2_readTerm_6 rfl ?_
  refine r_istore_n (lv' := [some (.ref (G.2.2.2 (17))), some (.int x1), some (.int (b2i (b1))), some (.int 0), none]) dX2_readTerm_7 (Nat.le_of_ble_eq_true rfl) rfl rfl ?_
  refine r_jB2 (j := 73) (lvj := fun e11 M12 => [none, none, some (.int e11), none, none]) (stj := fun e11 M12 => []) (Mj := fun e11 M12 => M12) (fun e11 M12 => ?_) (fun hj73 => ?_)
  · refine r_iload_n dX2_readTerm_73 rfl ?_
    refine r_gd rfl (fun gz => ?_)
    exact r_zretI dX2_readTerm_74 rfl gz rfl
  exact r_lk (X2_readTerm_L1_ok G hfE x1 rfl hj73 zFU (b2i (b1)) 0 M2) (And.intro rfl (And.intro rfl (And.intro rfl (And.intro rfl True.intro))))

theorem dX2_isSumSign_0 : decode cX2_isSumSign 0 = .ok (.iload_n 0, 1) := by decide +kernel
theorem dX2_isSumSign_1 : decode cX2_isSumSign 1 = .ok (.bipush 43, 2) := by decide +kernel
theorem dX2_isSumSign_3 : decode cX2_isSumSign 3 = .ok (.if_icmp .eq 9, 3) := by decide +kernel
theorem dX2_isSumSign_6 : decode cX2_isSumSign 6 = .ok (.iload_n 0, 1) := by decide +kernel
theorem dX2_isSumSign_7 : decode cX2_isSumSign 7 = .ok (.bipush 45, 2) := by decide +kernel
theorem dX2_isSumSign_9 : decode cX2_isSumSign 9 = .ok (.if_icmp .ne 7, 3) := by decide +kernel
theorem dX2_isSumSign_12 : decode cX2_isSumSign 12 = .ok (.iconst 1, 1) := by decide +kernel
theorem dX2_isSumSign_13 : decode cX2_isSumSign 13 = .ok (.goto 4, 3) := by decide +kernel
theorem dX2_isSumSign_16 : decode cX2_isSumSign 16 = .ok (.iconst 0, 1) := by decide +kernel
theorem dX2_isSumSign_17 : decode cX2_isSumSign 17 = .ok (.ireturn, 1) := by decide +kernel
abbrev mi_X2_isSumSign : MI := (zTX, RX2, yX2_isSumSign, cX2_isSumSign, 1, (some .boolean), 2)
theorem cal_X2_isSumSign : zCalS mi_X2_isSumSign 1 := ⟨⟨zTB_i3 229 (by decide +kernel), zTB_i3 228 (by decide +kernel), zTB_i1 7 (by decide +kernel)⟩, ⟨by decide, by decide, by decide +kernel⟩, by decide⟩
noncomputable def X2_isSumSign (x0 : Int32) : Bool :=
  if x0 = 43 then
    true
  else
  if x0 = 45 then
    true
  else
  false
set_option maxRecDepth 100000 in
set_option maxHeartbeats 4000000 in
theorem X2_isSumSign_ok (G : Gh) (x0 : Int32) (M : Mem) : Mt G mi_X2_isSumSign [.int x0] M ((dZ M) (X2_isSumSign x0)) := by
  refine Mt_of (lv := [some (.int x0)]) (by decide) rfl (Nat.le_of_ble_eq_true rfl) rfl ?_
  unfold X2_isSumSign
  refine r_iload_n dX2_isSumSign_0 rfl ?_
  refine r_bipush (x := 43) dX2_isSumSign_1 rfl ?_
  refine r_icmp_eq (tgt := 12) dX2_isSumSign_3 rfl (fun h1 => ?_) (fun h1 => ?_)
  · refine r_iconst (x := 1) dX2_isSumSign_12 rfl ?_
    refine r_goto (tgt := 17) dX2_isSumSign_13 rfl ?_
    exact r_iret (ty := .boolean) dX2_isSumSign_17 rfl rfl rfl
  refine r_iload_n dX2_isSumSign_6 rfl ?_
  refine r_bipush (x := 45) dX2_isSumSign_7 rfl ?_
  refine r_icmp_ne (tgt := 16) dX2_isSumSign_9 rfl (fun h2 => ?_) (fun h2 => ?_)
  · refine r_iconst (x := 1) dX2_isSumSign_12 rfl ?_
    refine r_goto (tgt := 17) dX2_isSumSign_13 rfl ?_
    exact r_iret (ty := .boolean) dX2_isSumSign_17 rfl rfl rfl
  refine r_iconst (x := 0) dX2_isSumSign_16 rfl ?_
  exact r_iret (ty := .boolean) dX2_isSumSign_17 rfl rfl rfl

noncomputable def X2_readSum_L1 (fE : Int32 → Mem → Option (Bool × Mem)) (x1 : Int32) : Nat → Int32 → Int32 → Mem → Option (Int32 × Mem)
  | 0, _, _, _ => none
  | n + 1, c2, c3, M =>
    if 1600 ≤ c3 then
      some (c2, M)
    else
    if c2 = 0 then
      some (c2, M)
    else
    if (X2_isSumSign (M.1 16 1)) = true then
      lt_ (α := Int32) (M.1 16 1) fun y6 =>
      bo_ (X6_step M) fun M7 =>
      bp_ (X2_readTerm fE x1 M7) fun b8 M9 =>
      lt_ (X1_write 13 (20000 + y6) M9) fun M10 =>
      X2_readSum_L1 fE x1 n (b2i (b8)) (c3 + 1) M10
    else
    some (c2, M)
noncomputable def X2_readSum (fE : Int32 → Mem → Option (Bool × Mem)) (x1 : Int32) (M : Mem) : Option (Bool × Mem) :=
  bp_ (X2_readTerm fE x1 M) fun b1 M2 =>
  b2_ (α := Int32) (β := Mem) (X2_readSum_L1 fE x1 zFU (b2i (b1)) 0 M2) fun e11 M12 =>
  gd_ (e11 = 0 ∨ e11 = 1) (some ((decide (e11 = 1)), M12))
set_option maxRecDepth 100000 in
set_option maxHeartbeats 4000000 in
theorem X2_readSum_L1_ok (G : Gh) {kk : Nat} {fE : Int32 → Mem → Option (Bool × Mem)} (hfE : ∀ (x1 : Int32) (M : Mem), Mt G (mi_X2_readEither kk) [.ref (G.2.2.2 (17)), .int x1] M (dO dZM (fE x1 M))) (x1 : Int32) {dn : Option (Int32 × Mem) → Option (Option Value × Mem)} (hs : dn none = none) (hx : ∀ (e11 : Int32) (M12 : Mem), Wr G (mi_X2_readSum (kk + 1)) dn 73 [none, none, some (.int e11), none, none] [] M12 (some (e11, M12))) : ∀ (n : Nat) (c2 : Int32) (c3 : Int32) (M : Mem), Wr G (mi_X2_readSum (kk + 1)) dn 8 [some (.ref (G.2.2.2 (17))), some (.int x1), some (.int c2), some (.int c3), none] [] M (X2_readSum_L1 fE x1 n c2 c3 M) := by
  intro n
  induction n with
  | zero => intro c2 c3 M; exact r_none (by exact hs)
  | succ n ih =>
    intro c2 c3 M
    rw [X2_readSum_L1]
    refine r_iload_n dX2_readSum_8 rfl ?_
    refine r_sipush (x := 1600) dX2_readSum_9 rfl ?_
    refine r_icmp_ge (tgt := 73) dX2_readSum_12 rfl (fun h3 => ?_) (fun h3 => ?_)
    · exact r_lk (hx c2 M) (And.intro rfl True.intro)
    refine r_iload_n dX2_readSum_15 rfl ?_
    refine r_if_eq (tgt := 73) dX2_readSum_16 rfl (fun h4 => ?_) (fun h4 => ?_)
    · exact r_lk (hx c2 M) (And.intro rfl True.intro)
    refine r_aload_n dX2_readSum_19 rfl ?_
    refine r_getf (v := .ref (G.2.2.2 (16))) dX2_readSum_20 fX_17_0 kX2 (by decide) lkf_X2_9 rfl ?_
    refine r_getf (v := .int (M.1 16 1)) dX2_readSum_23 fX_16_1 kX6 (by decide) lkf_X2_53 rfl ?_
    refine c_Z (inv_S (mi := (mi_X2_readSum (kk + 1))) (rest := []) (X2_isSumSign_ok G (M.1 16 1) M) rfl (by show 2 + 1 ≤ (40 + 6 * (kk + 1) + 3); omega) dX2_readSum_26 lkm_X2_60 cal_X2_isSumSign rfl (Nat.le_of_ble_eq_true rfl) rfl) ?_
    refine r_ifz_eq (tgt := 73) dX2_readSum_29 rfl (fun h5 => ?_) (fun h5 => ?_)
    · refine r_aload_n dX2_readSum_32 rfl ?_
      refine r_getf (v := .ref (G.2.2.2 (16))) dX2_readSum_33 fX_17_0 kX2 (by decide) lkf_X2_9 rfl ?_
      refine r_getf (v := .int (M.1 16 1)) dX2_readSum_36 fX_16_1 kX6 (by decide) lkf_X2_53 rfl ?_
      refine r_letI (fun y6 => ?_)
      refine r_istore (lv' := [some (.ref (G.2.2.2 (17))), some (.int x1), some (.int c2), some (.int c3), some (.int y6)]) dX2_readSum_39 (Nat.le_of_ble_eq_true rfl) rfl rfl ?_
      refine r_aload_n dX2_readSum_41 rfl ?_
      refine r_getf (v := .ref (G.2.2.2 (16))) dX2_readSum_42 fX_17_0 kX2 (by decide) lkf_X2_9 rfl ?_
      refine c_OV (by exact hs) (inv_V (mi := (mi_X2_readSum (kk + 1))) (b := 16) (rest := []) (X6_step_ok G M) rfl (by show 4 + 1 ≤ (40 + 6 * (kk + 1) + 3); omega) dX2_readSum_45 lkm_X2_31 cal_X6_step cX_16 rfl rfl (Nat.le_of_ble_eq_true rfl) rfl) (fun M7 => ?_)
      refine r_aload_n dX2_readSum_48 rfl ?_
      refine r_iload_n dX2_readSum_49 rfl ?_
      refine c_OZM (by exact hs) (inv_V (mi := (mi_X2_readSum (kk + 1))) (b := 17) (rest := []) (X2_readTerm_ok G hfE x1 M7) rfl (by show (40 + 6 * (kk + 1) + 2) + 1 ≤ (40 + 6 * (kk + 1) + 3); omega) dX2_readSum_50 lkm_X2_57 cal_X2_readTerm cX_17 rfl rfl (Nat.le_of_ble_eq_true rfl) rfl) (fun b8 M9 => ?_)
      refine r_istore_n (lv' := [some (.ref (G.2.2.2 (17))), some (.int x1), some (.int (b2i (b8))), some (.int c3), some (.int y6)]) dX2_readSum_53 (Nat.le_of_ble_eq_true rfl) rfl rfl ?_
      refine r_aload_n dX2_readSum_54 rfl ?_
      refine r_getf (v := .ref (G.2.2.2 (13))) dX2_readSum_55 fX_17_1 kX2 (by decide) lkf_X2_15 rfl ?_
      refine r_sipush (x := 20000) dX2_readSum_58 rfl ?_
      refine r_iload dX2_readSum_61 rfl ?_
      refine r_iadd dX2_readSum_63 ?_
      refine c_V (inv_V (mi := (mi_X2_readSum (kk + 1))) (b := 13) (rest := []) (X1_write_ok_13 G (20000 + y6) M9) rfl (by show 2 + 1 ≤ (40 + 6 * (kk + 1) + 3); omega) dX2_readSum_64 lkm_X2_36 cal_X1_write cX_13 rfl rfl (Nat.le_of_ble_eq_true rfl) rfl) (fun M10 => ?_)
      refine r_iinc (y := c3 + 1) (lv' := [some (.ref (G.2.2.2 (17))), some (.int x1), some (.int (b2i (b8))), some (.int (c3 + 1)), some (.int y6)]) dX2_readSum_67 rfl rfl (Nat.le_of_ble_eq_true rfl) rfl rfl ?_
      refine r_goto (tgt := 8) dX2_readSum_70 rfl ?_
      exact r_lk (ih (b2i (b8)) (c3 + 1) M10) (And.intro rfl (And.intro rfl (And.intro rfl (And.intro rfl True.intro))))
    exact r_lk (hx c2 M) (And.intro rfl True.intro)
set_option maxRecDepth 100000 in
set_option maxHeartbeats 4000000 in
theorem X2_readSum_ok (G : Gh) {kk : Nat} {fE : Int32 → Mem → Option (Bool × Mem)} (hfE : ∀ (x1 : Int32) (M : Mem), Mt G (mi_X2_readEither kk) [.ref (G.2.2.2 (17)), .int x1] M (dO dZM (fE x1 M))) (x1 : Int32) (M : Mem) : Mt G (mi_X2_readSum (kk + 1)) [.ref (G.2.2.2 (17)), .int x1] M ((dO dZM) (X2_readSum fE x1 M)) := by
  refine Mt_of (lv := [some (.ref (G.2.2.2 (17))), some (.int x1)]) (show plainName RX2 = true by decide) rfl (Nat.le_of_ble_eq_true rfl) rfl ?_
  refine r_le (lv' := [some (.ref (G.2.2.2 (17))), some (.int x1), none, none, none]) (And.intro rfl (And.intro rfl True.intro)) ?_
  unfold X2_readSum
  refine r_aload_n dX2_readSum_0 rfl ?_
  refine r_iload_n dX2_readSum_1 rfl ?_
  refine c_OZM rfl (inv_V (mi := (mi_X2_readSum (kk + 1))) (b := 17) (rest := []) (X2_readTerm_ok G hfE x1 M) rfl (by show (40 + 6 * (kk + 1) + 2) + 1 ≤ (40 + 6 * (kk + 1) + 3); omega) dX2_readSum_2 lkm_X2_57 cal_X2_readTerm cX_17 rfl rfl (Nat.le_of_ble_eq_true rfl) rfl) (fun b1 M2 => ?_)
  refine r_istore_n (lv' := [some (.ref (G.2.2.2 (17))), some (.int x1), some (.int (b2i (b1))), none, none]) dX2_readSum_5 (Nat.le_of_ble_eq_true rfl) rfl rfl ?_
  refine r_iconst (x := 0) dX2_readSum_6 rfl ?_
  refine r_istore_n (lv' := [some (.ref (G.2.2.2 (17))), some (.int x1), some (.int (b2i (b1))), some (.int 0), none]) dX2_readSum_7 (Nat.le_of_ble_eq_true rfl) rfl rfl ?_
  refine r_jB2 (j := 73) (lvj := fun e11 M12 => [none, none, some (.int e11), none, none]) (stj := fun e11 M12 => []) (Mj := fun e11 M12 => M12) (fun e11 M12 => ?_) (fun hj73 => ?_)
  · refine r_iload_n dX2_readSum_73 rfl ?_
    refine r_gd rfl (fun gz => ?_)
    exact r_zretI dX2_readSum_74 rfl gz rfl
  exact r_lk (X2_readSum_L1_ok G hfE x1 rfl hj73 zFU (b2i (b1)) 0 M2) (And.intro rfl (And.intro rfl (And.intro rfl (And.intro rfl True.intro))))

noncomputable def X2_readOne (fO : Int32 → Mem → Option (Bool × Mem)) (fE : Int32 → Mem → Option (Bool × Mem)) (x1 : Int32) (M : Mem) : Option (Bool × Mem) :=
  bo_ (X6_says 32 M) fun b1 =>
  if b1 = true then
    if x1 < 7 then
      bo_ (X6_step M) fun M17 =>
      bp_ (fO (x1 + 1) M17) fun b18 M19 =>
      lt_ (X1_write 13 20033 M19) fun M20 =>
      some (b18, M20)
    else
    lp_ (X6_refuse 2 M) fun b21 M22 =>
    some (b21, M22)
  else
  bp_ (X2_readSum fE x1 M) fun b3 M4 =>
  lt_ (α := Int32) (M4.1 16 1) fun y5 =>
  l1_ (α := Bool) (
    if b3 = true then
      if y5 = 60 then
        true
      else
      if y5 = 62 then
        true
      else
      if y5 = 61 then
        true
      else
      false
    else
    false) fun t10 =>
  if t10 = true then
    bo_ (X6_step M4) fun M12 =>
    bp_ (X2_readSum fE x1 M12) fun b13 M14 =>
    lt_ (X1_write 13 (20000 + y5) M14) fun M15 =>
    some (b13, M15)
  else
  some (b3, M4)
set_option maxRecDepth 100000 in
set_option maxHeartbeats 4000000 in
theorem X2_readOne_ok (G : Gh) {kk : Nat} {fO : Int32 → Mem → Option (Bool × Mem)} (hfO : ∀ (x1 : Int32) (M : Mem), Mt G (mi_X2_readOne kk) [.ref (G.2.2.2 (17)), .int x1] M (dO dZM (fO x1 M))) {fE : Int32 → Mem → Option (Bool × Mem)} (hfE : ∀ (x1 : Int32) (M : Mem), Mt G (mi_X2_readEither kk) [.ref (G.2.2.2 (17)), .int x1] M (dO dZM (fE x1 M))) (x1 : Int32) (M : Mem) : Mt G (mi_X2_readOne (kk + 1)) [.ref (G.2.2.2 (17)), .int x1] M ((dO dZM) (X2_readOne fO fE x1 M)) := by
  refine Mt_of (lv := [some (.ref (G.2.2.2 (17))), some (.int x1)]) (show plainName RX2 = true by decide) rfl (Nat.le_of_ble_eq_true rfl) rfl ?_
  refine r_le (lv' := [some (.ref (G.2.2.2 (17))), some (.int x1), none, none]) (And.intro rfl (And.intro rfl True.intro)) ?_
  unfold X2_readOne
  refine r_aload_n dX2_readOne_0 rfl ?_
  refine r_getf (v := .ref (G.2.2.2 (16))) dX2_readOne_1 fX_17_0 kX2 (by decide) lkf_X2_9 rfl ?_
  refine r_ldcS (i := 32) dX2_readOne_4 rfl ?_
  refine c_OZ rfl (inv_V (mi := (mi_X2_readOne (kk + 1))) (b := 16) (rest := []) (X6_says_ok G (w1 := 32) (by decide) M) rfl (by show 8 + 1 ≤ (40 + 6 * (kk + 1) + 4); omega) dX2_readOne_6 lkm_X2_25 cal_X6_says cX_16 rfl rfl (Nat.le_of_ble_eq_true rfl) rfl) (fun b1 => ?_)
  refine r_ifz_eq (tgt := 54) dX2_readOne_9 rfl (fun h2 => ?_) (fun h2 => ?_)
  · refine r_iload_n dX2_readOne_12 rfl ?_
    refine r_bipush (x := 7) dX2_readOne_13 rfl ?_
    refine r_icmp_lt (tgt := 27) dX2_readOne_15 rfl (fun h16 => ?_) (fun h16 => ?_)
    · refine r_aload_n dX2_readOne_27 rfl ?_
      refine r_getf (v := .ref (G.2.2.2 (16))) dX2_readOne_28 fX_17_0 kX2 (by decide) lkf_X2_9 rfl ?_
      refine c_OV rfl (inv_V (mi := (mi_X2_readOne (kk + 1))) (b := 16) (rest := []) (X6_step_ok G M) rfl (by show 4 + 1 ≤ (40 + 6 * (kk + 1) + 4); omega) dX2_readOne_31 lkm_X2_31 cal_X6_step cX_16 rfl rfl (Nat.le_of_ble_eq_true rfl) rfl) (fun M17 => ?_)
      refine r_aload_n dX2_readOne_34 rfl ?_
      refine r_iload_n dX2_readOne_35 rfl ?_
      refine r_iconst (x := 1) dX2_readOne_36 rfl ?_
      refine r_iadd dX2_readOne_37 ?_
      refine c_OZM rfl (inv_V (mi := (mi_X2_readOne (kk + 1))) (b := 17) (rest := []) (hfO (x1 + 1) M17) rfl (by show (40 + 6 * kk + 4) + 1 ≤ (40 + 6 * (kk + 1) + 4); omega) dX2_readOne_38 lkm_X2_40 cal_X2_readOne cX_17 rfl rfl (Nat.le_of_ble_eq_true rfl) rfl) (fun b18 M19 => ?_)
      refine r_istore_n (lv' := [some (.ref (G.2.2.2 (17))), some (.int x1), some (.int (b2i (b18))), none]) dX2_readOne_41 (Nat.le_of_ble_eq_true rfl) rfl rfl ?_
      refine r_aload_n dX2_readOne_42 rfl ?_
      refine r_getf (v := .ref (G.2.2.2 (13))) dX2_readOne_43 fX_17_1 kX2 (by decide) lkf_X2_15 rfl ?_
      refine r_sipush (x := 20033) dX2_readOne_46 rfl ?_
      refine c_V (inv_V (mi := (mi_X2_readOne (kk + 1))) (b := 13) (rest := []) (X1_write_ok_13 G 20033 M19) rfl (by show 2 + 1 ≤ (40 + 6 * (kk + 1) + 4); omega) dX2_readOne_49 lkm_X2_36 cal_X1_write cX_13 rfl rfl (Nat.le_of_ble_eq_true rfl) rfl) (fun M20 => ?_)
      refine r_iload_n dX2_readOne_52 rfl ?_
      exact r_iret (ty := .boolean) dX2_readOne_53 rfl (b2i_n _) rfl
    refine r_aload_n dX2_readOne_18 rfl ?_
    refine r_getf (v := .ref (G.2.2.2 (16))) dX2_readOne_19 fX_17_0 kX2 (by decide) lkf_X2_9 rfl ?_
    refine r_iconst (x := 2) dX2_readOne_22 rfl ?_
    refine c_ZM (inv_V (mi := (mi_X2_readOne (kk + 1))) (b := 16) (rest := []) (X6_refuse_ok G 2 M) rfl (by show 2 + 1 ≤ (40 + 6 * (kk + 1) + 4); omega) dX2_readOne_23 lkm_X2_47 cal_X6_refuse cX_16 rfl rfl (Nat.le_of_ble_eq_true rfl) rfl) (fun b21 M22 => ?_)
    exact r_iret (ty := .boolean) dX2_readOne_26 rfl (b2i_n _) rfl
  refine r_aload_n dX2_readOne_54 rfl ?_
  refine r_iload_n dX2_readOne_55 rfl ?_
  refine c_OZM rfl (inv_V (mi := (mi_X2_readOne (kk + 1))) (b := 17) (rest := []) (X2_readSum_ok G hfE x1 M) rfl (by show (40 + 6 * (kk + 1) + 3) + 1 ≤ (40 + 6 * (kk + 1) + 4); omega) dX2_readOne_56 lkm_X2_50 cal_X2_readSum cX_17 rfl rfl (Nat.le_of_ble_eq_true rfl) rfl) (fun b3 M4 => ?_)
  refine r_istore_n (lv' := [some (.ref (G.2.2.2 (17))), some (.int x1), some (.int (b2i (b3))), none]) dX2_readOne_59 (Nat.le_of_ble_eq_true rfl) rfl rfl ?_
  refine r_aload_n dX2_readOne_60 rfl ?_
  refine r_getf (v := .ref (G.2.2.2 (16))) dX2_readOne_61 fX_17_0 kX2 (by decide) lkf_X2_9 rfl ?_
  refine r_getf (v := .int (M4.1 16 1)) dX2_readOne_64 fX_16_1 kX6 (by decide) lkf_X2_53 rfl ?_
  refine r_letI (fun y5 => ?_)
  refine r_istore_n (lv' := [some (.ref (G.2.2.2 (17))), some (.int x1), some (.int (b2i (b3))), some (.int y5)]) dX2_readOne_67 (Nat.le_of_ble_eq_true rfl) rfl rfl ?_
  refine r_iload_n dX2_readOne_68 rfl ?_
  refine r_cL (jX := 90) (jY := 115) (lvX := [some (.ref (G.2.2.2 (17))), some (.int x1), none, some (.int y5)]) (lvY := [none, none, some (.int (b2i (b3))), none]) (stX := []) (M1 := M4) (fun h11 => ?_) (fun h11 => ?_) (fun hX90 hY115 => ?_)
  · refine r_eq (if_pos rfl) ?_
    refine r_aload_n dX2_readOne_90 rfl ?_
    refine r_getf (v := .ref (G.2.2.2 (16))) dX2_readOne_91 fX_17_0 kX2 (by decide) lkf_X2_9 rfl ?_
    refine c_OV rfl (inv_V (mi := (mi_X2_readOne (kk + 1))) (b := 16) (rest := []) (X6_step_ok G M4) rfl (by show 4 + 1 ≤ (40 + 6 * (kk + 1) + 4); omega) dX2_readOne_94 lkm_X2_31 cal_X6_step cX_16 rfl rfl (Nat.le_of_ble_eq_true rfl) rfl) (fun M12 => ?_)
    refine r_aload_n dX2_readOne_97 rfl ?_
    refine r_iload_n dX2_readOne_98 rfl ?_
    refine c_OZM rfl (inv_V (mi := (mi_X2_readOne (kk + 1))) (b := 17) (rest := []) (X2_readSum_ok G hfE x1 M12) rfl (by show (40 + 6 * (kk + 1) + 3) + 1 ≤ (40 + 6 * (kk + 1) + 4); omega) dX2_readOne_99 lkm_X2_50 cal_X2_readSum cX_17 rfl rfl (Nat.le_of_ble_eq_true rfl) rfl) (fun b13 M14 => ?_)
    refine r_istore_n (lv' := [some (.ref (G.2.2.2 (17))), some (.int x1), some (.int (b2i (b13))), some (.int y5)]) dX2_readOne_102 (Nat.le_of_ble_eq_true rfl) rfl rfl ?_
    refine r_aload_n dX2_readOne_103 rfl ?_
    refine r_getf (v := .ref (G.2.2.2 (13))) dX2_readOne_104 fX_17_1 kX2 (by decide) lkf_X2_15 rfl ?_
    refine r_sipush (x := 20000) dX2_readOne_107 rfl ?_
    refine r_iload_n dX2_readOne_110 rfl ?_
    refine r_iadd dX2_readOne_111 ?_
    refine c_V (inv_V (mi := (mi_X2_readOne (kk + 1))) (b := 13) (rest := []) (X1_write_ok_13 G (20000 + y5) M14) rfl (by show 2 + 1 ≤ (40 + 6 * (kk + 1) + 4); omega) dX2_readOne_112 lkm_X2_36 cal_X1_write cX_13 rfl rfl (Nat.le_of_ble_eq_true rfl) rfl) (fun M15 => ?_)
    refine r_iload_n dX2_readOne_115 rfl ?_
    exact r_iret (ty := .boolean) dX2_readOne_116 rfl (b2i_n _) rfl
  · refine r_eq (if_neg (by decide)) ?_
    refine r_iload_n dX2_readOne_115 rfl ?_
    exact r_iret (ty := .boolean) dX2_readOne_116 rfl (b2i_n _) rfl
  refine r_ifz_eq (tgt := 115) dX2_readOne_69 rfl (fun h6 => ?_) (fun h6 => ?_)
  · refine r_iload_n dX2_readOne_72 rfl ?_
    refine r_bipush (x := 60) dX2_readOne_73 rfl ?_
    refine r_icmp_eq (tgt := 90) dX2_readOne_75 rfl (fun h7 => ?_) (fun h7 => ?_)
    · exact r_lk hX90 (And.intro rfl (And.intro rfl (And.intro rfl True.intro)))
    refine r_iload_n dX2_readOne_78 rfl ?_
    refine r_bipush (x := 62) dX2_readOne_79 rfl ?_
    refine r_icmp_eq (tgt := 90) dX2_readOne_81 rfl (fun h8 => ?_) (fun h8 => ?_)
    · exact r_lk hX90 (And.intro rfl (And.intro rfl (And.intro rfl True.intro)))
    refine r_iload_n dX2_readOne_84 rfl ?_
    refine r_bipush (x := 61) dX2_readOne_85 rfl ?_
    refine r_icmp_ne (tgt := 115) dX2_readOne_87 rfl (fun h9 => ?_) (fun h9 => ?_)
    · exact r_lk hX90 (And.intro rfl (And.intro rfl (And.intro rfl True.intro)))
    exact r_lk hY115 (And.intro rfl True.intro)
  exact r_lk hY115 (And.intro rfl True.intro)

noncomputable def X2_readBoth_L1 (fO : Int32 → Mem → Option (Bool × Mem)) (fE : Int32 → Mem → Option (Bool × Mem)) (x1 : Int32) : Nat → Int32 → Int32 → Mem → Option (Int32 × Mem)
  | 0, _, _, _ => none
  | n + 1, c2, c3, M =>
    if 1600 ≤ c3 then
      some (c2, M)
    else
    if c2 = 0 then
      some (c2, M)
    else
    bo_ (X6_says 39 M) fun b5 =>
    if b5 = true then
      bo_ (X6_step M) fun M7 =>
      bp_ (X2_readOne fO fE x1 M7) fun b8 M9 =>
      lt_ (X1_write 13 20038 M9) fun M10 =>
      X2_readBoth_L1 fO fE x1 n (b2i (b8)) (c3 + 1) M10
    else
    some (c2, M)
noncomputable def X2_readBoth (fO : Int32 → Mem → Option (Bool × Mem)) (fE : Int32 → Mem → Option (Bool × Mem)) (x1 : Int32) (M : Mem) : Option (Bool × Mem) :=
  bp_ (X2_readOne fO fE x1 M) fun b1 M2 =>
  b2_ (α := Int32) (β := Mem) (X2_readBoth_L1 fO fE x1 zFU (b2i (b1)) 0 M2) fun e11 M12 =>
  gd_ (e11 = 0 ∨ e11 = 1) (some ((decide (e11 = 1)), M12))
set_option maxRecDepth 100000 in
set_option maxHeartbeats 4000000 in
theorem X2_readBoth_L1_ok (G : Gh) {kk : Nat} {fO : Int32 → Mem → Option (Bool × Mem)} (hfO : ∀ (x1 : Int32) (M : Mem), Mt G (mi_X2_readOne kk) [.ref (G.2.2.2 (17)), .int x1] M (dO dZM (fO x1 M))) {fE : Int32 → Mem → Option (Bool × Mem)} (hfE : ∀ (x1 : Int32) (M : Mem), Mt G (mi_X2_readEither kk) [.ref (G.2.2.2 (17)), .int x1] M (dO dZM (fE x1 M))) (x1 : Int32) {dn : Option (Int32 × Mem) → Option (Option Value × Mem)} (hs : dn none = none) (hx : ∀ (e11 : Int32) (M12 : Mem), Wr G (mi_X2_readBoth (kk + 1)) dn 60 [none, none, some (.int e11), none] [] M12 (some (e11, M12))) : ∀ (n : Nat) (c2 : Int32) (c3 : Int32) (M : Mem), Wr G (mi_X2_readBoth (kk + 1)) dn 8 [some (.ref (G.2.2.2 (17))), some (.int x1), some (.int c2), some (.int c3)] [] M (X2_readBoth_L1 fO fE x1 n c2 c3 M) := by
  intro n
  induction n with
  | zero => intro c2 c3 M; exact r_none (by exact hs)
  | succ n ih =>
    intro c2 c3 M
    rw [X2_readBoth_L1]
    refine r_iload_n dX2_readBoth_8 rfl ?_
    refine r_sipush (x := 1600) dX2_readBoth_9 rfl ?_
    refine r_icmp_ge (tgt := 60) dX2_readBoth_12 rfl (fun h3 => ?_) (fun h3 => ?_)
    · exact r_lk (hx c2 M) (And.intro rfl True.intro)
    refine r_iload_n dX2_readBoth_15 rfl ?_
    refine r_if_eq (tgt := 60) dX2_readBoth_16 rfl (fun h4 => ?_) (fun h4 => ?_)
    · exact r_lk (hx c2 M) (And.intro rfl True.intro)
    refine r_aload_n dX2_readBoth_19 rfl ?_
    refine r_getf (v := .ref (G.2.2.2 (16))) dX2_readBoth_20 fX_17_0 kX2 (by decide) lkf_X2_9 rfl ?_
    refine r_ldcS (i := 39) dX2_readBoth_23 rfl ?_
    refine c_OZ (by exact hs) (inv_V (mi := (mi_X2_readBoth (kk + 1))) (b := 16) (rest := []) (X6_says_ok G (w1 := 39) (by decide) M) rfl (by show 8 + 1 ≤ (40 + 6 * (kk + 1) + 5); omega) dX2_readBoth_25 lkm_X2_25 cal_X6_says cX_16 rfl rfl (Nat.le_of_ble_eq_true rfl) rfl) (fun b5 => ?_)
    refine r_ifz_eq (tgt := 60) dX2_readBoth_28 rfl (fun h6 => ?_) (fun h6 => ?_)
    · refine r_aload_n dX2_readBoth_31 rfl ?_
      refine r_getf (v := .ref (G.2.2.2 (16))) dX2_readBoth_32 fX_17_0 kX2 (by decide) lkf_X2_9 rfl ?_
      refine c_OV (by exact hs) (inv_V (mi := (mi_X2_readBoth (kk + 1))) (b := 16) (rest := []) (X6_step_ok G M) rfl (by show 4 + 1 ≤ (40 + 6 * (kk + 1) + 5); omega) dX2_readBoth_35 lkm_X2_31 cal_X6_step cX_16 rfl rfl (Nat.le_of_ble_eq_true rfl) rfl) (fun M7 => ?_)
      refine r_aload_n dX2_readBoth_38 rfl ?_
      refine r_iload_n dX2_readBoth_39 rfl ?_
      refine c_OZM (by exact hs) (inv_V (mi := (mi_X2_readBoth (kk + 1))) (b := 17) (rest := []) (X2_readOne_ok G hfO hfE x1 M7) rfl (by show (40 + 6 * (kk + 1) + 4) + 1 ≤ (40 + 6 * (kk + 1) + 5); omega) dX2_readBoth_40 lkm_X2_40 cal_X2_readOne cX_17 rfl rfl (Nat.le_of_ble_eq_true rfl) rfl) (fun b8 M9 => ?_)
      refine r_istore_n (lv' := [some (.ref (G.2.2.2 (17))), some (.int x1), some (.int (b2i (b8))), some (.int c3)]) dX2_readBoth_43 (Nat.le_of_ble_eq_true rfl) rfl rfl ?_
      refine r_aload_n dX2_readBoth_44 rfl ?_
      refine r_getf (v := .ref (G.2.2.2 (13))) dX2_readBoth_45 fX_17_1 kX2 (by decide) lkf_X2_15 rfl ?_
      refine r_sipush (x := 20038) dX2_readBoth_48 rfl ?_
      refine c_V (inv_V (mi := (mi_X2_readBoth (kk + 1))) (b := 13) (rest := []) (X1_write_ok_13 G 20038 M9) rfl (by show 2 + 1 ≤ (40 + 6 * (kk + 1) + 5); omega) dX2_readBoth_51 lkm_X2_36 cal_X1_write cX_13 rfl rfl (Nat.le_of_ble_eq_true rfl) rfl) (fun M10 => ?_)
      refine r_iinc (y := c3 + 1) (lv' := [some (.ref (G.2.2.2 (17))), some (.int x1), some (.int (b2i (b8))), some (.int (c3 + 1))]) dX2_readBoth_54 rfl rfl (Nat.le_of_ble_eq_true rfl) rfl rfl ?_
      refine r_goto (tgt := 8) dX2_readBoth_57 rfl ?_
      exact r_lk (ih (b2i (b8)) (c3 + 1) M10) (And.intro rfl (And.intro rfl (And.intro rfl (And.intro rfl True.intro))))
    exact r_lk (hx c2 M) (And.intro rfl True.intro)
set_option maxRecDepth 100000 in
set_option maxHeartbeats 4000000 in
theorem X2_readBoth_ok (G : Gh) {kk : Nat} {fO : Int32 → Mem → Option (Bool × Mem)} (hfO : ∀ (x1 : Int32) (M : Mem), Mt G (mi_X2_readOne kk) [.ref (G.2.2.2 (17)), .int x1] M (dO dZM (fO x1 M))) {fE : Int32 → Mem → Option (Bool × Mem)} (hfE : ∀ (x1 : Int32) (M : Mem), Mt G (mi_X2_readEither kk) [.ref (G.2.2.2 (17)), .int x1] M (dO dZM (fE x1 M))) (x1 : Int32) (M : Mem) : Mt G (mi_X2_readBoth (kk + 1)) [.ref (G.2.2.2 (17)), .int x1] M ((dO dZM) (X2_readBoth fO fE x1 M)) := by
  refine Mt_of (lv := [some (.ref (G.2.2.2 (17))), some (.int x1)]) (show plainName RX2 = true by decide) rfl (Nat.le_of_ble_eq_true rfl) rfl ?_
  refine r_le (lv' := [some (.ref (G.2.2.2 (17))), some (.int x1), none, none]) (And.intro rfl (And.intro rfl True.intro)) ?_
  unfold X2_readBoth
  refine r_aload_n dX2_readBoth_0 rfl ?_
  refine r_iload_n dX2_readBoth_1 rfl ?_
  refine c_OZM rfl (inv_V (mi := (mi_X2_readBoth (kk + 1))) (b := 17) (rest := []) (X2_readOne_ok G hfO hfE x1 M) rfl (by show (40 + 6 * (kk + 1) + 4) + 1 ≤ (40 + 6 * (kk + 1) + 5); omega) dX2_readBoth_2 lkm_X2_40 cal_X2_readOne cX_17 rfl rfl (Nat.le_of_ble_eq_true rfl) rfl) (fun b1 M2 => ?_)
  refine r_istore_n (lv' := [some (.ref (G.2.2.2 (17))), some (.int x1), some (.int (b2i (b1))), none]) dX2_readBoth_5 (Nat.le_of_ble_eq_true rfl) rfl rfl ?_
  refine r_iconst (x := 0) dX2_readBoth_6 rfl ?_
  refine r_istore_n (lv' := [some (.ref (G.2.2.2 (17))), some (.int x1), some (.int (b2i (b1))), some (.int 0)]) dX2_readBoth_7 (Nat.le_of_ble_eq_true rfl) rfl rfl ?_
  refine r_jB2 (j := 60) (lvj := fun e11 M12 => [none, none, some (.int e11), none]) (stj := fun e11 M12 => []) (Mj := fun e11 M12 => M12) (fun e11 M12 => ?_) (fun hj60 => ?_)
  · refine r_iload_n dX2_readBoth_60 rfl ?_
    refine r_gd rfl (fun gz => ?_)
    exact r_zretI dX2_readBoth_61 rfl gz rfl
  exact r_lk (X2_readBoth_L1_ok G hfO hfE x1 rfl hj60 zFU (b2i (b1)) 0 M2) (And.intro rfl (And.intro rfl (And.intro rfl (And.intro rfl True.intro))))

noncomputable def X2_readEither_L1 (fO : Int32 → Mem → Option (Bool × Mem)) (fE : Int32 → Mem → Option (Bool × Mem)) (x1 : Int32) : Nat → Int32 → Int32 → Mem → Option (Int32 × Mem)
  | 0, _, _, _ => none
  | n + 1, c2, c3, M =>
    if 1600 ≤ c3 then
      some (c2, M)
    else
    if c2 = 0 then
      some (c2, M)
    else
    bo_ (X6_says 40 M) fun b5 =>
    if b5 = true then
      bo_ (X6_step M) fun M7 =>
      bp_ (X2_readBoth fO fE x1 M7) fun b8 M9 =>
      lt_ (X1_write 13 20124 M9) fun M10 =>
      X2_readEither_L1 fO fE x1 n (b2i (b8)) (c3 + 1) M10
    else
    some (c2, M)
noncomputable def X2_readEither (fO : Int32 → Mem → Option (Bool × Mem)) (fE : Int32 → Mem → Option (Bool × Mem)) (x1 : Int32) (M : Mem) : Option (Bool × Mem) :=
  bp_ (X2_readBoth fO fE x1 M) fun b1 M2 =>
  b2_ (α := Int32) (β := Mem) (X2_readEither_L1 fO fE x1 zFU (b2i (b1)) 0 M2) fun e11 M12 =>
  gd_ (e11 = 0 ∨ e11 = 1) (some ((decide (e11 = 1)), M12))
set_option maxRecDepth 100000 in
set_option maxHeartbeats 4000000 in
theorem X2_readEither_L1_ok (G : Gh) {kk : Nat} {fO : Int32 → Mem → Option (Bool × Mem)} (hfO : ∀ (x1 : Int32) (M : Mem), Mt G (mi_X2_readOne kk) [.ref (G.2.2.2 (17)), .int x1] M (dO dZM (fO x1 M))) {fE : Int32 → Mem → Option (Bool × Mem)} (hfE : ∀ (x1 : Int32) (M : Mem), Mt G (mi_X2_readEither kk) [.ref (G.2.2.2 (17)), .int x1] M (dO dZM (fE x1 M))) (x1 : Int32) {dn : Option (Int32 × Mem) → Option (Option Value × Mem)} (hs : dn none = none) (hx : ∀ (e11 : Int32) (M12 : Mem), Wr G (mi_X2_readEither (kk + 1)) dn 60 [none, none, some (.int e11), none] [] M12 (some (e11, M12))) : ∀ (n : Nat) (c2 : Int32) (c3 : Int32) (M : Mem), Wr G (mi_X2_readEither (kk + 1)) dn 8 [some (.ref (G.2.2.2 (17))), some (.int x1), some (.int c2), some (.int c3)] [] M (X2_readEither_L1 fO fE x1 n c2 c3 M) := by
  intro n
  induction n with
  | zero => intro c2 c3 M; exact r_none (by exact hs)
  | succ n ih =>
    intro c2 c3 M
    rw [X2_readEither_L1]
    refine r_iload_n dX2_readEither_8 rfl ?_
    refine r_sipush (x := 1600) dX2_readEither_9 rfl ?_
    refine r_icmp_ge (tgt := 60) dX2_readEither_12 rfl (fun h3 => ?_) (fun h3 => ?_)
    · exact r_lk (hx c2 M) (And.intro rfl True.intro)
    refine r_iload_n dX2_readEither_15 rfl ?_
    refine r_if_eq (tgt := 60) dX2_readEither_16 rfl (fun h4 => ?_) (fun h4 => ?_)
    · exact r_lk (hx c2 M) (And.intro rfl True.intro)
    refine r_aload_n dX2_readEither_19 rfl ?_
    refine r_getf (v := .ref (G.2.2.2 (16))) dX2_readEither_20 fX_17_0 kX2 (by decide) lkf_X2_9 rfl ?_
    refine r_ldcS (i := 40) dX2_readEither_23 rfl ?_
    refine c_OZ (by exact hs) (inv_V (mi := (mi_X2_readEither (kk + 1))) (b := 16) (rest := []) (X6_says_ok G (w1 := 40) (by decide) M) rfl (by show 8 + 1 ≤ (40 + 6 * (kk + 1) + 6); omega) dX2_readEither_25 lkm_X2_25 cal_X6_says cX_16 rfl rfl (Nat.le_of_ble_eq_true rfl) rfl) (fun b5 => ?_)
    refine r_ifz_eq (tgt := 60) dX2_readEither_28 rfl (fun h6 => ?_) (fun h6 => ?_)
    · refine r_aload_n dX2_readEither_31 rfl ?_
      refine r_getf (v := .ref (G.2.2.2 (16))) dX2_readEither_32 fX_17_0 kX2 (by decide) lkf_X2_9 rfl ?_
      refine c_OV (by exact hs) (inv_V (mi := (mi_X2_readEither (kk + 1))) (b := 16) (rest := []) (X6_step_ok G M) rfl (by show 4 + 1 ≤ (40 + 6 * (kk + 1) + 6); omega) dX2_readEither_35 lkm_X2_31 cal_X6_step cX_16 rfl rfl (Nat.le_of_ble_eq_true rfl) rfl) (fun M7 => ?_)
      refine r_aload_n dX2_readEither_38 rfl ?_
      refine r_iload_n dX2_readEither_39 rfl ?_
      refine c_OZM (by exact hs) (inv_V (mi := (mi_X2_readEither (kk + 1))) (b := 17) (rest := []) (X2_readBoth_ok G hfO hfE x1 M7) rfl (by show (40 + 6 * (kk + 1) + 5) + 1 ≤ (40 + 6 * (kk + 1) + 6); omega) dX2_readEither_40 lkm_X2_19 cal_X2_readBoth cX_17 rfl rfl (Nat.le_of_ble_eq_true rfl) rfl) (fun b8 M9 => ?_)
      refine r_istore_n (lv' := [some (.ref (G.2.2.2 (17))), some (.int x1), some (.int (b2i (b8))), some (.int c3)]) dX2_readEither_43 (Nat.le_of_ble_eq_true rfl) rfl rfl ?_
      refine r_aload_n dX2_readEither_44 rfl ?_
      refine r_getf (v := .ref (G.2.2.2 (13))) dX2_readEither_45 fX_17_1 kX2 (by decide) lkf_X2_15 rfl ?_
      refine r_sipush (x := 20124) dX2_readEither_48 rfl ?_
      refine c_V (inv_V (mi := (mi_X2_readEither (kk + 1))) (b := 13) (rest := []) (X1_write_ok_13 G 20124 M9) rfl (by show 2 + 1 ≤ (40 + 6 * (kk + 1) + 6); omega) dX2_readEither_51 lkm_X2_36 cal_X1_write cX_13 rfl rfl (Nat.le_of_ble_eq_true rfl) rfl) (fun M10 => ?_)
      refine r_iinc (y := c3 + 1) (lv' := [some (.ref (G.2.2.2 (17))), some (.int x1), some (.int (b2i (b8))), some (.int (c3 + 1))]) dX2_readEither_54 rfl rfl (Nat.le_of_ble_eq_true rfl) rfl rfl ?_
      refine r_goto (tgt := 8) dX2_readEither_57 rfl ?_
      exact r_lk (ih (b2i (b8)) (c3 + 1) M10) (And.intro rfl (And.intro rfl (And.intro rfl (And.intro rfl True.intro))))
    exact r_lk (hx c2 M) (And.intro rfl True.intro)
set_option maxRecDepth 100000 in
set_option maxHeartbeats 4000000 in
theorem X2_readEither_ok (G : Gh) {kk : Nat} {fO : Int32 → Mem → Option (Bool × Mem)} (hfO : ∀ (x1 : Int32) (M : Mem), Mt G (mi_X2_readOne kk) [.ref (G.2.2.2 (17)), .int x1] M (dO dZM (fO x1 M))) {fE : Int32 → Mem → Option (Bool × Mem)} (hfE : ∀ (x1 : Int32) (M : Mem), Mt G (mi_X2_readEither kk) [.ref (G.2.2.2 (17)), .int x1] M (dO dZM (fE x1 M))) (x1 : Int32) (M : Mem) : Mt G (mi_X2_readEither (kk + 1)) [.ref (G.2.2.2 (17)), .int x1] M ((dO dZM) (X2_readEither fO fE x1 M)) := by
  refine Mt_of (lv := [some (.ref (G.2.2.2 (17))), some (.int x1)]) (show plainName RX2 = true by decide) rfl (Nat.le_of_ble_eq_true rfl) rfl ?_
  refine r_le (lv' := [some (.ref (G.2.2.2 (17))), some (.int x1), none, none]) (And.intro rfl (And.intro rfl True.intro)) ?_
  unfold X2_readEither
  refine r_aload_n dX2_readEither_0 rfl ?_
  refine r_iload_n dX2_readEither_1 rfl ?_
  refine c_OZM rfl (inv_V (mi := (mi_X2_readEither (kk + 1))) (b := 17) (rest := []) (X2_readBoth_ok G hfO hfE x1 M) rfl (by show (40 + 6 * (kk + 1) + 5) + 1 ≤ (40 + 6 * (kk + 1) + 6); omega) dX2_readEither_2 lkm_X2_19 cal_X2_readBoth cX_17 rfl rfl (Nat.le_of_ble_eq_true rfl) rfl) (fun b1 M2 => ?_)
  refine r_istore_n (lv' := [some (.ref (G.2.2.2 (17))), some (.int x1), some (.int (b2i (b1))), none]) dX2_readEither_5 (Nat.le_of_ble_eq_true rfl) rfl rfl ?_
  refine r_iconst (x := 0) dX2_readEither_6 rfl ?_
  refine r_istore_n (lv' := [some (.ref (G.2.2.2 (17))), some (.int x1), some (.int (b2i (b1))), some (.int 0)]) dX2_readEither_7 (Nat.le_of_ble_eq_true rfl) rfl rfl ?_
  refine r_jB2 (j := 60) (lvj := fun e11 M12 => [none, none, some (.int e11), none]) (stj := fun e11 M12 => []) (Mj := fun e11 M12 => M12) (fun e11 M12 => ?_) (fun hj60 => ?_)
  · refine r_iload_n dX2_readEither_60 rfl ?_
    refine r_gd rfl (fun gz => ?_)
    exact r_zretI dX2_readEither_61 rfl gz rfl
  exact r_lk (X2_readEither_L1_ok G hfO hfE x1 rfl hj60 zFU (b2i (b1)) 0 M2) (And.intro rfl (And.intro rfl (And.intro rfl (And.intro rfl True.intro))))
noncomputable def X2_RR : Nat → (Int32 → Mem → Option (Bool × Mem)) × (Int32 → Mem → Option (Bool × Mem))
  | 0 => (fun _ _ => none, fun _ _ => none)
  | n + 1 => (fun d M => X2_readEither (X2_RR n).2 (X2_RR n).1 d M, fun d M => X2_readOne (X2_RR n).2 (X2_RR n).1 d M)
theorem X2_RR_ok (G : Gh) : ∀ n : Nat, (∀ (x1 : Int32) (M : Mem), Mt G (mi_X2_readEither n) [.ref (G.2.2.2 (17)), .int x1] M (dO dZM ((X2_RR n).1 x1 M))) ∧ (∀ (x1 : Int32) (M : Mem), Mt G (mi_X2_readOne n) [.ref (G.2.2.2 (17)), .int x1] M (dO dZM ((X2_RR n).2 x1 M))) := by
  intro n
  induction n with
  | zero => exact ⟨fun x1 M => Mt_none (σ := Unit) rfl, fun x1 M => Mt_none (σ := Unit) rfl⟩
  | succ n ih => exact ⟨fun x1 M => X2_readEither_ok G ih.2 ih.1 x1 M, fun x1 M => X2_readOne_ok G ih.2 ih.1 x1 M⟩

theorem dX4_readGrow_0 : decode cX4_readGrow 0 = .ok (.aload_n 0, 1) := by decide +kernel
theorem dX4_readGrow_1 : decode cX4_readGrow 1 = .ok (.aload_n 0, 1) := by decide +kernel
theorem dX4_readGrow_2 : decode cX4_readGrow 2 = .ok (.getfield 80, 3) := by decide +kernel
theorem dX4_readGrow_5 : decode cX4_readGrow 5 = .ok (.ifCond .ne 7, 3) := by decide +kernel
theorem dX4_readGrow_8 : decode cX4_readGrow 8 = .ok (.iconst 1, 1) := by decide +kernel
theorem dX4_readGrow_9 : decode cX4_readGrow 9 = .ok (.goto 4, 3) := by decide +kernel
theorem dX4_readGrow_12 : decode cX4_readGrow 12 = .ok (.iconst 0, 1) := by decide +kernel
theorem dX4_readGrow_13 : decode cX4_readGrow 13 = .ok (.invokevirtual 159, 3) := by decide +kernel
theorem dX4_readGrow_16 : decode cX4_readGrow 16 = .ok (.ifCond .ne 5, 3) := by decide +kernel
theorem dX4_readGrow_19 : decode cX4_readGrow 19 = .ok (.iconst 0, 1) := by decide +kernel
theorem dX4_readGrow_20 : decode cX4_readGrow 20 = .ok (.ireturn, 1) := by decide +kernel
theorem dX4_readGrow_21 : decode cX4_readGrow 21 = .ok (.aload_n 0, 1) := by decide +kernel
theorem dX4_readGrow_22 : decode cX4_readGrow 22 = .ok (.iconst 1, 1) := by decide +kernel
theorem dX4_readGrow_23 : decode cX4_readGrow 23 = .ok (.putfield 80, 3) := by decide +kernel
theorem dX4_readGrow_26 : decode cX4_readGrow 26 = .ok (.aload_n 0, 1) := by decide +kernel
theorem dX4_readGrow_27 : decode cX4_readGrow 27 = .ok (.getfield 53, 3) := by decide +kernel
theorem dX4_readGrow_30 : decode cX4_readGrow 30 = .ok (.iconst 0, 1) := by decide +kernel
theorem dX4_readGrow_31 : decode cX4_readGrow 31 = .ok (.invokevirtual 228, 3) := by decide +kernel
theorem dX4_readGrow_34 : decode cX4_readGrow 34 = .ok (.ifCond .eq 19, 3) := by decide +kernel
theorem dX4_readGrow_37 : decode cX4_readGrow 37 = .ok (.aload_n 0, 1) := by decide +kernel
theorem dX4_readGrow_38 : decode cX4_readGrow 38 = .ok (.getfield 40, 3) := by decide +kernel
theorem dX4_readGrow_41 : decode cX4_readGrow 41 = .ok (.bipush 59, 2) := by decide +kernel
theorem dX4_readGrow_43 : decode cX4_readGrow 43 = .ok (.invokevirtual 167, 3) := by decide +kernel
theorem dX4_readGrow_46 : decode cX4_readGrow 46 = .ok (.ifCond .eq 7, 3) := by decide +kernel
theorem dX4_readGrow_49 : decode cX4_readGrow 49 = .ok (.iconst 1, 1) := by decide +kernel
theorem dX4_readGrow_50 : decode cX4_readGrow 50 = .ok (.goto 4, 3) := by decide +kernel
theorem dX4_readGrow_53 : decode cX4_readGrow 53 = .ok (.iconst 0, 1) := by decide +kernel
theorem dX4_readGrow_54 : decode cX4_readGrow 54 = .ok (.ireturn, 1) := by decide +kernel
abbrev mi_X4_readGrow : MI := (zTX, RX4, yX4_readGrow, cX4_readGrow, 1, (some .boolean), 108)
theorem cal_X4_readGrow : zCalV mi_X4_readGrow 0 := ⟨⟨zTB_i3 180 (by decide +kernel), zTB_i3 179 (by decide +kernel), zTB_i0 15 (by decide +kernel), zTB_i1 3 (by decide +kernel)⟩, ⟨by decide, by decide, by decide +kernel⟩, by decide⟩
noncomputable def X4_readGrow (M : Mem) : Option (Bool × Mem) :=
  l1_ (α := Int32) (
    if (M.1 3 8) = 0 then
      1
    else
    0) fun y2 =>
  bp_ (X4_begins y2 M) fun b3 M4 =>
  if b3 = true then
    lt_ (uI M4 3 8 1) fun M6 =>
    bp_ ((X2_RR 10).1 0 M6) fun b7 M8 =>
    if b7 = true then
      bp_ (X6_takesSign 59 M8) fun b10 M11 =>
      if b10 = true then
        some (true, M11)
      else
      some (false, M11)
    else
    some (false, M8)
  else
  some (false, M4)
set_option maxRecDepth 100000 in
set_option maxHeartbeats 4000000 in
theorem X4_readGrow_ok (G : Gh) (M : Mem) : Mt G mi_X4_readGrow [.ref (G.2.2.2 (3))] M ((dO dZM) (X4_readGrow M)) := by
  refine Mt_of (lv := [some (.ref (G.2.2.2 (3)))]) (by decide) rfl (Nat.le_of_ble_eq_true rfl) rfl ?_
  unfold X4_readGrow
  refine r_aload_n dX4_readGrow_0 rfl ?_
  refine r_aload_n dX4_readGrow_1 rfl ?_
  refine r_getf (v := .int (M.1 3 8)) dX4_readGrow_2 fX_3_8 kX4 (by decide) lkf_X4_80 rfl ?_
  refine r_jL1 (j := 13) (lvj := fun y2 => [some (.ref (G.2.2.2 (3)))]) (stj := fun y2 => [.int y2, .ref (G.2.2.2 (3))]) (Mj := fun y2 => M) (fun y2 => ?_) (fun hj13 => ?_)
  · refine c_OZM rfl (inv_V (mi := mi_X4_readGrow) (b := 3) (rest := []) (X4_begins_ok G y2 M) rfl (by decide) dX4_readGrow_13 lkm_X4_159 cal_X4_begins cX_3 rfl rfl (Nat.le_of_ble_eq_true rfl) rfl) (fun b3 M4 => ?_)
    refine r_ifz_ne (tgt := 21) dX4_readGrow_16 rfl (fun h5 => ?_) (fun h5 => ?_)
    · refine r_aload_n dX4_readGrow_21 rfl ?_
      refine r_iconst (x := 1) dX4_readGrow_22 rfl ?_
      refine r_putI dX4_readGrow_23 fX_3_8 kX4 (by decide) rfl rfl lkf_X4_80 (fun _ => rfl) rfl rfl (fun M6 => ?_)
      refine r_aload_n dX4_readGrow_26 rfl ?_
      refine r_getf (v := .ref (G.2.2.2 (17))) dX4_readGrow_27 fX_3_2 kX4 (by decide) lkf_X4_53 rfl ?_
      refine r_iconst (x := 0) dX4_readGrow_30 rfl ?_
      refine c_OZM rfl (inv_VN (mi := mi_X4_readGrow) (b := 17) (rest := []) ((X2_RR_ok G 10).1 0 M6) rfl (by decide) dX4_readGrow_31 lkm_X4_228 cal_X2_readEither cX_17 rfl rfl (Nat.le_of_ble_eq_true rfl) rfl) (fun b7 M8 => ?_)
      refine r_ifz_eq (tgt := 53) dX4_readGrow_34 rfl (fun h9 => ?_) (fun h9 => ?_)
      · refine r_aload_n dX4_readGrow_37 rfl ?_
        refine r_getf (v := .ref (G.2.2.2 (16))) dX4_readGrow_38 fX_3_1 kX4 (by decide) lkf_X4_40 rfl ?_
        refine r_bipush (x := 59) dX4_readGrow_41 rfl ?_
        refine c_OZM rfl (inv_V (mi := mi_X4_readGrow) (b := 16) (rest := []) (X6_takesSign_ok G 59 M8) rfl (by decide) dX4_readGrow_43 lkm_X4_167 cal_X6_takesSign cX_16 rfl rfl (Nat.le_of_ble_eq_true rfl) rfl) (fun b10 M11 => ?_)
        refine r_ifz_eq (tgt := 53) dX4_readGrow_46 rfl (fun h12 => ?_) (fun h12 => ?_)
        · refine r_iconst (x := 1) dX4_readGrow_49 rfl ?_
          refine r_goto (tgt := 54) dX4_readGrow_50 rfl ?_
          exact r_iret (ty := .boolean) dX4_readGrow_54 rfl rfl rfl
        refine r_iconst (x := 0) dX4_readGrow_53 rfl ?_
        exact r_iret (ty := .boolean) dX4_readGrow_54 rfl rfl rfl
      refine r_iconst (x := 0) dX4_readGrow_53 rfl ?_
      exact r_iret (ty := .boolean) dX4_readGrow_54 rfl rfl rfl
    refine r_iconst (x := 0) dX4_readGrow_19 rfl ?_
    exact r_iret (ty := .boolean) dX4_readGrow_20 rfl rfl rfl
  refine r_if_ne (tgt := 12) dX4_readGrow_5 rfl (fun h1 => ?_) (fun h1 => ?_)
  · refine r_iconst (x := 1) dX4_readGrow_8 rfl ?_
    refine r_goto (tgt := 13) dX4_readGrow_9 rfl ?_
    exact r_lk (hj13 1) (And.intro rfl True.intro)
  refine r_iconst (x := 0) dX4_readGrow_12 rfl ?_
  exact r_lk (hj13 0) (And.intro rfl True.intro)

theorem dX4_readHoursOfWeek_0 : decode cX4_readHoursOfWeek 0 = .ok (.aload_n 0, 1) := by decide +kernel
theorem dX4_readHoursOfWeek_1 : decode cX4_readHoursOfWeek 1 = .ok (.aload_n 0, 1) := by decide +kernel
theorem dX4_readHoursOfWeek_2 : decode cX4_readHoursOfWeek 2 = .ok (.getfield 84, 3) := by decide +kernel
theorem dX4_readHoursOfWeek_5 : decode cX4_readHoursOfWeek 5 = .ok (.ifCond .ne 7, 3) := by decide +kernel
theorem dX4_readHoursOfWeek_8 : decode cX4_readHoursOfWeek 8 = .ok (.iconst 1, 1) := by decide +kernel
theorem dX4_readHoursOfWeek_9 : decode cX4_readHoursOfWeek 9 = .ok (.goto 4, 3) := by decide +kernel
theorem dX4_readHoursOfWeek_12 : decode cX4_readHoursOfWeek 12 = .ok (.iconst 0, 1) := by decide +kernel
theorem dX4_readHoursOfWeek_13 : decode cX4_readHoursOfWeek 13 = .ok (.invokevirtual 159, 3) := by decide +kernel
theorem dX4_readHoursOfWeek_16 : decode cX4_readHoursOfWeek 16 = .ok (.ifCond .eq 16, 3) := by decide +kernel
theorem dX4_readHoursOfWeek_19 : decode cX4_readHoursOfWeek 19 = .ok (.aload_n 0, 1) := by decide +kernel
theorem dX4_readHoursOfWeek_20 : decode cX4_readHoursOfWeek 20 = .ok (.getfield 40, 3) := by decide +kernel
theorem dX4_readHoursOfWeek_23 : decode cX4_readHoursOfWeek 23 = .ok (.iconst 1, 1) := by decide +kernel
theorem dX4_readHoursOfWeek_24 : decode cX4_readHoursOfWeek 24 = .ok (.bipush 8, 2) := by decide +kernel
theorem dX4_readHoursOfWeek_26 : decode cX4_readHoursOfWeek 26 = .ok (.invokevirtual 178, 3) := by decide +kernel
theorem dX4_readHoursOfWeek_29 : decode cX4_readHoursOfWeek 29 = .ok (.ifCond .ne 5, 3) := by decide +kernel
theorem dX4_readHoursOfWeek_32 : decode cX4_readHoursOfWeek 32 = .ok (.iconst 0, 1) := by decide +kernel
theorem dX4_readHoursOfWeek_33 : decode cX4_readHoursOfWeek 33 = .ok (.ireturn, 1) := by decide +kernel
theorem dX4_readHoursOfWeek_34 : decode cX4_readHoursOfWeek 34 = .ok (.aload_n 0, 1) := by decide +kernel
theorem dX4_readHoursOfWeek_35 : decode cX4_readHoursOfWeek 35 = .ok (.iconst 1, 1) := by decide +kernel
theorem dX4_readHoursOfWeek_36 : decode cX4_readHoursOfWeek 36 = .ok (.putfield 84, 3) := by decide +kernel
theorem dX4_readHoursOfWeek_39 : decode cX4_readHoursOfWeek 39 = .ok (.aload_n 0, 1) := by decide +kernel
theorem dX4_readHoursOfWeek_40 : decode cX4_readHoursOfWeek 40 = .ok (.getfield 31, 3) := by decide +kernel
theorem dX4_readHoursOfWeek_43 : decode cX4_readHoursOfWeek 43 = .ok (.aload_n 0, 1) := by decide +kernel
theorem dX4_readHoursOfWeek_44 : decode cX4_readHoursOfWeek 44 = .ok (.getfield 40, 3) := by decide +kernel
theorem dX4_readHoursOfWeek_47 : decode cX4_readHoursOfWeek 47 = .ok (.getfield 185, 3) := by decide +kernel
theorem dX4_readHoursOfWeek_50 : decode cX4_readHoursOfWeek 50 = .ok (.putfield 231, 3) := by decide +kernel
theorem dX4_readHoursOfWeek_53 : decode cX4_readHoursOfWeek 53 = .ok (.aload_n 0, 1) := by decide +kernel
theorem dX4_readHoursOfWeek_54 : decode cX4_readHoursOfWeek 54 = .ok (.getfield 40, 3) := by decide +kernel
theorem dX4_readHoursOfWeek_57 : decode cX4_readHoursOfWeek 57 = .ok (.bipush 59, 2) := by decide +kernel
theorem dX4_readHoursOfWeek_59 : decode cX4_readHoursOfWeek 59 = .ok (.invokevirtual 167, 3) := by decide +kernel
theorem dX4_readHoursOfWeek_62 : decode cX4_readHoursOfWeek 62 = .ok (.ireturn, 1) := by decide +kernel
abbrev mi_X4_readHoursOfWeek : MI := (zTX, RX4, yX4_readHoursOfWeek, cX4_readHoursOfWeek, 1, (some .boolean), 6)
theorem cal_X4_readHoursOfWeek : zCalV mi_X4_readHoursOfWeek 0 := ⟨⟨zTB_i3 236 (by decide +kernel), zTB_i3 235 (by decide +kernel), zTB_i0 23 (by decide +kernel), zTB_i1 3 (by decide +kernel)⟩, ⟨by decide, by decide, by decide +kernel⟩, by decide⟩
noncomputable def X4_readHoursOfWeek (M : Mem) : Option (Bool × Mem) :=
  l1_ (α := Int32) (
    if (M.1 3 9) = 0 then
      1
    else
    0) fun y2 =>
  bp_ (X4_begins y2 M) fun b3 M4 =>
  if b3 = true then
    bp_ (X6_takesNumber 1 8 M4) fun b6 M7 =>
    if b6 = true then
      lt_ (uI M7 3 9 1) fun M9 =>
      lt_ (uI M9 4 4 (M9.1 16 4)) fun M10 =>
      bp_ (X6_takesSign 59 M10) fun b11 M12 =>
      some (b11, M12)
    else
    some (false, M7)
  else
  some (false, M4)
set_option maxRecDepth 100000 in
set_option maxHeartbeats 4000000 in
theorem X4_readHoursOfWeek_ok (G : Gh) (M : Mem) : Mt G mi_X4_readHoursOfWeek [.ref (G.2.2.2 (3))] M ((dO dZM) (X4_readHoursOfWeek M)) := by
  refine Mt_of (lv := [some (.ref (G.2.2.2 (3)))]) (by decide) rfl (Nat.le_of_ble_eq_true rfl) rfl ?_
  unfold X4_readHoursOfWeek
  refine r_aload_n dX4_readHoursOfWeek_0 rfl ?_
  refine r_aload_n dX4_readHoursOfWeek_1 rfl ?_
  refine r_getf (v := .int (M.1 3 9)) dX4_readHoursOfWeek_2 fX_3_9 kX4 (by decide) lkf_X4_84 rfl ?_
  refine r_jL1 (j := 13) (lvj := fun y2 => [some (.ref (G.2.2.2 (3)))]) (stj := fun y2 => [.int y2, .ref (G.2.2.2 (3))]) (Mj := fun y2 => M) (fun y2 => ?_) (fun hj13 => ?_)
  · refine c_OZM rfl (inv_V (mi := mi_X4_readHoursOfWeek) (b := 3) (rest := []) (X4_begins_ok G y2 M) rfl (by decide) dX4_readHoursOfWeek_13 lkm_X4_159 cal_X4_begins cX_3 rfl rfl (Nat.le_of_ble_eq_true rfl) rfl) (fun b3 M4 => ?_)
    refine r_ifz_eq (tgt := 32) dX4_readHoursOfWeek_16 rfl (fun h5 => ?_) (fun h5 => ?_)
    · refine r_aload_n dX4_readHoursOfWeek_19 rfl ?_
      refine r_getf (v := .ref (G.2.2.2 (16))) dX4_readHoursOfWeek_20 fX_3_1 kX4 (by decide) lkf_X4_40 rfl ?_
      refine r_iconst (x := 1) dX4_readHoursOfWeek_23 rfl ?_
      refine r_bipush (x := 8) dX4_readHoursOfWeek_24 rfl ?_
      refine c_OZM rfl (inv_V (mi := mi_X4_readHoursOfWeek) (b := 16) (rest := []) (X6_takesNumber_ok G 1 8 M4) rfl (by decide) dX4_readHoursOfWeek_26 lkm_X4_178 cal_X6_takesNumber cX_16 rfl rfl (Nat.le_of_ble_eq_true rfl) rfl) (fun b6 M7 => ?_)
      refine r_ifz_ne (tgt := 34) dX4_readHoursOfWeek_29 rfl (fun h8 => ?_) (fun h8 => ?_)
      · refine r_aload_n dX4_readHoursOfWeek_34 rfl ?_
        refine r_iconst (x := 1) dX4_readHoursOfWeek_35 rfl ?_
        refine r_putI dX4_readHoursOfWeek_36 fX_3_9 kX4 (by decide) rfl rfl lkf_X4_84 (fun _ => rfl) rfl rfl (fun M9 => ?_)
        refine r_aload_n dX4_readHoursOfWeek_39 rfl ?_
        refine r_getf (v := .ref (G.2.2.2 (4))) dX4_readHoursOfWeek_40 fX_3_0 kX4 (by decide) lkf_X4_31 rfl ?_
        refine r_aload_n dX4_readHoursOfWeek_43 rfl ?_
        refine r_getf (v := .ref (G.2.2.2 (16))) dX4_readHoursOfWeek_44 fX_3_1 kX4 (by decide) lkf_X4_40 rfl ?_
        refine r_getf (v := .int (M9.1 16 4)) dX4_readHoursOfWeek_47 fX_16_4 kX6 (by decide) lkf_X4_185 rfl ?_
        refine r_putI dX4_readHoursOfWeek_50 fX_4_4 kX3 (by decide) rfl rfl lkf_X4_231 (fun _ => rfl) rfl rfl (fun M10 => ?_)
        refine r_aload_n dX4_readHoursOfWeek_53 rfl ?_
        refine r_getf (v := .ref (G.2.2.2 (16))) dX4_readHoursOfWeek_54 fX_3_1 kX4 (by decide) lkf_X4_40 rfl ?_
        refine r_bipush (x := 59) dX4_readHoursOfWeek_57 rfl ?_
        refine c_OZM rfl (inv_V (mi := mi_X4_readHoursOfWeek) (b := 16) (rest := []) (X6_takesSign_ok G 59 M10) rfl (by decide) dX4_readHoursOfWeek_59 lkm_X4_167 cal_X6_takesSign cX_16 rfl rfl (Nat.le_of_ble_eq_true rfl) rfl) (fun b11 M12 => ?_)
        exact r_iret (ty := .boolean) dX4_readHoursOfWeek_62 rfl (b2i_n _) rfl
      refine r_iconst (x := 0) dX4_readHoursOfWeek_32 rfl ?_
      exact r_iret (ty := .boolean) dX4_readHoursOfWeek_33 rfl rfl rfl
    refine r_iconst (x := 0) dX4_readHoursOfWeek_32 rfl ?_
    exact r_iret (ty := .boolean) dX4_readHoursOfWeek_33 rfl rfl rfl
  refine r_if_ne (tgt := 12) dX4_readHoursOfWeek_5 rfl (fun h1 => ?_) (fun h1 => ?_)
  · refine r_iconst (x := 1) dX4_readHoursOfWeek_8 rfl ?_
    refine r_goto (tgt := 13) dX4_readHoursOfWeek_9 rfl ?_
    exact r_lk (hj13 1) (And.intro rfl True.intro)
  refine r_iconst (x := 0) dX4_readHoursOfWeek_12 rfl ?_
  exact r_lk (hj13 0) (And.intro rfl True.intro)

theorem dX4_readDraw_0 : decode cX4_readDraw 0 = .ok (.aload_n 0, 1) := by decide +kernel
theorem dX4_readDraw_1 : decode cX4_readDraw 1 = .ok (.aload_n 0, 1) := by decide +kernel
theorem dX4_readDraw_2 : decode cX4_readDraw 2 = .ok (.getfield 87, 3) := by decide +kernel
theorem dX4_readDraw_5 : decode cX4_readDraw 5 = .ok (.ifCond .ne 7, 3) := by decide +kernel
theorem dX4_readDraw_8 : decode cX4_readDraw 8 = .ok (.iconst 1, 1) := by decide +kernel
theorem dX4_readDraw_9 : decode cX4_readDraw 9 = .ok (.goto 4, 3) := by decide +kernel
theorem dX4_readDraw_12 : decode cX4_readDraw 12 = .ok (.iconst 0, 1) := by decide +kernel
theorem dX4_readDraw_13 : decode cX4_readDraw 13 = .ok (.invokevirtual 159, 3) := by decide +kernel
theorem dX4_readDraw_16 : decode cX4_readDraw 16 = .ok (.ifCond .eq 17, 3) := by decide +kernel
theorem dX4_readDraw_19 : decode cX4_readDraw 19 = .ok (.aload_n 0, 1) := by decide +kernel
theorem dX4_readDraw_20 : decode cX4_readDraw 20 = .ok (.getfield 40, 3) := by decide +kernel
theorem dX4_readDraw_23 : decode cX4_readDraw 23 = .ok (.iconst 0, 1) := by decide +kernel
theorem dX4_readDraw_24 : decode cX4_readDraw 24 = .ok (.sipush 999, 3) := by decide +kernel
theorem dX4_readDraw_27 : decode cX4_readDraw 27 = .ok (.invokevirtual 178, 3) := by decide +kernel
theorem dX4_readDraw_30 : decode cX4_readDraw 30 = .ok (.ifCond .ne 5, 3) := by decide +kernel
theorem dX4_readDraw_33 : decode cX4_readDraw 33 = .ok (.iconst 0, 1) := by decide +kernel
theorem dX4_readDraw_34 : decode cX4_readDraw 34 = .ok (.ireturn, 1) := by decide +kernel
theorem dX4_readDraw_35 : decode cX4_readDraw 35 = .ok (.aload_n 0, 1) := by decide +kernel
theorem dX4_readDraw_36 : decode cX4_readDraw 36 = .ok (.iconst 1, 1) := by decide +kernel
theorem dX4_readDraw_37 : decode cX4_readDraw 37 = .ok (.putfield 87, 3) := by decide +kernel
theorem dX4_readDraw_40 : decode cX4_readDraw 40 = .ok (.aload_n 0, 1) := by decide +kernel
theorem dX4_readDraw_41 : decode cX4_readDraw 41 = .ok (.getfield 31, 3) := by decide +kernel
theorem dX4_readDraw_44 : decode cX4_readDraw 44 = .ok (.aload_n 0, 1) := by decide +kernel
theorem dX4_readDraw_45 : decode cX4_readDraw 45 = .ok (.getfield 40, 3) := by decide +kernel
theorem dX4_readDraw_48 : decode cX4_readDraw 48 = .ok (.getfield 185, 3) := by decide +kernel
theorem dX4_readDraw_51 : decode cX4_readDraw 51 = .ok (.putfield 233, 3) := by decide +kernel
theorem dX4_readDraw_54 : decode cX4_readDraw 54 = .ok (.aload_n 0, 1) := by decide +kernel
theorem dX4_readDraw_55 : decode cX4_readDraw 55 = .ok (.getfield 40, 3) := by decide +kernel
theorem dX4_readDraw_58 : decode cX4_readDraw 58 = .ok (.bipush 59, 2) := by decide +kernel
theorem dX4_readDraw_60 : decode cX4_readDraw 60 = .ok (.invokevirtual 167, 3) := by decide +kernel
theorem dX4_readDraw_63 : decode cX4_readDraw 63 = .ok (.ireturn, 1) := by decide +kernel
abbrev mi_X4_readDraw : MI := (zTX, RX4, yX4_readDraw, cX4_readDraw, 1, (some .boolean), 6)
theorem cal_X4_readDraw : zCalV mi_X4_readDraw 0 := ⟨⟨zTB_i4 1 (by decide +kernel), zTB_i4 0 (by decide +kernel), zTB_i0 24 (by decide +kernel), zTB_i1 3 (by decide +kernel)⟩, ⟨by decide, by decide, by decide +kernel⟩, by decide⟩
noncomputable def X4_readDraw (M : Mem) : Option (Bool × Mem) :=
  l1_ (α := Int32) (
    if (M.1 3 10) = 0 then
      1
    else
    0) fun y2 =>
  bp_ (X4_begins y2 M) fun b3 M4 =>
  if b3 = true then
    bp_ (X6_takesNumber 0 999 M4) fun b6 M7 =>
    if b6 = true then
      lt_ (uI M7 3 10 1) fun M9 =>
      lt_ (uI M9 4 5 (M9.1 16 4)) fun M10 =>
      bp_ (X6_takesSign 59 M10) fun b11 M12 =>
      some (b11, M12)
    else
    some (false, M7)
  else
  some (false, M4)
set_option maxRecDepth 100000 in
set_option maxHeartbeats 4000000 in
theorem X4_readDraw_ok (G : Gh) (M : Mem) : Mt G mi_X4_readDraw [.ref (G.2.2.2 (3))] M ((dO dZM) (X4_readDraw M)) := by
  refine Mt_of (lv := [some (.ref (G.2.2.2 (3)))]) (by decide) rfl (Nat.le_of_ble_eq_true rfl) rfl ?_
  unfold X4_readDraw
  refine r_aload_n dX4_readDraw_0 rfl ?_
  refine r_aload_n dX4_readDraw_1 rfl ?_
  refine r_getf (v := .int (M.1 3 10)) dX4_readDraw_2 fX_3_10 kX4 (by decide) lkf_X4_87 rfl ?_
  refine r_jL1 (j := 13) (lvj := fun y2 => [some (.ref (G.2.2.2 (3)))]) (stj := fun y2 => [.int y2, .ref (G.2.2.2 (3))]) (Mj := fun y2 => M) (fun y2 => ?_) (fun hj13 => ?_)
  · refine c_OZM rfl (inv_V (mi := mi_X4_readDraw) (b := 3) (rest := []) (X4_begins_ok G y2 M) rfl (by decide) dX4_readDraw_13 lkm_X4_159 cal_X4_begins cX_3 rfl rfl (Nat.le_of_ble_eq_true rfl) rfl) (fun b3 M4 => ?_)
    refine r_ifz_eq (tgt := 33) dX4_readDraw_16 rfl (fun h5 => ?_) (fun h5 => ?_)
    · refine r_aload_n dX4_readDraw_19 rfl ?_
      refine r_getf (v := .ref (G.2.2.2 (16))) dX4_readDraw_20 fX_3_1 kX4 (by decide) lkf_X4_40 rfl ?_
      refine r_iconst (x := 0) dX4_readDraw_23 rfl ?_
      refine r_sipush (x := 999) dX4_readDraw_24 rfl ?_
      refine c_OZM rfl (inv_V (mi := mi_X4_readDraw) (b := 16) (rest := []) (X6_takesNumber_ok G 0 999 M4) rfl (by decide) dX4_readDraw_27 lkm_X4_178 cal_X6_takesNumber cX_16 rfl rfl (Nat.le_of_ble_eq_true rfl) rfl) (fun b6 M7 => ?_)
      refine r_ifz_ne (tgt := 35) dX4_readDraw_30 rfl (fun h8 => ?_) (fun h8 => ?_)
      · refine r_aload_n dX4_readDraw_35 rfl ?_
        refine r_iconst (x := 1) dX4_readDraw_36 rfl ?_
        refine r_putI dX4_readDraw_37 fX_3_10 kX4 (by decide) rfl rfl lkf_X4_87 (fun _ => rfl) rfl rfl (fun M9 => ?_)
        refine r_aload_n dX4_readDraw_40 rfl ?_
        refine r_getf (v := .ref (G.2.2.2 (4))) dX4_readDraw_41 fX_3_0 kX4 (by decide) lkf_X4_31 rfl ?_
        refine r_aload_n dX4_readDraw_44 rfl ?_
        refine r_getf (v := .ref (G.2.2.2 (16))) dX4_readDraw_45 fX_3_1 kX4 (by decide) lkf_X4_40 rfl ?_
        refine r_getf (v := .int (M9.1 16 4)) dX4_readDraw_48 fX_16_4 kX6 (by decide) lkf_X4_185 rfl ?_
        refine r_putI dX4_readDraw_51 fX_4_5 kX3 (by decide) rfl rfl lkf_X4_233 (fun _ => rfl) rfl rfl (fun M10 => ?_)
        refine r_aload_n dX4_readDraw_54 rfl ?_
        refine r_getf (v := .ref (G.2.2.2 (16))) dX4_readDraw_55 fX_3_1 kX4 (by decide) lkf_X4_40 rfl ?_
        refine r_bipush (x := 59) dX4_readDraw_58 rfl ?_
        refine c_OZM rfl (inv_V (mi := mi_X4_readDraw) (b := 16) (rest := []) (X6_takesSign_ok G 59 M10) rfl (by decide) dX4_readDraw_60 lkm_X4_167 cal_X6_takesSign cX_16 rfl rfl (Nat.le_of_ble_eq_true rfl) rfl) (fun b11 M12 => ?_)
        exact r_iret (ty := .boolean) dX4_readDraw_63 rfl (b2i_n _) rfl
      refine r_iconst (x := 0) dX4_readDraw_33 rfl ?_
      exact r_iret (ty := .boolean) dX4_readDraw_34 rfl rfl rfl
    refine r_iconst (x := 0) dX4_readDraw_33 rfl ?_
    exact r_iret (ty := .boolean) dX4_readDraw_34 rfl rfl rfl
  refine r_if_ne (tgt := 12) dX4_readDraw_5 rfl (fun h1 => ?_) (fun h1 => ?_)
  · refine r_iconst (x := 1) dX4_readDraw_8 rfl ?_
    refine r_goto (tgt := 13) dX4_readDraw_9 rfl ?_
    exact r_lk (hj13 1) (And.intro rfl True.intro)
  refine r_iconst (x := 0) dX4_readDraw_12 rfl ?_
  exact r_lk (hj13 0) (And.intro rfl True.intro)

theorem dX4_readLine_0 : decode cX4_readLine 0 = .ok (.aload_n 0, 1) := by decide +kernel
theorem dX4_readLine_1 : decode cX4_readLine 1 = .ok (.getfield 40, 3) := by decide +kernel
theorem dX4_readLine_4 : decode cX4_readLine 4 = .ok (.ldc 90, 2) := by decide +kernel
theorem dX4_readLine_6 : decode cX4_readLine 6 = .ok (.invokevirtual 92, 3) := by decide +kernel
theorem dX4_readLine_9 : decode cX4_readLine 9 = .ok (.ifCond .eq 8, 3) := by decide +kernel
theorem dX4_readLine_12 : decode cX4_readLine 12 = .ok (.aload_n 0, 1) := by decide +kernel
theorem dX4_readLine_13 : decode cX4_readLine 13 = .ok (.invokevirtual 96, 3) := by decide +kernel
theorem dX4_readLine_16 : decode cX4_readLine 16 = .ok (.ireturn, 1) := by decide +kernel
theorem dX4_readLine_17 : decode cX4_readLine 17 = .ok (.aload_n 0, 1) := by decide +kernel
theorem dX4_readLine_18 : decode cX4_readLine 18 = .ok (.getfield 40, 3) := by decide +kernel
theorem dX4_readLine_21 : decode cX4_readLine 21 = .ok (.ldc 99, 2) := by decide +kernel
theorem dX4_readLine_23 : decode cX4_readLine 23 = .ok (.invokevirtual 92, 3) := by decide +kernel
theorem dX4_readLine_26 : decode cX4_readLine 26 = .ok (.ifCond .eq 8, 3) := by decide +kernel
theorem dX4_readLine_29 : decode cX4_readLine 29 = .ok (.aload_n 0, 1) := by decide +kernel
theorem dX4_readLine_30 : decode cX4_readLine 30 = .ok (.invokevirtual 101, 3) := by decide +kernel
theorem dX4_readLine_33 : decode cX4_readLine 33 = .ok (.ireturn, 1) := by decide +kernel
theorem dX4_readLine_34 : decode cX4_readLine 34 = .ok (.aload_n 0, 1) := by decide +kernel
theorem dX4_readLine_35 : decode cX4_readLine 35 = .ok (.getfield 40, 3) := by decide +kernel
theorem dX4_readLine_38 : decode cX4_readLine 38 = .ok (.ldc 104, 2) := by decide +kernel
theorem dX4_readLine_40 : decode cX4_readLine 40 = .ok (.invokevirtual 92, 3) := by decide +kernel
theorem dX4_readLine_43 : decode cX4_readLine 43 = .ok (.ifCond .eq 21, 3) := by decide +kernel
theorem dX4_readLine_46 : decode cX4_readLine 46 = .ok (.aload_n 0, 1) := by decide +kernel
theorem dX4_readLine_47 : decode cX4_readLine 47 = .ok (.aload_n 0, 1) := by decide +kernel
theorem dX4_readLine_48 : decode cX4_readLine 48 = .ok (.getfield 31, 3) := by decide +kernel
theorem dX4_readLine_51 : decode cX4_readLine 51 = .ok (.getfield 106, 3) := by decide +kernel
theorem dX4_readLine_54 : decode cX4_readLine 54 = .ok (.aload_n 0, 1) := by decide +kernel
theorem dX4_readLine_55 : decode cX4_readLine 55 = .ok (.getfield 18, 3) := by decide +kernel
theorem dX4_readLine_58 : decode cX4_readLine 58 = .ok (.bipush 60, 2) := by decide +kernel
theorem dX4_readLine_60 : decode cX4_readLine 60 = .ok (.invokevirtual 110, 3) := by decide +kernel
theorem dX4_readLine_63 : decode cX4_readLine 63 = .ok (.ireturn, 1) := by decide +kernel
theorem dX4_readLine_64 : decode cX4_readLine 64 = .ok (.aload_n 0, 1) := by decide +kernel
theorem dX4_readLine_65 : decode cX4_readLine 65 = .ok (.getfield 40, 3) := by decide +kernel
theorem dX4_readLine_68 : decode cX4_readLine 68 = .ok (.ldc 114, 2) := by decide +kernel
theorem dX4_readLine_70 : decode cX4_readLine 70 = .ok (.invokevirtual 92, 3) := by decide +kernel
theorem dX4_readLine_73 : decode cX4_readLine 73 = .ok (.ifCond .eq 21, 3) := by decide +kernel
theorem dX4_readLine_76 : decode cX4_readLine 76 = .ok (.aload_n 0, 1) := by decide +kernel
theorem dX4_readLine_77 : decode cX4_readLine 77 = .ok (.aload_n 0, 1) := by decide +kernel
theorem dX4_readLine_78 : decode cX4_readLine 78 = .ok (.getfield 31, 3) := by decide +kernel
theorem dX4_readLine_81 : decode cX4_readLine 81 = .ok (.getfield 116, 3) := by decide +kernel
theorem dX4_readLine_84 : decode cX4_readLine 84 = .ok (.aload_n 0, 1) := by decide +kernel
theorem dX4_readLine_85 : decode cX4_readLine 85 = .ok (.getfield 22, 3) := by decide +kernel
theorem dX4_readLine_88 : decode cX4_readLine 88 = .ok (.bipush 9, 2) := by decide +kernel
theorem dX4_readLine_90 : decode cX4_readLine 90 = .ok (.invokevirtual 110, 3) := by decide +kernel
theorem dX4_readLine_93 : decode cX4_readLine 93 = .ok (.ireturn, 1) := by decide +kernel
theorem dX4_readLine_94 : decode cX4_readLine 94 = .ok (.aload_n 0, 1) := by decide +kernel
theorem dX4_readLine_95 : decode cX4_readLine 95 = .ok (.getfield 40, 3) := by decide +kernel
theorem dX4_readLine_98 : decode cX4_readLine 98 = .ok (.ldc 119, 2) := by decide +kernel
theorem dX4_readLine_100 : decode cX4_readLine 100 = .ok (.invokevirtual 92, 3) := by decide +kernel
theorem dX4_readLine_103 : decode cX4_readLine 103 = .ok (.ifCond .eq 8, 3) := by decide +kernel
theorem dX4_readLine_106 : decode cX4_readLine 106 = .ok (.aload_n 0, 1) := by decide +kernel
theorem dX4_readLine_107 : decode cX4_readLine 107 = .ok (.invokevirtual 121, 3) := by decide +kernel
theorem dX4_readLine_110 : decode cX4_readLine 110 = .ok (.ireturn, 1) := by decide +kernel
theorem dX4_readLine_111 : decode cX4_readLine 111 = .ok (.aload_n 0, 1) := by decide +kernel
theorem dX4_readLine_112 : decode cX4_readLine 112 = .ok (.getfield 40, 3) := by decide +kernel
theorem dX4_readLine_115 : decode cX4_readLine 115 = .ok (.ldc 124, 2) := by decide +kernel
theorem dX4_readLine_117 : decode cX4_readLine 117 = .ok (.invokevirtual 92, 3) := by decide +kernel
theorem dX4_readLine_120 : decode cX4_readLine 120 = .ok (.ifCond .eq 8, 3) := by decide +kernel
theorem dX4_readLine_123 : decode cX4_readLine 123 = .ok (.aload_n 0, 1) := by decide +kernel
theorem dX4_readLine_124 : decode cX4_readLine 124 = .ok (.invokevirtual 126, 3) := by decide +kernel
theorem dX4_readLine_127 : decode cX4_readLine 127 = .ok (.ireturn, 1) := by decide +kernel
theorem dX4_readLine_128 : decode cX4_readLine 128 = .ok (.aload_n 0, 1) := by decide +kernel
theorem dX4_readLine_129 : decode cX4_readLine 129 = .ok (.getfield 40, 3) := by decide +kernel
theorem dX4_readLine_132 : decode cX4_readLine 132 = .ok (.ldc 129, 2) := by decide +kernel
theorem dX4_readLine_134 : decode cX4_readLine 134 = .ok (.invokevirtual 92, 3) := by decide +kernel
theorem dX4_readLine_137 : decode cX4_readLine 137 = .ok (.ifCond .eq 8, 3) := by decide +kernel
theorem dX4_readLine_140 : decode cX4_readLine 140 = .ok (.aload_n 0, 1) := by decide +kernel
theorem dX4_readLine_141 : decode cX4_readLine 141 = .ok (.invokevirtual 131, 3) := by decide +kernel
theorem dX4_readLine_144 : decode cX4_readLine 144 = .ok (.ireturn, 1) := by decide +kernel
theorem dX4_readLine_145 : decode cX4_readLine 145 = .ok (.aload_n 0, 1) := by decide +kernel
theorem dX4_readLine_146 : decode cX4_readLine 146 = .ok (.getfield 40, 3) := by decide +kernel
theorem dX4_readLine_149 : decode cX4_readLine 149 = .ok (.ldc 134, 2) := by decide +kernel
theorem dX4_readLine_151 : decode cX4_readLine 151 = .ok (.invokevirtual 92, 3) := by decide +kernel
theorem dX4_readLine_154 : decode cX4_readLine 154 = .ok (.ifCond .eq 8, 3) := by decide +kernel
theorem dX4_readLine_157 : decode cX4_readLine 157 = .ok (.aload_n 0, 1) := by decide +kernel
theorem dX4_readLine_158 : decode cX4_readLine 158 = .ok (.invokevirtual 136, 3) := by decide +kernel
theorem dX4_readLine_161 : decode cX4_readLine 161 = .ok (.ireturn, 1) := by decide +kernel
theorem dX4_readLine_162 : decode cX4_readLine 162 = .ok (.aload_n 0, 1) := by decide +kernel
theorem dX4_readLine_163 : decode cX4_readLine 163 = .ok (.getfield 40, 3) := by decide +kernel
theorem dX4_readLine_166 : decode cX4_readLine 166 = .ok (.ldc 139, 2) := by decide +kernel
theorem dX4_readLine_168 : decode cX4_readLine 168 = .ok (.invokevirtual 92, 3) := by decide +kernel
theorem dX4_readLine_171 : decode cX4_readLine 171 = .ok (.ifCond .eq 8, 3) := by decide +kernel
theorem dX4_readLine_174 : decode cX4_readLine 174 = .ok (.aload_n 0, 1) := by decide +kernel
theorem dX4_readLine_175 : decode cX4_readLine 175 = .ok (.invokevirtual 141, 3) := by decide +kernel
theorem dX4_readLine_178 : decode cX4_readLine 178 = .ok (.ireturn, 1) := by decide +kernel
theorem dX4_readLine_179 : decode cX4_readLine 179 = .ok (.aload_n 0, 1) := by decide +kernel
theorem dX4_readLine_180 : decode cX4_readLine 180 = .ok (.getfield 40, 3) := by decide +kernel
theorem dX4_readLine_183 : decode cX4_readLine 183 = .ok (.ldc 144, 2) := by decide +kernel
theorem dX4_readLine_185 : decode cX4_readLine 185 = .ok (.invokevirtual 92, 3) := by decide +kernel
theorem dX4_readLine_188 : decode cX4_readLine 188 = .ok (.ifCond .eq 10, 3) := by decide +kernel
theorem dX4_readLine_191 : decode cX4_readLine 191 = .ok (.aload_n 0, 1) := by decide +kernel
theorem dX4_readLine_192 : decode cX4_readLine 192 = .ok (.invokevirtual 146, 3) := by decide +kernel
theorem dX4_readLine_195 : decode cX4_readLine 195 = .ok (.goto 11, 3) := by decide +kernel
theorem dX4_readLine_198 : decode cX4_readLine 198 = .ok (.aload_n 0, 1) := by decide +kernel
theorem dX4_readLine_199 : decode cX4_readLine 199 = .ok (.getfield 40, 3) := by decide +kernel
theorem dX4_readLine_202 : decode cX4_readLine 202 = .ok (.iconst 2, 1) := by decide +kernel
theorem dX4_readLine_203 : decode cX4_readLine 203 = .ok (.invokevirtual 149, 3) := by decide +kernel
theorem dX4_readLine_206 : decode cX4_readLine 206 = .ok (.ireturn, 1) := by decide +kernel
abbrev mi_X4_readLine : MI := (zTX, RX4, yX4_readLine, cX4_readLine, 1, (some .boolean), 109)
theorem cal_X4_readLine : zCalV mi_X4_readLine 0 := ⟨⟨zTB_i3 17 (by decide +kernel), zTB_i3 16 (by decide +kernel), zTB_i0 3 (by decide +kernel), zTB_i1 3 (by decide +kernel)⟩, ⟨by decide, by decide, by decide +kernel⟩, by decide⟩
noncomputable def X4_readLine (M : Mem) : Option (Bool × Mem) :=
  bo_ (X6_says 0 M) fun b1 =>
  if b1 = true then
    bp_ (X4_readKind M) fun b41 M42 =>
    some (b41, M42)
  else
  bo_ (X6_says 22 M) fun b3 =>
  if b3 = true then
    bp_ (X4_readMan M) fun b39 M40 =>
    some (b39, M40)
  else
  bo_ (X6_says 25 M) fun b5 =>
  if b5 = true then
    bp_ (X4_readHours 8 20 60 M) fun b37 M38 =>
    some (b37, M38)
  else
  bo_ (X6_says 26 M) fun b7 =>
  if b7 = true then
    bp_ (X4_readHours 9 21 9 M) fun b35 M36 =>
    some (b35, M36)
  else
  bo_ (X6_says 27 M) fun b9 =>
  if b9 = true then
    bp_ (X4_readHedge M) fun b33 M34 =>
    some (b33, M34)
  else
  bo_ (X6_says 28 M) fun b11 =>
  if b11 = true then
    bp_ (X4_readRate M) fun b31 M32 =>
    some (b31, M32)
  else
  bo_ (X6_says 30 M) fun b13 =>
  if b13 = true then
    bp_ (X4_readBook M) fun b29 M30 =>
    some (b29, M30)
  else
  bo_ (X6_says 31 M) fun b15 =>
  if b15 = true then
    bp_ (X4_readGrow M) fun b27 M28 =>
    some (b27, M28)
  else
  bo_ (X6_says 41 M) fun b17 =>
  if b17 = true then
    bp_ (X4_readHoursOfWeek M) fun b25 M26 =>
    some (b25, M26)
  else
  bo_ (X6_says 42 M) fun b19 =>
  if b19 = true then
    bp_ (X4_readDraw M) fun b23 M24 =>
    some (b23, M24)
  else
  lp_ (X6_refuse 2 M) fun b21 M22 =>
  some (b21, M22)
set_option maxRecDepth 100000 in
set_option maxHeartbeats 4000000 in
theorem X4_readLine_ok (G : Gh) (M : Mem) : Mt G mi_X4_readLine [.ref (G.2.2.2 (3))] M ((dO dZM) (X4_readLine M)) := by
  refine Mt_of (lv := [some (.ref (G.2.2.2 (3)))]) (by decide) rfl (Nat.le_of_ble_eq_true rfl) rfl ?_
  unfold X4_readLine
  refine r_aload_n dX4_readLine_0 rfl ?_
  refine r_getf (v := .ref (G.2.2.2 (16))) dX4_readLine_1 fX_3_1 kX4 (by decide) lkf_X4_40 rfl ?_
  refine r_ldcS (i := 0) dX4_readLine_4 rfl ?_
  refine c_OZ rfl (inv_V (mi := mi_X4_readLine) (b := 16) (rest := []) (X6_says_ok G (w1 := 0) (by decide) M) rfl (by decide) dX4_readLine_6 lkm_X4_92 cal_X6_says cX_16 rfl rfl (Nat.le_of_ble_eq_true rfl) rfl) (fun b1 => ?_)
  refine r_ifz_eq (tgt := 17) dX4_readLine_9 rfl (fun h2 => ?_) (fun h2 => ?_)
  · refine r_aload_n dX4_readLine_12 rfl ?_
    refine c_OZM rfl (inv_V (mi := mi_X4_readLine) (b := 3) (rest := []) (X4_readKind_ok G M) rfl (by decide) dX4_readLine_13 lkm_X4_96 cal_X4_readKind cX_3 rfl rfl (Nat.le_of_ble_eq_true rfl) rfl) (fun b41 M42 => ?_)
    exact r_iret (ty := .boolean) dX4_readLine_16 rfl (b2i_n _) rfl
  refine r_aload_n dX4_readLine_17 rfl ?_
  refine r_getf (v := .ref (G.2.2.2 (16))) dX4_readLine_18 fX_3_1 kX4 (by decide) lkf_X4_40 rfl ?_
  refine r_ldcS (i := 22) dX4_readLine_21 rfl ?_
  refine c_OZ rfl (inv_V (mi := mi_X4_readLine) (b := 16) (rest := []) (X6_says_ok G (w1 := 22) (by decide) M) rfl (by decide) dX4_readLine_23 lkm_X4_92 cal_X6_says cX_16 rfl rfl (Nat.le_of_ble_eq_true rfl) rfl) (fun b3 => ?_)
  refine r_ifz_eq (tgt := 34) dX4_readLine_26 rfl (fun h4 => ?_) (fun h4 => ?_)
  · refine r_aload_n dX4_readLine_29 rfl ?_
    refine c_OZM rfl (inv_V (mi := mi_X4_readLine) (b := 3) (rest := []) (X4_readMan_ok G M) rfl (by decide) dX4_readLine_30 lkm_X4_101 cal_X4_readMan cX_3 rfl rfl (Nat.le_of_ble_eq_true rfl) rfl) (fun b39 M40 => ?_)
    exact r_iret (ty := .boolean) dX4_readLine_33 rfl (b2i_n _) rfl
  refine r_aload_n dX4_readLine_34 rfl ?_
  refine r_getf (v := .ref (G.2.2.2 (16))) dX4_readLine_35 fX_3_1 kX4 (by decide) lkf_X4_40 rfl ?_
  refine r_ldcS (i := 25) dX4_readLine_38 rfl ?_
  refine c_OZ rfl (inv_V (mi := mi_X4_readLine) (b := 16) (rest := []) (X6_says_ok G (w1 := 25) (by decide) M) rfl (by decide) dX4_readLine_40 lkm_X4_92 cal_X6_says cX_16 rfl rfl (Nat.le_of_ble_eq_true rfl) rfl) (fun b5 => ?_)
  refine r_ifz_eq (tgt := 64) dX4_readLine_43 rfl (fun h6 => ?_) (fun h6 => ?_)
  · refine r_aload_n dX4_readLine_46 rfl ?_
    refine r_aload_n dX4_readLine_47 rfl ?_
    refine r_getf (v := .ref (G.2.2.2 (4))) dX4_readLine_48 fX_3_0 kX4 (by decide) lkf_X4_31 rfl ?_
    refine r_getf (v := .ref (G.2.2.2 (8))) dX4_readLine_51 fX_4_9 kX3 (by decide) lkf_X4_106 rfl ?_
    refine r_aload_n dX4_readLine_54 rfl ?_
    refine r_getf (v := .ref (G.2.2.2 (20))) dX4_readLine_55 fX_3_5 kX4 (by decide) lkf_X4_18 rfl ?_
    refine r_bipush (x := 60) dX4_readLine_58 rfl ?_
    refine c_OZM rfl (inv_V (mi := mi_X4_readLine) (b := 3) (rest := []) (X4_readHours_ok G aX_8p aX_20p 60 M) rfl (by decide) dX4_readLine_60 lkm_X4_110 cal_X4_readHours cX_3 rfl rfl (Nat.le_of_ble_eq_true rfl) rfl) (fun b37 M38 => ?_)
    exact r_iret (ty := .boolean) dX4_readLine_63 rfl (b2i_n _) rfl
  refine r_aload_n dX4_readLine_64 rfl ?_
  refine r_getf (v := .ref (G.2.2.2 (16))) dX4_readLine_65 fX_3_1 kX4 (by decide) lkf_X4_40 rfl ?_
  refine r_ldcS (i := 26) dX4_readLine_68 rfl ?_
  refine c_OZ rfl (inv_V (mi := mi_X4_readLine) (b := 16) (rest := []) (X6_says_ok G (w1 := 26) (by decide) M) rfl (by decide) dX4_readLine_70 lkm_X4_92 cal_X6_says cX_16 rfl rfl (Nat.le_of_ble_eq_true rfl) rfl) (fun b7 => ?_)
  refine r_ifz_eq (tgt := 94) dX4_readLine_73 rfl (fun h8 => ?_) (fun h8 => ?_)
  · refine r_aload_n dX4_readLine_76 rfl ?_
    refine r_aload_n dX4_readLine_77 rfl ?_
    refine r_getf (v := .ref (G.2.2.2 (4))) dX4_readLine_78 fX_3_0 kX4 (by decide) lkf_X4_31 rfl ?_
    refine r_getf (v := .ref (G.2.2.2 (9))) dX4_readLine_81 fX_4_10 kX3 (by decide) lkf_X4_116 rfl ?_
    refine r_aload_n dX4_readLine_84 rfl ?_
    refine r_getf (v := .ref (G.2.2.2 (21))) dX4_readLine_85 fX_3_6 kX4 (by decide) lkf_X4_22 rfl ?_
    refine r_bipush (x := 9) dX4_readLine_88 rfl ?_
    refine c_OZM rfl (inv_V (mi := mi_X4_readLine) (b := 3) (rest := []) (X4_readHours_ok G aX_9p aX_21p 9 M) rfl (by decide) dX4_readLine_90 lkm_X4_110 cal_X4_readHours cX_3 rfl rfl (Nat.le_of_ble_eq_true rfl) rfl) (fun b35 M36 => ?_)
    exact r_iret (ty := .boolean) dX4_readLine_93 rfl (b2i_n _) rfl
  refine r_aload_n dX4_readLine_94 rfl ?_
  refine r_getf (v := .ref (G.2.2.2 (16))) dX4_readLine_95 fX_3_1 kX4 (by decide) lkf_X4_40 rfl ?_
  refine r_ldcS (i := 27) dX4_readLine_98 rfl ?_
  refine c_OZ rfl (inv_V (mi := mi_X4_readLine) (b := 16) (rest := []) (X6_says_ok G (w1 := 27) (by decide) M) rfl (by decide) dX4_readLine_100 lkm_X4_92 cal_X6_says cX_16 rfl rfl (Nat.le_of_ble_eq_true rfl) rfl) (fun b9 => ?_)
  refine r_ifz_eq (tgt := 111) dX4_readLine_103 rfl (fun h10 => ?_) (fun h10 => ?_)
  · refine r_aload_n dX4_readLine_106 rfl ?_
    refine c_OZM rfl (inv_V (mi := mi_X4_readLine) (b := 3) (rest := []) (X4_readHedge_ok G M) rfl (by decide) dX4_readLine_107 lkm_X4_121 cal_X4_readHedge cX_3 rfl rfl (Nat.le_of_ble_eq_true rfl) rfl) (fun b33 M34 => ?_)
    exact r_iret (ty := .boolean) dX4_readLine_110 rfl (b2i_n _) rfl
  refine r_aload_n dX4_readLine_111 rfl ?_
  refine r_getf (v := .ref (G.2.2.2 (16))) dX4_readLine_112 fX_3_1 kX4 (by decide) lkf_X4_40 rfl ?_
  refine r_ldcS (i := 28) dX4_readLine_115 rfl ?_
  refine c_OZ rfl (inv_V (mi := mi_X4_readLine) (b := 16) (rest := []) (X6_says_ok G (w1 := 28) (by decide) M) rfl (by decide) dX4_readLine_117 lkm_X4_92 cal_X6_says cX_16 rfl rfl (Nat.le_of_ble_eq_true rfl) rfl) (fun b11 => ?_)
  refine r_ifz_eq (tgt := 128) dX4_readLine_120 rfl (fun h12 => ?_) (fun h12 => ?_)
  · refine r_aload_n dX4_readLine_123 rfl ?_
    refine c_OZM rfl (inv_V (mi := mi_X4_readLine) (b := 3) (rest := []) (X4_readRate_ok G M) rfl (by decide) dX4_readLine_124 lkm_X4_126 cal_X4_readRate cX_3 rfl rfl (Nat.le_of_ble_eq_true rfl) rfl) (fun b31 M32 => ?_)
    exact r_iret (ty := .boolean) dX4_readLine_127 rfl (b2i_n _) rfl
  refine r_aload_n dX4_readLine_128 rfl ?_
  refine r_getf (v := .ref (G.2.2.2 (16))) dX4_readLine_129 fX_3_1 kX4 (by decide) lkf_X4_40 rfl ?_
  refine r_ldcS (i := 30) dX4_readLine_132 rfl ?_
  refine c_OZ rfl (inv_V (mi := mi_X4_readLine) (b := 16) (rest := []) (X6_says_ok G (w1 := 30) (by decide) M) rfl (by decide) dX4_readLine_134 lkm_X4_92 cal_X6_says cX_16 rfl rfl (Nat.le_of_ble_eq_true rfl) rfl) (fun b13 => ?_)
  refine r_ifz_eq (tgt := 145) dX4_readLine_137 rfl (fun h14 => ?_) (fun h14 => ?_)
  · refine r_aload_n dX4_readLine_140 rfl ?_
    refine c_OZM rfl (inv_V (mi := mi_X4_readLine) (b := 3) (rest := []) (X4_readBook_ok G M) rfl (by decide) dX4_readLine_141 lkm_X4_131 cal_X4_readBook cX_3 rfl rfl (Nat.le_of_ble_eq_true rfl) rfl) (fun b29 M30 => ?_)
    exact r_iret (ty := .boolean) dX4_readLine_144 rfl (b2i_n _) rfl
  refine r_aload_n dX4_readLine_145 rfl ?_
  refine r_getf (v := .ref (G.2.2.2 (16))) dX4_readLine_146 fX_3_1 kX4 (by decide) lkf_X4_40 rfl ?_
  refine r_ldcS (i := 31) dX4_readLine_149 rfl ?_
  refine c_OZ rfl (inv_V (mi := mi_X4_readLine) (b := 16) (rest := []) (X6_says_ok G (w1 := 31) (by decide) M) rfl (by decide) dX4_readLine_151 lkm_X4_92 cal_X6_says cX_16 rfl rfl (Nat.le_of_ble_eq_true rfl) rfl) (fun b15 => ?_)
  refine r_ifz_eq (tgt := 162) dX4_readLine_154 rfl (fun h16 => ?_) (fun h16 => ?_)
  · refine r_aload_n dX4_readLine_157 rfl ?_
    refine c_OZM rfl (inv_V (mi := mi_X4_readLine) (b := 3) (rest := []) (X4_readGrow_ok G M) rfl (by decide) dX4_readLine_158 lkm_X4_136 cal_X4_readGrow cX_3 rfl rfl (Nat.le_of_ble_eq_true rfl) rfl) (fun b27 M28 => ?_)
    exact r_iret (ty := .boolean) dX4_readLine_161 rfl (b2i_n _) rfl
  refine r_aload_n dX4_readLine_162 rfl ?_
  refine r_getf (v := .ref (G.2.2.2 (16))) dX4_readLine_163 fX_3_1 kX4 (by decide) lkf_X4_40 rfl ?_
  refine r_ldcS (i := 41) dX4_readLine_166 rfl ?_
  refine c_OZ rfl (inv_V (mi := mi_X4_readLine) (b := 16) (rest := []) (X6_says_ok G (w1 := 41) (by decide) M) rfl (by decide) dX4_readLine_168 lkm_X4_92 cal_X6_says cX_16 rfl rfl (Nat.le_of_ble_eq_true rfl) rfl) (fun b17 => ?_)
  refine r_ifz_eq (tgt := 179) dX4_readLine_171 rfl (fun h18 => ?_) (fun h18 => ?_)
  · refine r_aload_n dX4_readLine_174 rfl ?_
    refine c_OZM rfl (inv_V (mi := mi_X4_readLine) (b := 3) (rest := []) (X4_readHoursOfWeek_ok G M) rfl (by decide) dX4_readLine_175 lkm_X4_141 cal_X4_readHoursOfWeek cX_3 rfl rfl (Nat.le_of_ble_eq_true rfl) rfl) (fun b25 M26 => ?_)
    exact r_iret (ty := .boolean) dX4_readLine_178 rfl (b2i_n _) rfl
  refine r_aload_n dX4_readLine_179 rfl ?_
  refine r_getf (v := .ref (G.2.2.2 (16))) dX4_readLine_180 fX_3_1 kX4 (by decide) lkf_X4_40 rfl ?_
  refine r_ldcS (i := 42) dX4_readLine_183 rfl ?_
  refine c_OZ rfl (inv_V (mi := mi_X4_readLine) (b := 16) (rest := []) (X6_says_ok G (w1 := 42) (by decide) M) rfl (by decide) dX4_readLine_185 lkm_X4_92 cal_X6_says cX_16 rfl rfl (Nat.le_of_ble_eq_true rfl) rfl) (fun b19 => ?_)
  refine r_ifz_eq (tgt := 198) dX4_readLine_188 rfl (fun h20 => ?_) (fun h20 => ?_)
  · refine r_aload_n dX4_readLine_191 rfl ?_
    refine c_OZM rfl (inv_V (mi := mi_X4_readLine) (b := 3) (rest := []) (X4_readDraw_ok G M) rfl (by decide) dX4_readLine_192 lkm_X4_146 cal_X4_readDraw cX_3 rfl rfl (Nat.le_of_ble_eq_true rfl) rfl) (fun b23 M24 => ?_)
    refine r_goto (tgt := 206) dX4_readLine_195 rfl ?_
    exact r_iret (ty := .boolean) dX4_readLine_206 rfl (b2i_n _) rfl
  refine r_aload_n dX4_readLine_198 rfl ?_
  refine r_getf (v := .ref (G.2.2.2 (16))) dX4_readLine_199 fX_3_1 kX4 (by decide) lkf_X4_40 rfl ?_
  refine r_iconst (x := 2) dX4_readLine_202 rfl ?_
  refine c_ZM (inv_V (mi := mi_X4_readLine) (b := 16) (rest := []) (X6_refuse_ok G 2 M) rfl (by decide) dX4_readLine_203 lkm_X4_149 cal_X6_refuse cX_16 rfl rfl (Nat.le_of_ble_eq_true rfl) rfl) (fun b21 M22 => ?_)
  exact r_iret (ty := .boolean) dX4_readLine_206 rfl (b2i_n _) rfl

theorem dX4_readMill_0 : decode cX4_readMill 0 = .ok (.aload_n 0, 1) := by decide +kernel
theorem dX4_readMill_1 : decode cX4_readMill 1 = .ok (.getfield 31, 3) := by decide +kernel
theorem dX4_readMill_4 : decode cX4_readMill 4 = .ok (.invokevirtual 64, 3) := by decide +kernel
theorem dX4_readMill_7 : decode cX4_readMill 7 = .ok (.aload_n 0, 1) := by decide +kernel
theorem dX4_readMill_8 : decode cX4_readMill 8 = .ok (.invokevirtual 67, 3) := by decide +kernel
theorem dX4_readMill_11 : decode cX4_readMill 11 = .ok (.aload_n 0, 1) := by decide +kernel
theorem dX4_readMill_12 : decode cX4_readMill 12 = .ok (.getfield 40, 3) := by decide +kernel
theorem dX4_readMill_15 : decode cX4_readMill 15 = .ok (.invokevirtual 70, 3) := by decide +kernel
theorem dX4_readMill_18 : decode cX4_readMill 18 = .ok (.iconst 1, 1) := by decide +kernel
theorem dX4_readMill_19 : decode cX4_readMill 19 = .ok (.istore_n 1, 1) := by decide +kernel
theorem dX4_readMill_20 : decode cX4_readMill 20 = .ok (.iconst 0, 1) := by decide +kernel
theorem dX4_readMill_21 : decode cX4_readMill 21 = .ok (.istore_n 2, 1) := by decide +kernel
theorem dX4_readMill_22 : decode cX4_readMill 22 = .ok (.iload_n 2, 1) := by decide +kernel
theorem dX4_readMill_23 : decode cX4_readMill 23 = .ok (.sipush 1600, 3) := by decide +kernel
theorem dX4_readMill_26 : decode cX4_readMill 26 = .ok (.if_icmp .ge 28, 3) := by decide +kernel
theorem dX4_readMill_29 : decode cX4_readMill 29 = .ok (.iload_n 1, 1) := by decide +kernel
theorem dX4_readMill_30 : decode cX4_readMill 30 = .ok (.ifCond .eq 24, 3) := by decide +kernel
theorem dX4_readMill_33 : decode cX4_readMill 33 = .ok (.aload_n 0, 1) := by decide +kernel
theorem dX4_readMill_34 : decode cX4_readMill 34 = .ok (.getfield 40, 3) := by decide +kernel
theorem dX4_readMill_37 : decode cX4_readMill 37 = .ok (.getfield 73, 3) := by decide +kernel
theorem dX4_readMill_40 : decode cX4_readMill 40 = .ok (.ifCond .eq 14, 3) := by decide +kernel
theorem dX4_readMill_43 : decode cX4_readMill 43 = .ok (.aload_n 0, 1) := by decide +kernel
theorem dX4_readMill_44 : decode cX4_readMill 44 = .ok (.invokevirtual 76, 3) := by decide +kernel
theorem dX4_readMill_47 : decode cX4_readMill 47 = .ok (.istore_n 1, 1) := by decide +kernel
theorem dX4_readMill_48 : decode cX4_readMill 48 = .ok (.iinc 2 1, 3) := by decide +kernel
theorem dX4_readMill_51 : decode cX4_readMill 51 = .ok (.goto (-29), 3) := by decide +kernel
theorem dX4_readMill_54 : decode cX4_readMill 54 = .ok (.iload_n 1, 1) := by decide +kernel
theorem dX4_readMill_55 : decode cX4_readMill 55 = .ok (.ireturn, 1) := by decide +kernel
abbrev mi_X4_readMill : MI := (zTX, RX4, yX4_readMill, cX4_readMill, 3, (some .boolean), 110)
theorem cal_X4_readMill : zCalV mi_X4_readMill 0 := ⟨⟨zTB_i2 205 (by decide +kernel), zTB_i2 203 (by decide +kernel), zTB_i2 204 (by decide +kernel), zTB_i1 3 (by decide +kernel)⟩, ⟨by decide, by decide, by decide +kernel⟩, by decide⟩
noncomputable def X4_readMill_L1 : Nat → Int32 → Int32 → Mem → Option (Int32 × Mem)
  | 0, _, _, _ => none
  | n + 1, c1, c2, M =>
    if 1600 ≤ c2 then
      some (c1, M)
    else
    if c1 = 0 then
      some (c1, M)
    else
    if (M.1 16 1) = 0 then
      some (c1, M)
    else
    bp_ (X4_readLine M) fun b7 M8 =>
    X4_readMill_L1 n (b2i (b7)) (c2 + 1) M8
noncomputable def X4_readMill (M : Mem) : Option (Bool × Mem) :=
  bo_ (X3_clear 4 M) fun M1 =>
  bo_ (X4_forgetTold M1) fun M2 =>
  bo_ (X6_begin M2) fun M3 =>
  b2_ (α := Int32) (β := Mem) (X4_readMill_L1 zFU 1 0 M3) fun e9 M10 =>
  gd_ (e9 = 0 ∨ e9 = 1) (some ((decide (e9 = 1)), M10))
set_option maxRecDepth 100000 in
set_option maxHeartbeats 4000000 in
theorem X4_readMill_L1_ok (G : Gh) {dn : Option (Int32 × Mem) → Option (Option Value × Mem)} (hs : dn none = none) (hx : ∀ (e9 : Int32) (M10 : Mem), Wr G mi_X4_readMill dn 54 [none, some (.int e9), none] [] M10 (some (e9, M10))) : ∀ (n : Nat) (c1 : Int32) (c2 : Int32) (M : Mem), Wr G mi_X4_readMill dn 22 [some (.ref (G.2.2.2 (3))), some (.int c1), some (.int c2)] [] M (X4_readMill_L1 n c1 c2 M) := by
  intro n
  induction n with
  | zero => intro c1 c2 M; exact r_none (by exact hs)
  | succ n ih =>
    intro c1 c2 M
    rw [X4_readMill_L1]
    refine r_iload_n dX4_readMill_22 rfl ?_
    refine r_sipush (x := 1600) dX4_readMill_23 rfl ?_
    refine r_icmp_ge (tgt := 54) dX4_readMill_26 rfl (fun h4 => ?_) (fun h4 => ?_)
    · exact r_lk (hx c1 M) (And.intro rfl True.intro)
    refine r_iload_n dX4_readMill_29 rfl ?_
    refine r_if_eq (tgt := 54) dX4_readMill_30 rfl (fun h5 => ?_) (fun h5 => ?_)
    · exact r_lk (hx c1 M) (And.intro rfl True.intro)
    refine r_aload_n dX4_readMill_33 rfl ?_
    refine r_getf (v := .ref (G.2.2.2 (16))) dX4_readMill_34 fX_3_1 kX4 (by decide) lkf_X4_40 rfl ?_
    refine r_getf (v := .int (M.1 16 1)) dX4_readMill_37 fX_16_1 kX6 (by decide) lkf_X4_73 rfl ?_
    refine r_if_eq (tgt := 54) dX4_readMill_40 rfl (fun h6 => ?_) (fun h6 => ?_)
    · exact r_lk (hx c1 M) (And.intro rfl True.intro)
    refine r_aload_n dX4_readMill_43 rfl ?_
    refine c_OZM (by exact hs) (inv_V (mi := mi_X4_readMill) (b := 3) (rest := []) (X4_readLine_ok G M) rfl (by decide) dX4_readMill_44 lkm_X4_76 cal_X4_readLine cX_3 rfl rfl (Nat.le_of_ble_eq_true rfl) rfl) (fun b7 M8 => ?_)
    refine r_istore_n (lv' := [some (.ref (G.2.2.2 (3))), some (.int (b2i (b7))), some (.int c2)]) dX4_readMill_47 (Nat.le_of_ble_eq_true rfl) rfl rfl ?_
    refine r_iinc (y := c2 + 1) (lv' := [some (.ref (G.2.2.2 (3))), some (.int (b2i (b7))), some (.int (c2 + 1))]) dX4_readMill_48 rfl rfl (Nat.le_of_ble_eq_true rfl) rfl rfl ?_
    refine r_goto (tgt := 22) dX4_readMill_51 rfl ?_
    exact r_lk (ih (b2i (b7)) (c2 + 1) M8) (And.intro rfl (And.intro rfl (And.intro rfl True.intro)))
set_option maxRecDepth 100000 in
set_option maxHeartbeats 4000000 in
theorem X4_readMill_ok (G : Gh) (M : Mem) : Mt G mi_X4_readMill [.ref (G.2.2.2 (3))] M ((dO dZM) (X4_readMill M)) := by
  refine Mt_of (lv := [some (.ref (G.2.2.2 (3)))]) (by decide) rfl (Nat.le_of_ble_eq_true rfl) rfl ?_
  refine r_le (lv' := [some (.ref (G.2.2.2 (3))), none, none]) (And.intro rfl True.intro) ?_
  unfold X4_readMill
  refine r_aload_n dX4_readMill_0 rfl ?_
  refine r_getf (v := .ref (G.2.2.2 (4))) dX4_readMill_1 fX_3_0 kX4 (by decide) lkf_X4_31 rfl ?_
  refine c_OV rfl (inv_V (mi := mi_X4_readMill) (b := 4) (rest := []) (X3_clear_ok_4 G M) rfl (by decide) dX4_readMill_4 lkm_X4_64 cal_X3_clear cX_4 rfl rfl (Nat.le_of_ble_eq_true rfl) rfl) (fun M1 => ?_)
  refine r_aload_n dX4_readMill_7 rfl ?_
  refine c_OV rfl (inv_V (mi := mi_X4_readMill) (b := 3) (rest := []) (X4_forgetTold_ok G M1) rfl (by decide) dX4_readMill_8 lkm_X4_67 cal_X4_forgetTold cX_3 rfl rfl (Nat.le_of_ble_eq_true rfl) rfl) (fun M2 => ?_)
  refine r_aload_n dX4_readMill_11 rfl ?_
  refine r_getf (v := .ref (G.2.2.2 (16))) dX4_readMill_12 fX_3_1 kX4 (by decide) lkf_X4_40 rfl ?_
  refine c_OV rfl (inv_V (mi := mi_X4_readMill) (b := 16) (rest := []) (X6_begin_ok G M2) rfl (by decide) dX4_readMill_15 lkm_X4_70 cal_X6_begin cX_16 rfl rfl (Nat.le_of_ble_eq_true rfl) rfl) (fun M3 => ?_)
  refine r_iconst (x := 1) dX4_readMill_18 rfl ?_
  refine r_istore_n (lv' := [some (.ref (G.2.2.2 (3))), some (.int 1), none]) dX4_readMill_19 (Nat.le_of_ble_eq_true rfl) rfl rfl ?_
  refine r_iconst (x := 0) dX4_readMill_20 rfl ?_
  refine r_istore_n (lv' := [some (.ref (G.2.2.2 (3))), some (.int 1), some (.int 0)]) dX4_readMill_21 (Nat.le_of_ble_eq_true rfl) rfl rfl ?_
  refine r_jB2 (j := 54) (lvj := fun e9 M10 => [none, some (.int e9), none]) (stj := fun e9 M10 => []) (Mj := fun e9 M10 => M10) (fun e9 M10 => ?_) (fun hj54 => ?_)
  · refine r_iload_n dX4_readMill_54 rfl ?_
    refine r_gd rfl (fun gz => ?_)
    exact r_zretI dX4_readMill_55 rfl gz rfl
  exact r_lk (X4_readMill_L1_ok G rfl hj54 zFU 1 0 M3) (And.intro rfl (And.intro rfl (And.intro rfl True.intro)))

theorem dX11_copyInts_0 : decode cX11_copyInts 0 = .ok (.aload_n 0, 1) := by decide +kernel
theorem dX11_copyInts_1 : decode cX11_copyInts 1 = .ok (.iconst 0, 1) := by decide +kernel
theorem dX11_copyInts_2 : decode cX11_copyInts 2 = .ok (.aload_n 1, 1) := by decide +kernel
theorem dX11_copyInts_3 : decode cX11_copyInts 3 = .ok (.iconst 0, 1) := by decide +kernel
theorem dX11_copyInts_4 : decode cX11_copyInts 4 = .ok (.aload_n 0, 1) := by decide +kernel
theorem dX11_copyInts_5 : decode cX11_copyInts 5 = .ok (.arraylength, 1) := by decide +kernel
theorem dX11_copyInts_6 : decode cX11_copyInts 6 = .ok (.aload_n 1, 1) := by decide +kernel
theorem dX11_copyInts_7 : decode cX11_copyInts 7 = .ok (.arraylength, 1) := by decide +kernel
theorem dX11_copyInts_8 : decode cX11_copyInts 8 = .ok (.invokestatic 247, 3) := by decide +kernel
theorem dX11_copyInts_11 : decode cX11_copyInts 11 = .ok (.invokestatic 336, 3) := by decide +kernel
theorem dX11_copyInts_14 : decode cX11_copyInts 14 = .ok (.return_, 1) := by decide +kernel
abbrev mi_X11_copyInts : MI := (zTX, RX11, yX11_copyInts, cX11_copyInts, 2, none, 8)
theorem cal_X11_copyInts : zCalS mi_X11_copyInts 2 := ⟨⟨zTB_i4 8 (by decide +kernel), zTB_i4 7 (by decide +kernel), zTB_i1 1 (by decide +kernel)⟩, ⟨by decide, by decide, by decide +kernel⟩, by decide⟩
noncomputable def X11_copyInts (a0 : Nat) (a1 : Nat) (M : Mem) : Option (Mem) :=
  gd_ (cpOk 0 0 (if (nI (zlen zTX a1)) < (nI (zlen zTX a0)) then (nI (zlen zTX a1)) else (nI (zlen zTX a0))) (zlen zTX a0) (zlen zTX a1) = true) (
  lt_ (uC M a0 a1 ((0 : Int32).toNatClampNeg) ((0 : Int32).toNatClampNeg) ((if (nI (zlen zTX a1)) < (nI (zlen zTX a0)) then (nI (zlen zTX a1)) else (nI (zlen zTX a0))).toNatClampNeg)) fun M1 =>
  some M1)
set_option maxRecDepth 100000 in
set_option maxHeartbeats 4000000 in
theorem X11_copyInts_ok (G : Gh) {a0 : Nat} (ha0 : zar zTX a0 = some (0, zlen zTX a0)) {a1 : Nat} (ha1 : zar zTX a1 = some (0, zlen zTX a1)) (M : Mem) : Mt G mi_X11_copyInts [.ref (G.2.2.2 (a0)), .ref (G.2.2.2 (a1))] M ((dO dV) (X11_copyInts a0 a1 M)) := by
  refine Mt_of (lv := [some (.ref (G.2.2.2 (a0))), some (.ref (G.2.2.2 (a1)))]) (by decide) rfl (Nat.le_of_ble_eq_true rfl) rfl ?_
  unfold X11_copyInts
  refine r_aload_n dX11_copyInts_0 rfl ?_
  refine r_iconst (x := 0) dX11_copyInts_1 rfl ?_
  refine r_aload_n dX11_copyInts_2 rfl ?_
  refine r_iconst (x := 0) dX11_copyInts_3 rfl ?_
  refine r_aload_n dX11_copyInts_4 rfl ?_
  refine r_alen (v := nI (zlen zTX a0)) dX11_copyInts_5 ha0 (by decide) rfl ?_
  refine r_aload_n dX11_copyInts_6 rfl ?_
  refine r_alen (v := nI (zlen zTX a1)) dX11_copyInts_7 ha1 (by decide) rfl ?_
  refine r_min dX11_copyInts_8 lkm_X11_247 tw_mmin1 tw_m2 tw_mmin3 (by decide) (Nat.le_of_ble_eq_true rfl) ?_
  refine r_gd rfl (fun g2 => ?_)
  refine r_copy dX11_copyInts_11 lkm_X11_336 tw_c1 tw_c2 tw_c3 ha0 ha1 g2 (by decide) (Nat.le_of_ble_eq_true rfl) (fun M1 => ?_)
  exact r_vret dX11_copyInts_14 rfl rfl

theorem dX1_become_0 : decode cX1_become 0 = .ok (.aload_n 1, 1) := by decide +kernel
theorem dX1_become_1 : decode cX1_become 1 = .ok (.getfield 9, 3) := by decide +kernel
theorem dX1_become_4 : decode cX1_become 4 = .ok (.aload_n 0, 1) := by decide +kernel
theorem dX1_become_5 : decode cX1_become 5 = .ok (.getfield 9, 3) := by decide +kernel
theorem dX1_become_8 : decode cX1_become 8 = .ok (.invokestatic 23, 3) := by decide +kernel
theorem dX1_become_11 : decode cX1_become 11 = .ok (.aload_n 0, 1) := by decide +kernel
theorem dX1_become_12 : decode cX1_become 12 = .ok (.aload_n 1, 1) := by decide +kernel
theorem dX1_become_13 : decode cX1_become 13 = .ok (.getfield 16, 3) := by decide +kernel
theorem dX1_become_16 : decode cX1_become 16 = .ok (.putfield 16, 3) := by decide +kernel
theorem dX1_become_19 : decode cX1_become 19 = .ok (.aload_n 0, 1) := by decide +kernel
theorem dX1_become_20 : decode cX1_become 20 = .ok (.aload_n 1, 1) := by decide +kernel
theorem dX1_become_21 : decode cX1_become 21 = .ok (.getfield 20, 3) := by decide +kernel
theorem dX1_become_24 : decode cX1_become 24 = .ok (.putfield 20, 3) := by decide +kernel
theorem dX1_become_27 : decode cX1_become 27 = .ok (.return_, 1) := by decide +kernel
abbrev mi_X1_become : MI := (zTX, RX1, yX1_become, cX1_become, 2, none, 9)
theorem cal_X1_become : zCalV mi_X1_become 1 := ⟨⟨zTB_i4 18 (by decide +kernel), zTB_i4 16 (by decide +kernel), zTB_i4 17 (by decide +kernel), zTB_i1 5 (by decide +kernel)⟩, ⟨by decide, by decide, by decide +kernel⟩, by decide⟩
noncomputable def X1_become (o0 : Nat) (o1 : Nat) (M : Mem) : Option (Mem) :=
  bo_ (X11_copyInts (o1 + 1) (o0 + 1) M) fun M1 =>
  lt_ (uI M1 o0 2 (M1.1 o1 2)) fun M2 =>
  lt_ (uI M2 o0 3 (M2.1 o1 3)) fun M3 =>
  some M3
set_option maxRecDepth 100000 in
set_option maxHeartbeats 4000000 in
theorem X1_become_ok_32_13 (G : Gh) (M : Mem) : Mt G mi_X1_become [.ref (G.2.2.2 (32)), .ref (G.2.2.2 (13))] M ((dO dV) (X1_become 32 13 M)) := by
  refine Mt_of (lv := [some (.ref (G.2.2.2 (32))), some (.ref (G.2.2.2 (13)))]) (by decide) rfl (Nat.le_of_ble_eq_true rfl) rfl ?_
  unfold X1_become
  refine r_aload_n dX1_become_0 rfl ?_
  refine r_getf (v := .ref (G.2.2.2 (13 + 1))) dX1_become_1 fX_13_0 kX1 (by decide) lkf_X1_9 rfl ?_
  refine r_aload_n dX1_become_4 rfl ?_
  refine r_getf (v := .ref (G.2.2.2 (32 + 1))) dX1_become_5 fX_32_0 kX1 (by decide) lkf_X1_9 rfl ?_
  refine c_OV rfl (inv_SN (mi := mi_X1_become) (rest := []) (X11_copyInts_ok G aX_14p aX_33p M) rfl (by decide) dX1_become_8 lkm_X1_23 cal_X11_copyInts rfl (Nat.le_of_ble_eq_true rfl) rfl) (fun M1 => ?_)
  refine r_aload_n dX1_become_11 rfl ?_
  refine r_aload_n dX1_become_12 rfl ?_
  refine r_getf (v := .int (M1.1 13 2)) dX1_become_13 fX_13_2 kX1 (by decide) lkf_X1_16 rfl ?_
  refine r_putI dX1_become_16 fX_32_2 kX1 (by decide) rfl rfl lkf_X1_16 (fun _ => rfl) rfl rfl (fun M2 => ?_)
  refine r_aload_n dX1_become_19 rfl ?_
  refine r_aload_n dX1_become_20 rfl ?_
  refine r_getf (v := .int (M2.1 13 3)) dX1_become_21 fX_13_3 kX1 (by decide) lkf_X1_20 rfl ?_
  refine r_putI dX1_become_24 fX_32_3 kX1 (by decide) rfl rfl lkf_X1_20 (fun _ => rfl) rfl rfl (fun M3 => ?_)
  exact r_vret dX1_become_27 rfl rfl

