theorem dX12_gets_0 : decode cX12_gets 0 = .ok (.aload_n 0, 1) := by decide +kernel
theorem dX12_gets_1 : decode cX12_gets 1 = .ok (.getfield 113, 3) := by decide +kernel
theorem dX12_gets_4 : decode cX12_gets 4 = .ok (.iconst 0, 1) := by decide +kernel
theorem dX12_gets_5 : decode cX12_gets 5 = .ok (.iconst 3, 1) := by decide +kernel
theorem dX12_gets_6 : decode cX12_gets 6 = .ok (.iload_n 1, 1) := by decide +kernel
theorem dX12_gets_7 : decode cX12_gets 7 = .ok (.imul, 1) := by decide +kernel
theorem dX12_gets_8 : decode cX12_gets 8 = .ok (.iadd, 1) := by decide +kernel
theorem dX12_gets_9 : decode cX12_gets 9 = .ok (.iload_n 2, 1) := by decide +kernel
theorem dX12_gets_10 : decode cX12_gets 10 = .ok (.iadd, 1) := by decide +kernel
theorem dX12_gets_11 : decode cX12_gets 11 = .ok (.bipush 99, 2) := by decide +kernel
theorem dX12_gets_13 : decode cX12_gets 13 = .ok (.aload_n 0, 1) := by decide +kernel
theorem dX12_gets_14 : decode cX12_gets 14 = .ok (.iload_n 1, 1) := by decide +kernel
theorem dX12_gets_15 : decode cX12_gets 15 = .ok (.iload_n 2, 1) := by decide +kernel
theorem dX12_gets_16 : decode cX12_gets 16 = .ok (.invokevirtual 439, 3) := by decide +kernel
theorem dX12_gets_19 : decode cX12_gets 19 = .ok (.iload_n 3, 1) := by decide +kernel
theorem dX12_gets_20 : decode cX12_gets 20 = .ok (.iadd, 1) := by decide +kernel
theorem dX12_gets_21 : decode cX12_gets 21 = .ok (.invokestatic 452, 3) := by decide +kernel
theorem dX12_gets_24 : decode cX12_gets 24 = .ok (.iastore, 1) := by decide +kernel
theorem dX12_gets_25 : decode cX12_gets 25 = .ok (.return_, 1) := by decide +kernel
abbrev mi_X12_gets : MI := (zTM, RX12, yX12_gets, cX12_gets, 4, none, 3)
theorem cal_X12_gets : zCalV mi_X12_gets 3 := ⟨⟨zTB_i8 133 (by decide +kernel), zTB_i8 132 (by decide +kernel), zTB_i0 91 (by decide +kernel), zTB_i1 13 (by decide +kernel)⟩, ⟨by decide, by decide, by decide +kernel⟩, by decide⟩
noncomputable def X12_gets (x1 : Int32) (x2 : Int32) (x3 : Int32) (M : Mem) : Option (Mem) :=
  bo_ (X12_inPurse x1 x2 M) fun v1 =>
  gd_ (inb ((0 + (3 * x1)) + x2) (42) = true) (
  lt_ (uI M 33 (((0 + (3 * x1)) + x2).toNatClampNeg) (X12_lesser 99 (v1 + x3))) fun M3 =>
  some M3)
set_option maxRecDepth 100000 in
set_option maxHeartbeats 4000000 in
theorem X12_gets_ok (G : Gh) (x1 : Int32) (x2 : Int32) (x3 : Int32) (M : Mem) : Mt G mi_X12_gets [.ref (G.2.2.2 (0)), .int x1, .int x2, .int x3] M ((dO dV) (X12_gets x1 x2 x3 M)) := by
  refine Mt_of (lv := [some (.ref (G.2.2.2 (0))), some (.int x1), some (.int x2), some (.int x3)]) (by decide) rfl (Nat.le_of_ble_eq_true rfl) rfl ?_
  unfold X12_gets
  refine r_aload_n dX12_gets_0 rfl ?_
  refine r_getf (v := .ref (G.2.2.2 (33))) dX12_gets_1 fM_0_48 kX12 (by decide) lkf_X12_113 rfl ?_
  refine r_iconst (x := 0) dX12_gets_4 rfl ?_
  refine r_iconst (x := 3) dX12_gets_5 rfl ?_
  refine r_iload_n dX12_gets_6 rfl ?_
  refine r_imul dX12_gets_7 ?_
  refine r_iadd dX12_gets_8 ?_
  refine r_iload_n dX12_gets_9 rfl ?_
  refine r_iadd dX12_gets_10 ?_
  refine r_bipush (x := 99) dX12_gets_11 rfl ?_
  refine r_aload_n dX12_gets_13 rfl ?_
  refine r_iload_n dX12_gets_14 rfl ?_
  refine r_iload_n dX12_gets_15 rfl ?_
  refine c_OI rfl (inv_V (mi := mi_X12_gets) (b := 0) (rest := [.int 99, .int ((0 + (3 * x1)) + x2), .ref (G.2.2.2 (33))]) (X12_inPurse_ok G x1 x2 M) rfl (by decide) dX12_gets_16 lkm_X12_439 cal_X12_inPurse cM_0 rfl rfl (Nat.le_of_ble_eq_true rfl) rfl) (fun v1 => ?_)
  refine r_iload_n dX12_gets_19 rfl ?_
  refine r_iadd dX12_gets_20 ?_
  refine c_I (inv_S (mi := mi_X12_gets) (rest := [.int ((0 + (3 * x1)) + x2), .ref (G.2.2.2 (33))]) (X12_lesser_ok G 99 (v1 + x3) M) rfl (by decide) dX12_gets_21 lkm_X12_452 cal_X12_lesser rfl (Nat.le_of_ble_eq_true rfl) rfl) ?_
  refine r_gd rfl (fun g2 => ?_)
  refine r_iast dX12_gets_24 aM_33 (inb_in g2) rfl (fun M3 => ?_)
  exact r_vret dX12_gets_25 rfl rfl

theorem dX12_give_0 : decode cX12_give 0 = .ok (.aload_n 0, 1) := by decide +kernel
theorem dX12_give_1 : decode cX12_give 1 = .ok (.iload_n 1, 1) := by decide +kernel
theorem dX12_give_2 : decode cX12_give 2 = .ok (.invokevirtual 426, 3) := by decide +kernel
theorem dX12_give_5 : decode cX12_give 5 = .ok (.ifCond .eq 39, 3) := by decide +kernel
theorem dX12_give_8 : decode cX12_give 8 = .ok (.aload_n 0, 1) := by decide +kernel
theorem dX12_give_9 : decode cX12_give 9 = .ok (.iload_n 2, 1) := by decide +kernel
theorem dX12_give_10 : decode cX12_give 10 = .ok (.invokevirtual 426, 3) := by decide +kernel
theorem dX12_give_13 : decode cX12_give 13 = .ok (.ifCond .eq 31, 3) := by decide +kernel
theorem dX12_give_16 : decode cX12_give 16 = .ok (.iload_n 1, 1) := by decide +kernel
theorem dX12_give_17 : decode cX12_give 17 = .ok (.iload_n 2, 1) := by decide +kernel
theorem dX12_give_18 : decode cX12_give 18 = .ok (.if_icmp .eq 26, 3) := by decide +kernel
theorem dX12_give_21 : decode cX12_give 21 = .ok (.aload_n 0, 1) := by decide +kernel
theorem dX12_give_22 : decode cX12_give 22 = .ok (.iload_n 3, 1) := by decide +kernel
theorem dX12_give_23 : decode cX12_give 23 = .ok (.invokevirtual 436, 3) := by decide +kernel
theorem dX12_give_26 : decode cX12_give 26 = .ok (.ifCond .eq 18, 3) := by decide +kernel
theorem dX12_give_29 : decode cX12_give 29 = .ok (.iload 4, 2) := by decide +kernel
theorem dX12_give_31 : decode cX12_give 31 = .ok (.iconst 1, 1) := by decide +kernel
theorem dX12_give_32 : decode cX12_give 32 = .ok (.aload_n 0, 1) := by decide +kernel
theorem dX12_give_33 : decode cX12_give 33 = .ok (.iload_n 1, 1) := by decide +kernel
theorem dX12_give_34 : decode cX12_give 34 = .ok (.iload_n 3, 1) := by decide +kernel
theorem dX12_give_35 : decode cX12_give 35 = .ok (.invokevirtual 439, 3) := by decide +kernel
theorem dX12_give_38 : decode cX12_give 38 = .ok (.invokestatic 401, 3) := by decide +kernel
theorem dX12_give_41 : decode cX12_give 41 = .ok (.ifCond .ne 5, 3) := by decide +kernel
theorem dX12_give_44 : decode cX12_give 44 = .ok (.iconst (-1), 1) := by decide +kernel
theorem dX12_give_45 : decode cX12_give 45 = .ok (.ireturn, 1) := by decide +kernel
theorem dX12_give_46 : decode cX12_give 46 = .ok (.aload_n 0, 1) := by decide +kernel
theorem dX12_give_47 : decode cX12_give 47 = .ok (.invokevirtual 445, 3) := by decide +kernel
theorem dX12_give_50 : decode cX12_give 50 = .ok (.aload_n 0, 1) := by decide +kernel
theorem dX12_give_51 : decode cX12_give 51 = .ok (.getfield 113, 3) := by decide +kernel
theorem dX12_give_54 : decode cX12_give 54 = .ok (.iconst 0, 1) := by decide +kernel
theorem dX12_give_55 : decode cX12_give 55 = .ok (.iconst 3, 1) := by decide +kernel
theorem dX12_give_56 : decode cX12_give 56 = .ok (.iload_n 1, 1) := by decide +kernel
theorem dX12_give_57 : decode cX12_give 57 = .ok (.imul, 1) := by decide +kernel
theorem dX12_give_58 : decode cX12_give 58 = .ok (.iadd, 1) := by decide +kernel
theorem dX12_give_59 : decode cX12_give 59 = .ok (.iload_n 3, 1) := by decide +kernel
theorem dX12_give_60 : decode cX12_give 60 = .ok (.iadd, 1) := by decide +kernel
theorem dX12_give_61 : decode cX12_give 61 = .ok (.dup2, 1) := by decide +kernel
theorem dX12_give_62 : decode cX12_give 62 = .ok (.iaload, 1) := by decide +kernel
theorem dX12_give_63 : decode cX12_give 63 = .ok (.iload 4, 2) := by decide +kernel
theorem dX12_give_65 : decode cX12_give 65 = .ok (.isub, 1) := by decide +kernel
theorem dX12_give_66 : decode cX12_give 66 = .ok (.iastore, 1) := by decide +kernel
theorem dX12_give_67 : decode cX12_give 67 = .ok (.aload_n 0, 1) := by decide +kernel
theorem dX12_give_68 : decode cX12_give 68 = .ok (.iload_n 2, 1) := by decide +kernel
theorem dX12_give_69 : decode cX12_give 69 = .ok (.iload_n 3, 1) := by decide +kernel
theorem dX12_give_70 : decode cX12_give 70 = .ok (.iload 4, 2) := by decide +kernel
theorem dX12_give_72 : decode cX12_give 72 = .ok (.invokevirtual 455, 3) := by decide +kernel
theorem dX12_give_75 : decode cX12_give 75 = .ok (.aload_n 0, 1) := by decide +kernel
theorem dX12_give_76 : decode cX12_give 76 = .ok (.iload_n 2, 1) := by decide +kernel
theorem dX12_give_77 : decode cX12_give 77 = .ok (.iload_n 3, 1) := by decide +kernel
theorem dX12_give_78 : decode cX12_give 78 = .ok (.invokevirtual 439, 3) := by decide +kernel
theorem dX12_give_81 : decode cX12_give 81 = .ok (.ireturn, 1) := by decide +kernel
abbrev mi_X12_give : MI := (zTM, RX12, yX12_give, cX12_give, 5, (some .int), 4)
theorem cal_X12_give : zCalV mi_X12_give 4 := ⟨⟨zTB_i8 129 (by decide +kernel), zTB_i8 127 (by decide +kernel), zTB_i8 128 (by decide +kernel), zTB_i1 13 (by decide +kernel)⟩, ⟨by decide, by decide, by decide +kernel⟩, by decide⟩
noncomputable def X12_give (x1 : Int32) (x2 : Int32) (x3 : Int32) (x4 : Int32) (M : Mem) : Option (Int32 × Mem) :=
  bo_ (X12_isMan x1 M) fun b1 =>
  if b1 = true then
    bo_ (X12_isMan x2 M) fun b3 =>
    if b3 = true then
      if x1 = x2 then
        some ((-1), M)
      else
      bo_ (X12_isKind x3 M) fun b6 =>
      if b6 = true then
        bo_ (X12_inPurse x1 x3 M) fun v8 =>
        if (X12_isIn x4 1 v8) = true then
          bo_ (X12_keepAct M) fun M10 =>
          gd_ (inb ((0 + (3 * x1)) + x3) (42) = true) (
          lt_ (uI M10 33 (((0 + (3 * x1)) + x3).toNatClampNeg) ((M10.1 33 (((0 + (3 * x1)) + x3).toNatClampNeg)) - x4)) fun M12 =>
          bo_ (X12_gets x2 x3 x4 M12) fun M13 =>
          bo_ (X12_inPurse x2 x3 M13) fun v14 =>
          some (v14, M13))
        else
        some ((-1), M)
      else
      some ((-1), M)
    else
    some ((-1), M)
  else
  some ((-1), M)
set_option maxRecDepth 100000 in
set_option maxHeartbeats 4000000 in
theorem X12_give_ok (G : Gh) (x1 : Int32) (x2 : Int32) (x3 : Int32) (x4 : Int32) (M : Mem) : Mt G mi_X12_give [.ref (G.2.2.2 (0)), .int x1, .int x2, .int x3, .int x4] M ((dO dIM) (X12_give x1 x2 x3 x4 M)) := by
  refine Mt_of (lv := [some (.ref (G.2.2.2 (0))), some (.int x1), some (.int x2), some (.int x3), some (.int x4)]) (by decide) rfl (Nat.le_of_ble_eq_true rfl) rfl ?_
  unfold X12_give
  refine r_aload_n dX12_give_0 rfl ?_
  refine r_iload_n dX12_give_1 rfl ?_
  refine c_OZ rfl (inv_V (mi := mi_X12_give) (b := 0) (rest := []) (X12_isMan_ok G x1 M) rfl (by decide) dX12_give_2 lkm_X12_426 cal_X12_isMan cM_0 rfl rfl (Nat.le_of_ble_eq_true rfl) rfl) (fun b1 => ?_)
  refine r_ifz_eq (tgt := 44) dX12_give_5 rfl (fun h2 => ?_) (fun h2 => ?_)
  · refine r_aload_n dX12_give_8 rfl ?_
    refine r_iload_n dX12_give_9 rfl ?_
    refine c_OZ rfl (inv_V (mi := mi_X12_give) (b := 0) (rest := []) (X12_isMan_ok G x2 M) rfl (by decide) dX12_give_10 lkm_X12_426 cal_X12_isMan cM_0 rfl rfl (Nat.le_of_ble_eq_true rfl) rfl) (fun b3 => ?_)
    refine r_ifz_eq (tgt := 44) dX12_give_13 rfl (fun h4 => ?_) (fun h4 => ?_)
    · refine r_iload_n dX12_give_16 rfl ?_
      refine r_iload_n dX12_give_17 rfl ?_
      refine r_icmp_eq (tgt := 44) dX12_give_18 rfl (fun h5 => ?_) (fun h5 => ?_)
      · refine r_iconst (x := (-1)) dX12_give_44 rfl ?_
        exact r_iret (ty := .int) dX12_give_45 rfl rfl rfl
      refine r_aload_n dX12_give_21 rfl ?_
      refine r_iload_n dX12_give_22 rfl ?_
      refine c_OZ rfl (inv_V (mi := mi_X12_give) (b := 0) (rest := []) (X12_isKind_ok G x3 M) rfl (by decide) dX12_give_23 lkm_X12_436 cal_X12_isKind cM_0 rfl rfl (Nat.le_of_ble_eq_true rfl) rfl) (fun b6 => ?_)
      refine r_ifz_eq (tgt := 44) dX12_give_26 rfl (fun h7 => ?_) (fun h7 => ?_)
      · refine r_iload dX12_give_29 rfl ?_
        refine r_iconst (x := 1) dX12_give_31 rfl ?_
        refine r_aload_n dX12_give_32 rfl ?_
        refine r_iload_n dX12_give_33 rfl ?_
        refine r_iload_n dX12_give_34 rfl ?_
        refine c_OI rfl (inv_V (mi := mi_X12_give) (b := 0) (rest := [.int 1, .int x4]) (X12_inPurse_ok G x1 x3 M) rfl (by decide) dX12_give_35 lkm_X12_439 cal_X12_inPurse cM_0 rfl rfl (Nat.le_of_ble_eq_true rfl) rfl) (fun v8 => ?_)
        refine c_Z (inv_S (mi := mi_X12_give) (rest := []) (X12_isIn_ok G x4 1 v8 M) rfl (by decide) dX12_give_38 lkm_X12_401 cal_X12_isIn rfl (Nat.le_of_ble_eq_true rfl) rfl) ?_
        refine r_ifz_ne (tgt := 46) dX12_give_41 rfl (fun h9 => ?_) (fun h9 => ?_)
        · refine r_aload_n dX12_give_46 rfl ?_
          refine c_OV rfl (inv_V (mi := mi_X12_give) (b := 0) (rest := []) (X12_keepAct_ok G M) rfl (by decide) dX12_give_47 lkm_X12_445 cal_X12_keepAct cM_0 rfl rfl (Nat.le_of_ble_eq_true rfl) rfl) (fun M10 => ?_)
          refine r_aload_n dX12_give_50 rfl ?_
          refine r_getf (v := .ref (G.2.2.2 (33))) dX12_give_51 fM_0_48 kX12 (by decide) lkf_X12_113 rfl ?_
          refine r_iconst (x := 0) dX12_give_54 rfl ?_
          refine r_iconst (x := 3) dX12_give_55 rfl ?_
          refine r_iload_n dX12_give_56 rfl ?_
          refine r_imul dX12_give_57 ?_
          refine r_iadd dX12_give_58 ?_
          refine r_iload_n dX12_give_59 rfl ?_
          refine r_iadd dX12_give_60 ?_
          refine r_dup2 dX12_give_61 rfl rfl ?_
          refine r_gd rfl (fun g11 => ?_)
          refine r_iald dX12_give_62 aM_33 (inb_in g11) rfl ?_
          refine r_iload dX12_give_63 rfl ?_
          refine r_isub dX12_give_65 ?_
          refine r_iast dX12_give_66 aM_33 (inb_in g11) rfl (fun M12 => ?_)
          refine r_aload_n dX12_give_67 rfl ?_
          refine r_iload_n dX12_give_68 rfl ?_
          refine r_iload_n dX12_give_69 rfl ?_
          refine r_iload dX12_give_70 rfl ?_
          refine c_OV rfl (inv_V (mi := mi_X12_give) (b := 0) (rest := []) (X12_gets_ok G x2 x3 x4 M12) rfl (by decide) dX12_give_72 lkm_X12_455 cal_X12_gets cM_0 rfl rfl (Nat.le_of_ble_eq_true rfl) rfl) (fun M13 => ?_)
          refine r_aload_n dX12_give_75 rfl ?_
          refine r_iload_n dX12_give_76 rfl ?_
          refine r_iload_n dX12_give_77 rfl ?_
          refine c_OI rfl (inv_V (mi := mi_X12_give) (b := 0) (rest := []) (X12_inPurse_ok G x2 x3 M13) rfl (by decide) dX12_give_78 lkm_X12_439 cal_X12_inPurse cM_0 rfl rfl (Nat.le_of_ble_eq_true rfl) rfl) (fun v14 => ?_)
          exact r_iret (ty := .int) dX12_give_81 rfl rfl rfl
        refine r_iconst (x := (-1)) dX12_give_44 rfl ?_
        exact r_iret (ty := .int) dX12_give_45 rfl rfl rfl
      refine r_iconst (x := (-1)) dX12_give_44 rfl ?_
      exact r_iret (ty := .int) dX12_give_45 rfl rfl rfl
    refine r_iconst (x := (-1)) dX12_give_44 rfl ?_
    exact r_iret (ty := .int) dX12_give_45 rfl rfl rfl
  refine r_iconst (x := (-1)) dX12_give_44 rfl ?_
  exact r_iret (ty := .int) dX12_give_45 rfl rfl rfl

theorem dX12_change_0 : decode cX12_change 0 = .ok (.aload_n 0, 1) := by decide +kernel
theorem dX12_change_1 : decode cX12_change 1 = .ok (.iload_n 1, 1) := by decide +kernel
theorem dX12_change_2 : decode cX12_change 2 = .ok (.invokevirtual 426, 3) := by decide +kernel
theorem dX12_change_5 : decode cX12_change 5 = .ok (.ifCond .eq 19, 3) := by decide +kernel
theorem dX12_change_8 : decode cX12_change 8 = .ok (.aload_n 0, 1) := by decide +kernel
theorem dX12_change_9 : decode cX12_change 9 = .ok (.iload_n 2, 1) := by decide +kernel
theorem dX12_change_10 : decode cX12_change 10 = .ok (.invokevirtual 436, 3) := by decide +kernel
theorem dX12_change_13 : decode cX12_change 13 = .ok (.ifCond .eq 11, 3) := by decide +kernel
theorem dX12_change_16 : decode cX12_change 16 = .ok (.aload_n 0, 1) := by decide +kernel
theorem dX12_change_17 : decode cX12_change 17 = .ok (.iload_n 3, 1) := by decide +kernel
theorem dX12_change_18 : decode cX12_change 18 = .ok (.invokevirtual 436, 3) := by decide +kernel
theorem dX12_change_21 : decode cX12_change 21 = .ok (.ifCond .ne 5, 3) := by decide +kernel
theorem dX12_change_24 : decode cX12_change 24 = .ok (.iconst (-1), 1) := by decide +kernel
theorem dX12_change_25 : decode cX12_change 25 = .ok (.ireturn, 1) := by decide +kernel
theorem dX12_change_26 : decode cX12_change 26 = .ok (.bipush 9, 2) := by decide +kernel
theorem dX12_change_28 : decode cX12_change 28 = .ok (.aload_n 0, 1) := by decide +kernel
theorem dX12_change_29 : decode cX12_change 29 = .ok (.getfield 301, 3) := by decide +kernel
theorem dX12_change_32 : decode cX12_change 32 = .ok (.imul, 1) := by decide +kernel
theorem dX12_change_33 : decode cX12_change 33 = .ok (.iconst 3, 1) := by decide +kernel
theorem dX12_change_34 : decode cX12_change 34 = .ok (.iload_n 2, 1) := by decide +kernel
theorem dX12_change_35 : decode cX12_change 35 = .ok (.imul, 1) := by decide +kernel
theorem dX12_change_36 : decode cX12_change 36 = .ok (.iadd, 1) := by decide +kernel
theorem dX12_change_37 : decode cX12_change 37 = .ok (.iload_n 3, 1) := by decide +kernel
theorem dX12_change_38 : decode cX12_change 38 = .ok (.iadd, 1) := by decide +kernel
theorem dX12_change_39 : decode cX12_change 39 = .ok (.istore 4, 2) := by decide +kernel
theorem dX12_change_41 : decode cX12_change 41 = .ok (.aload_n 0, 1) := by decide +kernel
theorem dX12_change_42 : decode cX12_change 42 = .ok (.getfield 66, 3) := by decide +kernel
theorem dX12_change_45 : decode cX12_change 45 = .ok (.iload 4, 2) := by decide +kernel
theorem dX12_change_47 : decode cX12_change 47 = .ok (.iaload, 1) := by decide +kernel
theorem dX12_change_48 : decode cX12_change 48 = .ok (.ifCond .eq 19, 3) := by decide +kernel
theorem dX12_change_51 : decode cX12_change 51 = .ok (.aload_n 0, 1) := by decide +kernel
theorem dX12_change_52 : decode cX12_change 52 = .ok (.iload_n 1, 1) := by decide +kernel
theorem dX12_change_53 : decode cX12_change 53 = .ok (.iload_n 2, 1) := by decide +kernel
theorem dX12_change_54 : decode cX12_change 54 = .ok (.invokevirtual 439, 3) := by decide +kernel
theorem dX12_change_57 : decode cX12_change 57 = .ok (.aload_n 0, 1) := by decide +kernel
theorem dX12_change_58 : decode cX12_change 58 = .ok (.getfield 66, 3) := by decide +kernel
theorem dX12_change_61 : decode cX12_change 61 = .ok (.iload 4, 2) := by decide +kernel
theorem dX12_change_63 : decode cX12_change 63 = .ok (.iaload, 1) := by decide +kernel
theorem dX12_change_64 : decode cX12_change 64 = .ok (.if_icmp .ge 5, 3) := by decide +kernel
theorem dX12_change_67 : decode cX12_change 67 = .ok (.iconst (-1), 1) := by decide +kernel
theorem dX12_change_68 : decode cX12_change 68 = .ok (.ireturn, 1) := by decide +kernel
theorem dX12_change_69 : decode cX12_change 69 = .ok (.aload_n 0, 1) := by decide +kernel
theorem dX12_change_70 : decode cX12_change 70 = .ok (.invokevirtual 445, 3) := by decide +kernel
theorem dX12_change_73 : decode cX12_change 73 = .ok (.aload_n 0, 1) := by decide +kernel
theorem dX12_change_74 : decode cX12_change 74 = .ok (.getfield 113, 3) := by decide +kernel
theorem dX12_change_77 : decode cX12_change 77 = .ok (.iconst 0, 1) := by decide +kernel
theorem dX12_change_78 : decode cX12_change 78 = .ok (.iconst 3, 1) := by decide +kernel
theorem dX12_change_79 : decode cX12_change 79 = .ok (.iload_n 1, 1) := by decide +kernel
theorem dX12_change_80 : decode cX12_change 80 = .ok (.imul, 1) := by decide +kernel
theorem dX12_change_81 : decode cX12_change 81 = .ok (.iadd, 1) := by decide +kernel
theorem dX12_change_82 : decode cX12_change 82 = .ok (.iload_n 2, 1) := by decide +kernel
theorem dX12_change_83 : decode cX12_change 83 = .ok (.iadd, 1) := by decide +kernel
theorem dX12_change_84 : decode cX12_change 84 = .ok (.dup2, 1) := by decide +kernel
theorem dX12_change_85 : decode cX12_change 85 = .ok (.iaload, 1) := by decide +kernel
theorem dX12_change_86 : decode cX12_change 86 = .ok (.aload_n 0, 1) := by decide +kernel
theorem dX12_change_87 : decode cX12_change 87 = .ok (.getfield 66, 3) := by decide +kernel
theorem dX12_change_90 : decode cX12_change 90 = .ok (.iload 4, 2) := by decide +kernel
theorem dX12_change_92 : decode cX12_change 92 = .ok (.iaload, 1) := by decide +kernel
theorem dX12_change_93 : decode cX12_change 93 = .ok (.isub, 1) := by decide +kernel
theorem dX12_change_94 : decode cX12_change 94 = .ok (.iastore, 1) := by decide +kernel
theorem dX12_change_95 : decode cX12_change 95 = .ok (.aload_n 0, 1) := by decide +kernel
theorem dX12_change_96 : decode cX12_change 96 = .ok (.iload_n 1, 1) := by decide +kernel
theorem dX12_change_97 : decode cX12_change 97 = .ok (.iload_n 3, 1) := by decide +kernel
theorem dX12_change_98 : decode cX12_change 98 = .ok (.aload_n 0, 1) := by decide +kernel
theorem dX12_change_99 : decode cX12_change 99 = .ok (.getfield 69, 3) := by decide +kernel
theorem dX12_change_102 : decode cX12_change 102 = .ok (.iload 4, 2) := by decide +kernel
theorem dX12_change_104 : decode cX12_change 104 = .ok (.iaload, 1) := by decide +kernel
theorem dX12_change_105 : decode cX12_change 105 = .ok (.invokevirtual 455, 3) := by decide +kernel
theorem dX12_change_108 : decode cX12_change 108 = .ok (.aload_n 0, 1) := by decide +kernel
theorem dX12_change_109 : decode cX12_change 109 = .ok (.iload_n 1, 1) := by decide +kernel
theorem dX12_change_110 : decode cX12_change 110 = .ok (.iload_n 3, 1) := by decide +kernel
theorem dX12_change_111 : decode cX12_change 111 = .ok (.invokevirtual 439, 3) := by decide +kernel
theorem dX12_change_114 : decode cX12_change 114 = .ok (.ireturn, 1) := by decide +kernel
abbrev mi_X12_change : MI := (zTM, RX12, yX12_change, cX12_change, 5, (some .int), 4)
theorem cal_X12_change : zCalV mi_X12_change 3 := ⟨⟨zTB_i8 140 (by decide +kernel), zTB_i8 138 (by decide +kernel), zTB_i8 139 (by decide +kernel), zTB_i1 13 (by decide +kernel)⟩, ⟨by decide, by decide, by decide +kernel⟩, by decide⟩
noncomputable def X12_change (x1 : Int32) (x2 : Int32) (x3 : Int32) (M : Mem) : Option (Int32 × Mem) :=
  bo_ (X12_isMan x1 M) fun b1 =>
  if b1 = true then
    bo_ (X12_isKind x2 M) fun b3 =>
    if b3 = true then
      bo_ (X12_isKind x3 M) fun b5 =>
      if b5 = true then
        lt_ (α := Int32) (((9 * (M.1 0 41)) + (3 * x2)) + x3) fun y7 =>
        gd_ (inb y7 (18) = true) (
        if (M.1 18 y7.toNatClampNeg) = 0 then
          some ((-1), M)
        else
        bo_ (X12_inPurse x1 x2 M) fun v10 =>
        if (M.1 18 y7.toNatClampNeg) ≤ v10 then
          bo_ (X12_keepAct M) fun M12 =>
          gd_ (inb ((0 + (3 * x1)) + x2) (42) = true) (
          lt_ (uI M12 33 (((0 + (3 * x1)) + x2).toNatClampNeg) ((M12.1 33 (((0 + (3 * x1)) + x2).toNatClampNeg)) - (M12.1 18 y7.toNatClampNeg))) fun M14 =>
          gd_ (inb y7 (18) = true) (
          bo_ (X12_gets x1 x3 (M14.1 19 y7.toNatClampNeg) M14) fun M16 =>
          bo_ (X12_inPurse x1 x3 M16) fun v17 =>
          some (v17, M16)))
        else
        some ((-1), M))
      else
      some ((-1), M)
    else
    some ((-1), M)
  else
  some ((-1), M)
set_option maxRecDepth 100000 in
set_option maxHeartbeats 4000000 in
theorem X12_change_ok (G : Gh) (x1 : Int32) (x2 : Int32) (x3 : Int32) (M : Mem) : Mt G mi_X12_change [.ref (G.2.2.2 (0)), .int x1, .int x2, .int x3] M ((dO dIM) (X12_change x1 x2 x3 M)) := by
  refine Mt_of (lv := [some (.ref (G.2.2.2 (0))), some (.int x1), some (.int x2), some (.int x3)]) (by decide) rfl (Nat.le_of_ble_eq_true rfl) rfl ?_
  refine r_le (lv' := [some (.ref (G.2.2.2 (0))), some (.int x1), some (.int x2), some (.int x3), none]) (And.intro rfl (And.intro rfl (And.intro rfl (And.intro rfl True.intro)))) ?_
  unfold X12_change
  refine r_aload_n dX12_change_0 rfl ?_
  refine r_iload_n dX12_change_1 rfl ?_
  refine c_OZ rfl (inv_V (mi := mi_X12_change) (b := 0) (rest := []) (X12_isMan_ok G x1 M) rfl (by decide) dX12_change_2 lkm_X12_426 cal_X12_isMan cM_0 rfl rfl (Nat.le_of_ble_eq_true rfl) rfl) (fun b1 => ?_)
  refine r_ifz_eq (tgt := 24) dX12_change_5 rfl (fun h2 => ?_) (fun h2 => ?_)
  · refine r_aload_n dX12_change_8 rfl ?_
    refine r_iload_n dX12_change_9 rfl ?_
    refine c_OZ rfl (inv_V (mi := mi_X12_change) (b := 0) (rest := []) (X12_isKind_ok G x2 M) rfl (by decide) dX12_change_10 lkm_X12_436 cal_X12_isKind cM_0 rfl rfl (Nat.le_of_ble_eq_true rfl) rfl) (fun b3 => ?_)
    refine r_ifz_eq (tgt := 24) dX12_change_13 rfl (fun h4 => ?_) (fun h4 => ?_)
    · refine r_aload_n dX12_change_16 rfl ?_
      refine r_iload_n dX12_change_17 rfl ?_
      refine c_OZ rfl (inv_V (mi := mi_X12_change) (b := 0) (rest := []) (X12_isKind_ok G x3 M) rfl (by decide) dX12_change_18 lkm_X12_436 cal_X12_isKind cM_0 rfl rfl (Nat.le_of_ble_eq_true rfl) rfl) (fun b5 => ?_)
      refine r_ifz_ne (tgt := 26) dX12_change_21 rfl (fun h6 => ?_) (fun h6 => ?_)
      · refine r_bipush (x := 9) dX12_change_26 rfl ?_
        refine r_aload_n dX12_change_28 rfl ?_
        refine r_getf (v := .int (M.1 0 41)) dX12_change_29 fM_0_41 kX12 (by decide) lkf_X12_301 rfl ?_
        refine r_imul dX12_change_32 ?_
        refine r_iconst (x := 3) dX12_change_33 rfl ?_
        refine r_iload_n dX12_change_34 rfl ?_
        refine r_imul dX12_change_35 ?_
        refine r_iadd dX12_change_36 ?_
        refine r_iload_n dX12_change_37 rfl ?_
        refine r_iadd dX12_change_38 ?_
        refine r_letI (fun y7 => ?_)
        refine r_istore (lv' := [some (.ref (G.2.2.2 (0))), some (.int x1), some (.int x2), some (.int x3), some (.int y7)]) dX12_change_39 (Nat.le_of_ble_eq_true rfl) rfl rfl ?_
        refine r_aload_n dX12_change_41 rfl ?_
        refine r_getf (v := .ref (G.2.2.2 (18))) dX12_change_42 fM_0_26 kX12 (by decide) lkf_X12_66 rfl ?_
        refine r_iload dX12_change_45 rfl ?_
        refine r_gd rfl (fun g8 => ?_)
        refine r_iald dX12_change_47 aM_18 (inb_in g8) rfl ?_
        refine r_if_eq (tgt := 67) dX12_change_48 rfl (fun h9 => ?_) (fun h9 => ?_)
        · refine r_iconst (x := (-1)) dX12_change_67 rfl ?_
          exact r_iret (ty := .int) dX12_change_68 rfl rfl rfl
        refine r_aload_n dX12_change_51 rfl ?_
        refine r_iload_n dX12_change_52 rfl ?_
        refine r_iload_n dX12_change_53 rfl ?_
        refine c_OI rfl (inv_V (mi := mi_X12_change) (b := 0) (rest := []) (X12_inPurse_ok G x1 x2 M) rfl (by decide) dX12_change_54 lkm_X12_439 cal_X12_inPurse cM_0 rfl rfl (Nat.le_of_ble_eq_true rfl) rfl) (fun v10 => ?_)
        refine r_aload_n dX12_change_57 rfl ?_
        refine r_getf (v := .ref (G.2.2.2 (18))) dX12_change_58 fM_0_26 kX12 (by decide) lkf_X12_66 rfl ?_
        refine r_iload dX12_change_61 rfl ?_
        refine r_iald dX12_change_63 aM_18 (inb_in g8) rfl ?_
        refine r_icmp_ge (tgt := 69) dX12_change_64 rfl (fun h11 => ?_) (fun h11 => ?_)
        · refine r_aload_n dX12_change_69 rfl ?_
          refine c_OV rfl (inv_V (mi := mi_X12_change) (b := 0) (rest := []) (X12_keepAct_ok G M) rfl (by decide) dX12_change_70 lkm_X12_445 cal_X12_keepAct cM_0 rfl rfl (Nat.le_of_ble_eq_true rfl) rfl) (fun M12 => ?_)
          refine r_aload_n dX12_change_73 rfl ?_
          refine r_getf (v := .ref (G.2.2.2 (33))) dX12_change_74 fM_0_48 kX12 (by decide) lkf_X12_113 rfl ?_
          refine r_iconst (x := 0) dX12_change_77 rfl ?_
          refine r_iconst (x := 3) dX12_change_78 rfl ?_
          refine r_iload_n dX12_change_79 rfl ?_
          refine r_imul dX12_change_80 ?_
          refine r_iadd dX12_change_81 ?_
          refine r_iload_n dX12_change_82 rfl ?_
          refine r_iadd dX12_change_83 ?_
          refine r_dup2 dX12_change_84 rfl rfl ?_
          refine r_gd rfl (fun g13 => ?_)
          refine r_iald dX12_change_85 aM_33 (inb_in g13) rfl ?_
          refine r_aload_n dX12_change_86 rfl ?_
          refine r_getf (v := .ref (G.2.2.2 (18))) dX12_change_87 fM_0_26 kX12 (by decide) lkf_X12_66 rfl ?_
          refine r_iload dX12_change_90 rfl ?_
          refine r_iald dX12_change_92 aM_18 (inb_in g8) rfl ?_
          refine r_isub dX12_change_93 ?_
          refine r_iast dX12_change_94 aM_33 (inb_in g13) rfl (fun M14 => ?_)
          refine r_aload_n dX12_change_95 rfl ?_
          refine r_iload_n dX12_change_96 rfl ?_
          refine r_iload_n dX12_change_97 rfl ?_
          refine r_aload_n dX12_change_98 rfl ?_
          refine r_getf (v := .ref (G.2.2.2 (19))) dX12_change_99 fM_0_27 kX12 (by decide) lkf_X12_69 rfl ?_
          refine r_iload dX12_change_102 rfl ?_
          refine r_gd rfl (fun g15 => ?_)
          refine r_iald dX12_change_104 aM_19 (inb_in g15) rfl ?_
          refine c_OV rfl (inv_V (mi := mi_X12_change) (b := 0) (rest := []) (X12_gets_ok G x1 x3 (M14.1 19 y7.toNatClampNeg) M14) rfl (by decide) dX12_change_105 lkm_X12_455 cal_X12_gets cM_0 rfl rfl (Nat.le_of_ble_eq_true rfl) rfl) (fun M16 => ?_)
          refine r_aload_n dX12_change_108 rfl ?_
          refine r_iload_n dX12_change_109 rfl ?_
          refine r_iload_n dX12_change_110 rfl ?_
          refine c_OI rfl (inv_V (mi := mi_X12_change) (b := 0) (rest := []) (X12_inPurse_ok G x1 x3 M16) rfl (by decide) dX12_change_111 lkm_X12_439 cal_X12_inPurse cM_0 rfl rfl (Nat.le_of_ble_eq_true rfl) rfl) (fun v17 => ?_)
          exact r_iret (ty := .int) dX12_change_114 rfl rfl rfl
        refine r_iconst (x := (-1)) dX12_change_67 rfl ?_
        exact r_iret (ty := .int) dX12_change_68 rfl rfl rfl
      refine r_iconst (x := (-1)) dX12_change_24 rfl ?_
      exact r_iret (ty := .int) dX12_change_25 rfl rfl rfl
    refine r_iconst (x := (-1)) dX12_change_24 rfl ?_
    exact r_iret (ty := .int) dX12_change_25 rfl rfl rfl
  refine r_iconst (x := (-1)) dX12_change_24 rfl ?_
  exact r_iret (ty := .int) dX12_change_25 rfl rfl rfl

theorem dX12_has_0 : decode cX12_has 0 = .ok (.iload_n 0, 1) := by decide +kernel
theorem dX12_has_1 : decode cX12_has 1 = .ok (.iload_n 1, 1) := by decide +kernel
theorem dX12_has_2 : decode cX12_has 2 = .ok (.ishr, 1) := by decide +kernel
theorem dX12_has_3 : decode cX12_has 3 = .ok (.iconst 1, 1) := by decide +kernel
theorem dX12_has_4 : decode cX12_has 4 = .ok (.iand, 1) := by decide +kernel
theorem dX12_has_5 : decode cX12_has 5 = .ok (.iconst 1, 1) := by decide +kernel
theorem dX12_has_6 : decode cX12_has 6 = .ok (.if_icmp .ne 7, 3) := by decide +kernel
theorem dX12_has_9 : decode cX12_has 9 = .ok (.iconst 1, 1) := by decide +kernel
theorem dX12_has_10 : decode cX12_has 10 = .ok (.goto 4, 3) := by decide +kernel
theorem dX12_has_13 : decode cX12_has 13 = .ok (.iconst 0, 1) := by decide +kernel
theorem dX12_has_14 : decode cX12_has 14 = .ok (.ireturn, 1) := by decide +kernel
abbrev mi_X12_has : MI := (zTM, RX12, yX12_has, cX12_has, 2, (some .boolean), 2)
theorem cal_X12_has : zCalS mi_X12_has 2 := ⟨⟨zTB_i8 151 (by decide +kernel), zTB_i8 150 (by decide +kernel), zTB_i1 13 (by decide +kernel)⟩, ⟨by decide, by decide, by decide +kernel⟩, by decide⟩
noncomputable def X12_has (x0 : Int32) (x1 : Int32) : Bool :=
  if ((x0 >>> (x1 &&& 31)) &&& 1) = 1 then
    true
  else
  false
set_option maxRecDepth 100000 in
set_option maxHeartbeats 4000000 in
theorem X12_has_ok (G : Gh) (x0 : Int32) (x1 : Int32) (M : Mem) : Mt G mi_X12_has [.int x0, .int x1] M ((dZ M) (X12_has x0 x1)) := by
  refine Mt_of (lv := [some (.int x0), some (.int x1)]) (by decide) rfl (Nat.le_of_ble_eq_true rfl) rfl ?_
  unfold X12_has
  refine r_iload_n dX12_has_0 rfl ?_
  refine r_iload_n dX12_has_1 rfl ?_
  refine r_ishr dX12_has_2 ?_
  refine r_iconst (x := 1) dX12_has_3 rfl ?_
  refine r_iand dX12_has_4 ?_
  refine r_iconst (x := 1) dX12_has_5 rfl ?_
  refine r_icmp_ne (tgt := 13) dX12_has_6 rfl (fun h1 => ?_) (fun h1 => ?_)
  · refine r_iconst (x := 1) dX12_has_9 rfl ?_
    refine r_goto (tgt := 14) dX12_has_10 rfl ?_
    exact r_iret (ty := .boolean) dX12_has_14 rfl rfl rfl
  refine r_iconst (x := 0) dX12_has_13 rfl ?_
  exact r_iret (ty := .boolean) dX12_has_14 rfl rfl rfl

theorem dX12_loosen_0 : decode cX12_loosen 0 = .ok (.aload_n 0, 1) := by decide +kernel
theorem dX12_loosen_1 : decode cX12_loosen 1 = .ok (.getfield 113, 3) := by decide +kernel
theorem dX12_loosen_4 : decode cX12_loosen 4 = .ok (.bipush 41, 2) := by decide +kernel
theorem dX12_loosen_6 : decode cX12_loosen 6 = .ok (.sipush 137, 3) := by decide +kernel
theorem dX12_loosen_9 : decode cX12_loosen 9 = .ok (.aload_n 0, 1) := by decide +kernel
theorem dX12_loosen_10 : decode cX12_loosen 10 = .ok (.getfield 113, 3) := by decide +kernel
theorem dX12_loosen_13 : decode cX12_loosen 13 = .ok (.bipush 41, 2) := by decide +kernel
theorem dX12_loosen_15 : decode cX12_loosen 15 = .ok (.iaload, 1) := by decide +kernel
theorem dX12_loosen_16 : decode cX12_loosen 16 = .ok (.imul, 1) := by decide +kernel
theorem dX12_loosen_17 : decode cX12_loosen 17 = .ok (.bipush 71, 2) := by decide +kernel
theorem dX12_loosen_19 : decode cX12_loosen 19 = .ok (.iadd, 1) := by decide +kernel
theorem dX12_loosen_20 : decode cX12_loosen 20 = .ok (.sipush 1000, 3) := by decide +kernel
theorem dX12_loosen_23 : decode cX12_loosen 23 = .ok (.irem, 1) := by decide +kernel
theorem dX12_loosen_24 : decode cX12_loosen 24 = .ok (.iastore, 1) := by decide +kernel
theorem dX12_loosen_25 : decode cX12_loosen 25 = .ok (.aload_n 0, 1) := by decide +kernel
theorem dX12_loosen_26 : decode cX12_loosen 26 = .ok (.getfield 20, 3) := by decide +kernel
theorem dX12_loosen_29 : decode cX12_loosen 29 = .ok (.aload_n 0, 1) := by decide +kernel
theorem dX12_loosen_30 : decode cX12_loosen 30 = .ok (.getfield 301, 3) := by decide +kernel
theorem dX12_loosen_33 : decode cX12_loosen 33 = .ok (.iaload, 1) := by decide +kernel
theorem dX12_loosen_34 : decode cX12_loosen 34 = .ok (.ifCond .ne 4, 3) := by decide +kernel
theorem dX12_loosen_37 : decode cX12_loosen 37 = .ok (.return_, 1) := by decide +kernel
theorem dX12_loosen_38 : decode cX12_loosen 38 = .ok (.aload_n 0, 1) := by decide +kernel
theorem dX12_loosen_39 : decode cX12_loosen 39 = .ok (.getfield 113, 3) := by decide +kernel
theorem dX12_loosen_42 : decode cX12_loosen 42 = .ok (.bipush 41, 2) := by decide +kernel
theorem dX12_loosen_44 : decode cX12_loosen 44 = .ok (.iaload, 1) := by decide +kernel
theorem dX12_loosen_45 : decode cX12_loosen 45 = .ok (.aload_n 0, 1) := by decide +kernel
theorem dX12_loosen_46 : decode cX12_loosen 46 = .ok (.getfield 20, 3) := by decide +kernel
theorem dX12_loosen_49 : decode cX12_loosen 49 = .ok (.aload_n 0, 1) := by decide +kernel
theorem dX12_loosen_50 : decode cX12_loosen 50 = .ok (.getfield 301, 3) := by decide +kernel
theorem dX12_loosen_53 : decode cX12_loosen 53 = .ok (.iaload, 1) := by decide +kernel
theorem dX12_loosen_54 : decode cX12_loosen 54 = .ok (.irem, 1) := by decide +kernel
theorem dX12_loosen_55 : decode cX12_loosen 55 = .ok (.istore_n 2, 1) := by decide +kernel
theorem dX12_loosen_56 : decode cX12_loosen 56 = .ok (.aload_n 0, 1) := by decide +kernel
theorem dX12_loosen_57 : decode cX12_loosen 57 = .ok (.iload_n 1, 1) := by decide +kernel
theorem dX12_loosen_58 : decode cX12_loosen 58 = .ok (.iload_n 2, 1) := by decide +kernel
theorem dX12_loosen_59 : decode cX12_loosen 59 = .ok (.invokevirtual 439, 3) := by decide +kernel
theorem dX12_loosen_62 : decode cX12_loosen 62 = .ok (.ifCond .ne 4, 3) := by decide +kernel
theorem dX12_loosen_65 : decode cX12_loosen 65 = .ok (.return_, 1) := by decide +kernel
theorem dX12_loosen_66 : decode cX12_loosen 66 = .ok (.aload_n 0, 1) := by decide +kernel
theorem dX12_loosen_67 : decode cX12_loosen 67 = .ok (.getfield 113, 3) := by decide +kernel
theorem dX12_loosen_70 : decode cX12_loosen 70 = .ok (.iconst 0, 1) := by decide +kernel
theorem dX12_loosen_71 : decode cX12_loosen 71 = .ok (.iconst 3, 1) := by decide +kernel
theorem dX12_loosen_72 : decode cX12_loosen 72 = .ok (.iload_n 1, 1) := by decide +kernel
theorem dX12_loosen_73 : decode cX12_loosen 73 = .ok (.imul, 1) := by decide +kernel
theorem dX12_loosen_74 : decode cX12_loosen 74 = .ok (.iadd, 1) := by decide +kernel
theorem dX12_loosen_75 : decode cX12_loosen 75 = .ok (.iload_n 2, 1) := by decide +kernel
theorem dX12_loosen_76 : decode cX12_loosen 76 = .ok (.iadd, 1) := by decide +kernel
theorem dX12_loosen_77 : decode cX12_loosen 77 = .ok (.dup2, 1) := by decide +kernel
theorem dX12_loosen_78 : decode cX12_loosen 78 = .ok (.iaload, 1) := by decide +kernel
theorem dX12_loosen_79 : decode cX12_loosen 79 = .ok (.iconst 1, 1) := by decide +kernel
theorem dX12_loosen_80 : decode cX12_loosen 80 = .ok (.isub, 1) := by decide +kernel
theorem dX12_loosen_81 : decode cX12_loosen 81 = .ok (.iastore, 1) := by decide +kernel
theorem dX12_loosen_82 : decode cX12_loosen 82 = .ok (.aload_n 0, 1) := by decide +kernel
theorem dX12_loosen_83 : decode cX12_loosen 83 = .ok (.iload_n 1, 1) := by decide +kernel
theorem dX12_loosen_84 : decode cX12_loosen 84 = .ok (.iload_n 2, 1) := by decide +kernel
theorem dX12_loosen_85 : decode cX12_loosen 85 = .ok (.iconst 1, 1) := by decide +kernel
theorem dX12_loosen_86 : decode cX12_loosen 86 = .ok (.iconst 1, 1) := by decide +kernel
theorem dX12_loosen_87 : decode cX12_loosen 87 = .ok (.invokevirtual 448, 3) := by decide +kernel
theorem dX12_loosen_90 : decode cX12_loosen 90 = .ok (.return_, 1) := by decide +kernel
abbrev mi_X12_loosen : MI := (zTM, RX12, yX12_loosen, cX12_loosen, 3, none, 4)
theorem cal_X12_loosen : zCalV mi_X12_loosen 1 := ⟨⟨zTB_i8 155 (by decide +kernel), zTB_i8 154 (by decide +kernel), zTB_i0 93 (by decide +kernel), zTB_i1 13 (by decide +kernel)⟩, ⟨by decide, by decide, by decide +kernel⟩, by decide⟩
noncomputable def X12_loosen (x1 : Int32) (M : Mem) : Option (Mem) :=
  lt_ (uI M 33 41 (((137 * (M.1 33 41)) + 71) % 1000)) fun M1 =>
  gd_ (inb (M1.1 0 41) (2) = true) (
  if (M1.1 3 ((M1.1 0 41).toNatClampNeg)) = 0 then
    some M1
  else
  lt_ (α := Int32) ((M1.1 33 41) % (M1.1 3 ((M1.1 0 41).toNatClampNeg))) fun y4 =>
  bo_ (X12_inPurse x1 y4 M1) fun v5 =>
  if v5 = 0 then
    some M1
  else
  gd_ (inb ((0 + (3 * x1)) + y4) (42) = true) (
  lt_ (uI M1 33 (((0 + (3 * x1)) + y4).toNatClampNeg) ((M1.1 33 (((0 + (3 * x1)) + y4).toNatClampNeg)) - 1)) fun M8 =>
  bo_ (X12_lay x1 y4 1 1 M8) fun M9 =>
  some M9))
set_option maxRecDepth 100000 in
set_option maxHeartbeats 4000000 in
theorem X12_loosen_ok (G : Gh) (x1 : Int32) (M : Mem) : Mt G mi_X12_loosen [.ref (G.2.2.2 (0)), .int x1] M ((dO dV) (X12_loosen x1 M)) := by
  refine Mt_of (lv := [some (.ref (G.2.2.2 (0))), some (.int x1)]) (by decide) rfl (Nat.le_of_ble_eq_true rfl) rfl ?_
  refine r_le (lv' := [some (.ref (G.2.2.2 (0))), some (.int x1), none]) (And.intro rfl (And.intro rfl True.intro)) ?_
  unfold X12_loosen
  refine r_aload_n dX12_loosen_0 rfl ?_
  refine r_getf (v := .ref (G.2.2.2 (33))) dX12_loosen_1 fM_0_48 kX12 (by decide) lkf_X12_113 rfl ?_
  refine r_bipush (x := 41) dX12_loosen_4 rfl ?_
  refine r_sipush (x := 137) dX12_loosen_6 rfl ?_
  refine r_aload_n dX12_loosen_9 rfl ?_
  refine r_getf (v := .ref (G.2.2.2 (33))) dX12_loosen_10 fM_0_48 kX12 (by decide) lkf_X12_113 rfl ?_
  refine r_bipush (x := 41) dX12_loosen_13 rfl ?_
  refine r_iald dX12_loosen_15 aM_33 (inb_in (i := 41) (n := 42) rfl) (m := 41) rfl ?_
  refine r_imul dX12_loosen_16 ?_
  refine r_bipush (x := 71) dX12_loosen_17 rfl ?_
  refine r_iadd dX12_loosen_19 ?_
  refine r_sipush (x := 1000) dX12_loosen_20 rfl ?_
  refine r_irem dX12_loosen_23 (by decide) ?_
  refine r_iast dX12_loosen_24 aM_33 (inb_in (i := 41) (n := 42) rfl) (m := 41) rfl (fun M1 => ?_)
  refine r_aload_n dX12_loosen_25 rfl ?_
  refine r_getf (v := .ref (G.2.2.2 (3))) dX12_loosen_26 fM_0_11 kX12 (by decide) lkf_X12_20 rfl ?_
  refine r_aload_n dX12_loosen_29 rfl ?_
  refine r_getf (v := .int (M1.1 0 41)) dX12_loosen_30 fM_0_41 kX12 (by decide) lkf_X12_301 rfl ?_
  refine r_gd rfl (fun g2 => ?_)
  refine r_iald dX12_loosen_33 aM_3 (inb_in g2) rfl ?_
  refine r_if_ne (tgt := 38) dX12_loosen_34 rfl (fun h3 => ?_) (fun h3 => ?_)
  · exact r_vret dX12_loosen_37 rfl rfl
  refine r_aload_n dX12_loosen_38 rfl ?_
  refine r_getf (v := .ref (G.2.2.2 (33))) dX12_loosen_39 fM_0_48 kX12 (by decide) lkf_X12_113 rfl ?_
  refine r_bipush (x := 41) dX12_loosen_42 rfl ?_
  refine r_iald dX12_loosen_44 aM_33 (inb_in (i := 41) (n := 42) rfl) (m := 41) rfl ?_
  refine r_aload_n dX12_loosen_45 rfl ?_
  refine r_getf (v := .ref (G.2.2.2 (3))) dX12_loosen_46 fM_0_11 kX12 (by decide) lkf_X12_20 rfl ?_
  refine r_aload_n dX12_loosen_49 rfl ?_
  refine r_getf (v := .int (M1.1 0 41)) dX12_loosen_50 fM_0_41 kX12 (by decide) lkf_X12_301 rfl ?_
  refine r_iald dX12_loosen_53 aM_3 (inb_in g2) rfl ?_
  refine r_irem dX12_loosen_54 h3 ?_
  refine r_letI (fun y4 => ?_)
  refine r_istore_n (lv' := [some (.ref (G.2.2.2 (0))), some (.int x1), some (.int y4)]) dX12_loosen_55 (Nat.le_of_ble_eq_true rfl) rfl rfl ?_
  refine r_aload_n dX12_loosen_56 rfl ?_
  refine r_iload_n dX12_loosen_57 rfl ?_
  refine r_iload_n dX12_loosen_58 rfl ?_
  refine c_OI rfl (inv_V (mi := mi_X12_loosen) (b := 0) (rest := []) (X12_inPurse_ok G x1 y4 M1) rfl (by decide) dX12_loosen_59 lkm_X12_439 cal_X12_inPurse cM_0 rfl rfl (Nat.le_of_ble_eq_true rfl) rfl) (fun v5 => ?_)
  refine r_if_ne (tgt := 66) dX12_loosen_62 rfl (fun h6 => ?_) (fun h6 => ?_)
  · exact r_vret dX12_loosen_65 rfl rfl
  refine r_aload_n dX12_loosen_66 rfl ?_
  refine r_getf (v := .ref (G.2.2.2 (33))) dX12_loosen_67 fM_0_48 kX12 (by decide) lkf_X12_113 rfl ?_
  refine r_iconst (x := 0) dX12_loosen_70 rfl ?_
  refine r_iconst (x := 3) dX12_loosen_71 rfl ?_
  refine r_iload_n dX12_loosen_72 rfl ?_
  refine r_imul dX12_loosen_73 ?_
  refine r_iadd dX12_loosen_74 ?_
  refine r_iload_n dX12_loosen_75 rfl ?_
  refine r_iadd dX12_loosen_76 ?_
  refine r_dup2 dX12_loosen_77 rfl rfl ?_
  refine r_gd rfl (fun g7 => ?_)
  refine r_iald dX12_loosen_78 aM_33 (inb_in g7) rfl ?_
  refine r_iconst (x := 1) dX12_loosen_79 rfl ?_
  refine r_isub dX12_loosen_80 ?_
  refine r_iast dX12_loosen_81 aM_33 (inb_in g7) rfl (fun M8 => ?_)
  refine r_aload_n dX12_loosen_82 rfl ?_
  refine r_iload_n dX12_loosen_83 rfl ?_
  refine r_iload_n dX12_loosen_84 rfl ?_
  refine r_iconst (x := 1) dX12_loosen_85 rfl ?_
  refine r_iconst (x := 1) dX12_loosen_86 rfl ?_
  refine c_OV rfl (inv_V (mi := mi_X12_loosen) (b := 0) (rest := []) (X12_lay_ok G x1 y4 1 1 M8) rfl (by decide) dX12_loosen_87 lkm_X12_448 cal_X12_lay cM_0 rfl rfl (Nat.le_of_ble_eq_true rfl) rfl) (fun M9 => ?_)
  exact r_vret dX12_loosen_90 rfl rfl

theorem dX12_growths_0 : decode cX12_growths 0 = .ok (.iconst 0, 1) := by decide +kernel
theorem dX12_growths_1 : decode cX12_growths 1 = .ok (.istore_n 1, 1) := by decide +kernel
theorem dX12_growths_2 : decode cX12_growths 2 = .ok (.iconst 0, 1) := by decide +kernel
theorem dX12_growths_3 : decode cX12_growths 3 = .ok (.istore_n 2, 1) := by decide +kernel
theorem dX12_growths_4 : decode cX12_growths 4 = .ok (.iload_n 2, 1) := by decide +kernel
theorem dX12_growths_5 : decode cX12_growths 5 = .ok (.aload_n 0, 1) := by decide +kernel
theorem dX12_growths_6 : decode cX12_growths 6 = .ok (.invokevirtual 398, 3) := by decide +kernel
theorem dX12_growths_9 : decode cX12_growths 9 = .ok (.if_icmp .ge 17, 3) := by decide +kernel
theorem dX12_growths_12 : decode cX12_growths 12 = .ok (.iload_n 1, 1) := by decide +kernel
theorem dX12_growths_13 : decode cX12_growths 13 = .ok (.aload_n 0, 1) := by decide +kernel
theorem dX12_growths_14 : decode cX12_growths 14 = .ok (.iload_n 2, 1) := by decide +kernel
theorem dX12_growths_15 : decode cX12_growths 15 = .ok (.invokevirtual 420, 3) := by decide +kernel
theorem dX12_growths_18 : decode cX12_growths 18 = .ok (.iadd, 1) := by decide +kernel
theorem dX12_growths_19 : decode cX12_growths 19 = .ok (.istore_n 1, 1) := by decide +kernel
theorem dX12_growths_20 : decode cX12_growths 20 = .ok (.iinc 2 1, 3) := by decide +kernel
theorem dX12_growths_23 : decode cX12_growths 23 = .ok (.goto (-19), 3) := by decide +kernel
theorem dX12_growths_26 : decode cX12_growths 26 = .ok (.iload_n 1, 1) := by decide +kernel
theorem dX12_growths_27 : decode cX12_growths 27 = .ok (.ireturn, 1) := by decide +kernel
abbrev mi_X12_growths : MI := (zTM, RX12, yX12_growths, cX12_growths, 3, (some .int), 6)
theorem cal_X12_growths : zCalV mi_X12_growths 0 := ⟨⟨zTB_i8 159 (by decide +kernel), zTB_i8 158 (by decide +kernel), zTB_i0 94 (by decide +kernel), zTB_i1 13 (by decide +kernel)⟩, ⟨by decide, by decide, by decide +kernel⟩, by decide⟩
noncomputable def X12_growths_L1 : Nat → Int32 → Int32 → Mem → Option (Int32 × Mem)
  | 0, _, _, _ => none
  | n + 1, c1, c2, M =>
    bo_ (X12_many M) fun v1 =>
    if v1 ≤ c2 then
      some (c1, M)
    else
    bp_ (X12_growthOf c2 M) fun v3 M4 =>
    X12_growths_L1 n (c1 + v3) (c2 + 1) M4
noncomputable def X12_growths (M : Mem) : Option (Int32 × Mem) :=
  b2_ (α := Int32) (β := Mem) (X12_growths_L1 zFU 0 0 M) fun e5 M6 =>
  some (e5, M6)
set_option maxRecDepth 100000 in
set_option maxHeartbeats 4000000 in
theorem X12_growths_L1_ok (G : Gh) {dn : Option (Int32 × Mem) → Option (Option Value × Mem)} (hs : dn none = none) (hx : ∀ (e5 : Int32) (M6 : Mem), Wr G mi_X12_growths dn 26 [none, some (.int e5), none] [] M6 (some (e5, M6))) : ∀ (n : Nat) (c1 : Int32) (c2 : Int32) (M : Mem), Wr G mi_X12_growths dn 4 [some (.ref (G.2.2.2 (0))), some (.int c1), some (.int c2)] [] M (X12_growths_L1 n c1 c2 M) := by
  intro n
  induction n with
  | zero => intro c1 c2 M; exact r_none (by exact hs)
  | succ n ih =>
    intro c1 c2 M
    rw [X12_growths_L1]
    refine r_iload_n dX12_growths_4 rfl ?_
    refine r_aload_n dX12_growths_5 rfl ?_
    refine c_OI (by exact hs) (inv_V (mi := mi_X12_growths) (b := 0) (rest := [.int c2]) (X12_many_ok G M) rfl (by decide) dX12_growths_6 lkm_X12_398 cal_X12_many cM_0 rfl rfl (Nat.le_of_ble_eq_true rfl) rfl) (fun v1 => ?_)
    refine r_icmp_ge (tgt := 26) dX12_growths_9 rfl (fun h2 => ?_) (fun h2 => ?_)
    · exact r_lk (hx c1 M) (And.intro rfl True.intro)
    refine r_iload_n dX12_growths_12 rfl ?_
    refine r_aload_n dX12_growths_13 rfl ?_
    refine r_iload_n dX12_growths_14 rfl ?_
    refine c_OIM (by exact hs) (inv_V (mi := mi_X12_growths) (b := 0) (rest := [.int c1]) (X12_growthOf_ok G c2 M) rfl (by decide) dX12_growths_15 lkm_X12_420 cal_X12_growthOf cM_0 rfl rfl (Nat.le_of_ble_eq_true rfl) rfl) (fun v3 M4 => ?_)
    refine r_iadd dX12_growths_18 ?_
    refine r_istore_n (lv' := [some (.ref (G.2.2.2 (0))), some (.int (c1 + v3)), some (.int c2)]) dX12_growths_19 (Nat.le_of_ble_eq_true rfl) rfl rfl ?_
    refine r_iinc (y := c2 + 1) (lv' := [some (.ref (G.2.2.2 (0))), some (.int (c1 + v3)), some (.int (c2 + 1))]) dX12_growths_20 rfl rfl (Nat.le_of_ble_eq_true rfl) rfl rfl ?_
    refine r_goto (tgt := 4) dX12_growths_23 rfl ?_
    exact r_lk (ih (c1 + v3) (c2 + 1) M4) (And.intro rfl (And.intro rfl (And.intro rfl True.intro)))
set_option maxRecDepth 100000 in
set_option maxHeartbeats 4000000 in
theorem X12_growths_ok (G : Gh) (M : Mem) : Mt G mi_X12_growths [.ref (G.2.2.2 (0))] M ((dO dIM) (X12_growths M)) := by
  refine Mt_of (lv := [some (.ref (G.2.2.2 (0)))]) (by decide) rfl (Nat.le_of_ble_eq_true rfl) rfl ?_
  refine r_le (lv' := [some (.ref (G.2.2.2 (0))), none, none]) (And.intro rfl True.intro) ?_
  unfold X12_growths
  refine r_iconst (x := 0) dX12_growths_0 rfl ?_
  refine r_istore_n (lv' := [some (.ref (G.2.2.2 (0))), some (.int 0), none]) dX12_growths_1 (Nat.le_of_ble_eq_true rfl) rfl rfl ?_
  refine r_iconst (x := 0) dX12_growths_2 rfl ?_
  refine r_istore_n (lv' := [some (.ref (G.2.2.2 (0))), some (.int 0), some (.int 0)]) dX12_growths_3 (Nat.le_of_ble_eq_true rfl) rfl rfl ?_
  refine r_jB2 (j := 26) (lvj := fun e5 M6 => [none, some (.int e5), none]) (stj := fun e5 M6 => []) (Mj := fun e5 M6 => M6) (fun e5 M6 => ?_) (fun hj26 => ?_)
  · refine r_iload_n dX12_growths_26 rfl ?_
    exact r_iret (ty := .int) dX12_growths_27 rfl rfl rfl
  exact r_lk (X12_growths_L1_ok G rfl hj26 zFU 0 0 M) (And.intro rfl (And.intro rfl (And.intro rfl True.intro)))

theorem dX12_goWeek_0 : decode cX12_goWeek 0 = .ok (.iconst 0, 1) := by decide +kernel
theorem dX12_goWeek_1 : decode cX12_goWeek 1 = .ok (.istore_n 1, 1) := by decide +kernel
theorem dX12_goWeek_2 : decode cX12_goWeek 2 = .ok (.iload_n 1, 1) := by decide +kernel
theorem dX12_goWeek_3 : decode cX12_goWeek 3 = .ok (.aload_n 0, 1) := by decide +kernel
theorem dX12_goWeek_4 : decode cX12_goWeek 4 = .ok (.invokevirtual 398, 3) := by decide +kernel
theorem dX12_goWeek_7 : decode cX12_goWeek 7 = .ok (.if_icmp .ge 30, 3) := by decide +kernel
theorem dX12_goWeek_10 : decode cX12_goWeek 10 = .ok (.aload_n 0, 1) := by decide +kernel
theorem dX12_goWeek_11 : decode cX12_goWeek 11 = .ok (.getfield 42, 3) := by decide +kernel
theorem dX12_goWeek_14 : decode cX12_goWeek 14 = .ok (.aload_n 0, 1) := by decide +kernel
theorem dX12_goWeek_15 : decode cX12_goWeek 15 = .ok (.getfield 301, 3) := by decide +kernel
theorem dX12_goWeek_18 : decode cX12_goWeek 18 = .ok (.iaload, 1) := by decide +kernel
theorem dX12_goWeek_19 : decode cX12_goWeek 19 = .ok (.iload_n 1, 1) := by decide +kernel
theorem dX12_goWeek_20 : decode cX12_goWeek 20 = .ok (.invokestatic 459, 3) := by decide +kernel
theorem dX12_goWeek_23 : decode cX12_goWeek 23 = .ok (.ifCond .eq 8, 3) := by decide +kernel
theorem dX12_goWeek_26 : decode cX12_goWeek 26 = .ok (.aload_n 0, 1) := by decide +kernel
theorem dX12_goWeek_27 : decode cX12_goWeek 27 = .ok (.iload_n 1, 1) := by decide +kernel
theorem dX12_goWeek_28 : decode cX12_goWeek 28 = .ok (.invokevirtual 463, 3) := by decide +kernel
theorem dX12_goWeek_31 : decode cX12_goWeek 31 = .ok (.iinc 1 1, 3) := by decide +kernel
theorem dX12_goWeek_34 : decode cX12_goWeek 34 = .ok (.goto (-32), 3) := by decide +kernel
theorem dX12_goWeek_37 : decode cX12_goWeek 37 = .ok (.aload_n 0, 1) := by decide +kernel
theorem dX12_goWeek_38 : decode cX12_goWeek 38 = .ok (.invokevirtual 466, 3) := by decide +kernel
theorem dX12_goWeek_41 : decode cX12_goWeek 41 = .ok (.istore_n 1, 1) := by decide +kernel
theorem dX12_goWeek_42 : decode cX12_goWeek 42 = .ok (.iconst 0, 1) := by decide +kernel
theorem dX12_goWeek_43 : decode cX12_goWeek 43 = .ok (.istore_n 2, 1) := by decide +kernel
theorem dX12_goWeek_44 : decode cX12_goWeek 44 = .ok (.iload_n 2, 1) := by decide +kernel
theorem dX12_goWeek_45 : decode cX12_goWeek 45 = .ok (.aload_n 0, 1) := by decide +kernel
theorem dX12_goWeek_46 : decode cX12_goWeek 46 = .ok (.invokevirtual 398, 3) := by decide +kernel
theorem dX12_goWeek_49 : decode cX12_goWeek 49 = .ok (.if_icmp .ge 48, 3) := by decide +kernel
theorem dX12_goWeek_52 : decode cX12_goWeek 52 = .ok (.aload_n 0, 1) := by decide +kernel
theorem dX12_goWeek_53 : decode cX12_goWeek 53 = .ok (.getfield 113, 3) := by decide +kernel
theorem dX12_goWeek_56 : decode cX12_goWeek 56 = .ok (.bipush 15, 2) := by decide +kernel
theorem dX12_goWeek_58 : decode cX12_goWeek 58 = .ok (.iload_n 2, 1) := by decide +kernel
theorem dX12_goWeek_59 : decode cX12_goWeek 59 = .ok (.iadd, 1) := by decide +kernel
theorem dX12_goWeek_60 : decode cX12_goWeek 60 = .ok (.iaload, 1) := by decide +kernel
theorem dX12_goWeek_61 : decode cX12_goWeek 61 = .ok (.aload_n 0, 1) := by decide +kernel
theorem dX12_goWeek_62 : decode cX12_goWeek 62 = .ok (.iload_n 2, 1) := by decide +kernel
theorem dX12_goWeek_63 : decode cX12_goWeek 63 = .ok (.invokevirtual 420, 3) := by decide +kernel
theorem dX12_goWeek_66 : decode cX12_goWeek 66 = .ok (.iadd, 1) := by decide +kernel
theorem dX12_goWeek_67 : decode cX12_goWeek 67 = .ok (.istore_n 3, 1) := by decide +kernel
theorem dX12_goWeek_68 : decode cX12_goWeek 68 = .ok (.aload_n 0, 1) := by decide +kernel
theorem dX12_goWeek_69 : decode cX12_goWeek 69 = .ok (.getfield 113, 3) := by decide +kernel
theorem dX12_goWeek_72 : decode cX12_goWeek 72 = .ok (.bipush 15, 2) := by decide +kernel
theorem dX12_goWeek_74 : decode cX12_goWeek 74 = .ok (.iload_n 2, 1) := by decide +kernel
theorem dX12_goWeek_75 : decode cX12_goWeek 75 = .ok (.iadd, 1) := by decide +kernel
theorem dX12_goWeek_76 : decode cX12_goWeek 76 = .ok (.iload_n 3, 1) := by decide +kernel
theorem dX12_goWeek_77 : decode cX12_goWeek 77 = .ok (.ifCond .ge 7, 3) := by decide +kernel
theorem dX12_goWeek_80 : decode cX12_goWeek 80 = .ok (.iconst 0, 1) := by decide +kernel
theorem dX12_goWeek_81 : decode cX12_goWeek 81 = .ok (.goto 9, 3) := by decide +kernel
theorem dX12_goWeek_84 : decode cX12_goWeek 84 = .ok (.bipush 99, 2) := by decide +kernel
theorem dX12_goWeek_86 : decode cX12_goWeek 86 = .ok (.iload_n 3, 1) := by decide +kernel
theorem dX12_goWeek_87 : decode cX12_goWeek 87 = .ok (.invokestatic 452, 3) := by decide +kernel
theorem dX12_goWeek_90 : decode cX12_goWeek 90 = .ok (.iastore, 1) := by decide +kernel
theorem dX12_goWeek_91 : decode cX12_goWeek 91 = .ok (.iinc 2 1, 3) := by decide +kernel
theorem dX12_goWeek_94 : decode cX12_goWeek 94 = .ok (.goto (-50), 3) := by decide +kernel
theorem dX12_goWeek_97 : decode cX12_goWeek 97 = .ok (.iconst 0, 1) := by decide +kernel
theorem dX12_goWeek_98 : decode cX12_goWeek 98 = .ok (.istore_n 2, 1) := by decide +kernel
theorem dX12_goWeek_99 : decode cX12_goWeek 99 = .ok (.iload_n 2, 1) := by decide +kernel
theorem dX12_goWeek_100 : decode cX12_goWeek 100 = .ok (.aload_n 0, 1) := by decide +kernel
theorem dX12_goWeek_101 : decode cX12_goWeek 101 = .ok (.invokevirtual 398, 3) := by decide +kernel
theorem dX12_goWeek_104 : decode cX12_goWeek 104 = .ok (.if_icmp .ge 58, 3) := by decide +kernel
theorem dX12_goWeek_107 : decode cX12_goWeek 107 = .ok (.aload_n 0, 1) := by decide +kernel
theorem dX12_goWeek_108 : decode cX12_goWeek 108 = .ok (.getfield 113, 3) := by decide +kernel
theorem dX12_goWeek_111 : decode cX12_goWeek 111 = .ok (.bipush 35, 2) := by decide +kernel
theorem dX12_goWeek_113 : decode cX12_goWeek 113 = .ok (.iload_n 2, 1) := by decide +kernel
theorem dX12_goWeek_114 : decode cX12_goWeek 114 = .ok (.iadd, 1) := by decide +kernel
theorem dX12_goWeek_115 : decode cX12_goWeek 115 = .ok (.iconst 0, 1) := by decide +kernel
theorem dX12_goWeek_116 : decode cX12_goWeek 116 = .ok (.iastore, 1) := by decide +kernel
theorem dX12_goWeek_117 : decode cX12_goWeek 117 = .ok (.iconst 0, 1) := by decide +kernel
theorem dX12_goWeek_118 : decode cX12_goWeek 118 = .ok (.istore_n 3, 1) := by decide +kernel
theorem dX12_goWeek_119 : decode cX12_goWeek 119 = .ok (.iload_n 3, 1) := by decide +kernel
theorem dX12_goWeek_120 : decode cX12_goWeek 120 = .ok (.iconst 3, 1) := by decide +kernel
theorem dX12_goWeek_121 : decode cX12_goWeek 121 = .ok (.if_icmp .ge 35, 3) := by decide +kernel
theorem dX12_goWeek_124 : decode cX12_goWeek 124 = .ok (.aload_n 0, 1) := by decide +kernel
theorem dX12_goWeek_125 : decode cX12_goWeek 125 = .ok (.getfield 113, 3) := by decide +kernel
theorem dX12_goWeek_128 : decode cX12_goWeek 128 = .ok (.bipush 20, 2) := by decide +kernel
theorem dX12_goWeek_130 : decode cX12_goWeek 130 = .ok (.iconst 3, 1) := by decide +kernel
theorem dX12_goWeek_131 : decode cX12_goWeek 131 = .ok (.iload_n 2, 1) := by decide +kernel
theorem dX12_goWeek_132 : decode cX12_goWeek 132 = .ok (.imul, 1) := by decide +kernel
theorem dX12_goWeek_133 : decode cX12_goWeek 133 = .ok (.iadd, 1) := by decide +kernel
theorem dX12_goWeek_134 : decode cX12_goWeek 134 = .ok (.iload_n 3, 1) := by decide +kernel
theorem dX12_goWeek_135 : decode cX12_goWeek 135 = .ok (.iadd, 1) := by decide +kernel
theorem dX12_goWeek_136 : decode cX12_goWeek 136 = .ok (.iconst 0, 1) := by decide +kernel
theorem dX12_goWeek_137 : decode cX12_goWeek 137 = .ok (.iastore, 1) := by decide +kernel
theorem dX12_goWeek_138 : decode cX12_goWeek 138 = .ok (.aload_n 0, 1) := by decide +kernel
theorem dX12_goWeek_139 : decode cX12_goWeek 139 = .ok (.iload_n 2, 1) := by decide +kernel
theorem dX12_goWeek_140 : decode cX12_goWeek 140 = .ok (.iload_n 3, 1) := by decide +kernel
theorem dX12_goWeek_141 : decode cX12_goWeek 141 = .ok (.aload_n 0, 1) := by decide +kernel
theorem dX12_goWeek_142 : decode cX12_goWeek 142 = .ok (.iload_n 2, 1) := by decide +kernel
theorem dX12_goWeek_143 : decode cX12_goWeek 143 = .ok (.iload_n 3, 1) := by decide +kernel
theorem dX12_goWeek_144 : decode cX12_goWeek 144 = .ok (.invokevirtual 433, 3) := by decide +kernel
theorem dX12_goWeek_147 : decode cX12_goWeek 147 = .ok (.invokevirtual 455, 3) := by decide +kernel
theorem dX12_goWeek_150 : decode cX12_goWeek 150 = .ok (.iinc 3 1, 3) := by decide +kernel
theorem dX12_goWeek_153 : decode cX12_goWeek 153 = .ok (.goto (-34), 3) := by decide +kernel
theorem dX12_goWeek_156 : decode cX12_goWeek 156 = .ok (.iinc 2 1, 3) := by decide +kernel
theorem dX12_goWeek_159 : decode cX12_goWeek 159 = .ok (.goto (-60), 3) := by decide +kernel
theorem dX12_goWeek_162 : decode cX12_goWeek 162 = .ok (.aload_n 0, 1) := by decide +kernel
theorem dX12_goWeek_163 : decode cX12_goWeek 163 = .ok (.getfield 113, 3) := by decide +kernel
theorem dX12_goWeek_166 : decode cX12_goWeek 166 = .ok (.bipush 40, 2) := by decide +kernel
theorem dX12_goWeek_168 : decode cX12_goWeek 168 = .ok (.dup2, 1) := by decide +kernel
theorem dX12_goWeek_169 : decode cX12_goWeek 169 = .ok (.iaload, 1) := by decide +kernel
theorem dX12_goWeek_170 : decode cX12_goWeek 170 = .ok (.iconst 1, 1) := by decide +kernel
theorem dX12_goWeek_171 : decode cX12_goWeek 171 = .ok (.iadd, 1) := by decide +kernel
theorem dX12_goWeek_172 : decode cX12_goWeek 172 = .ok (.iastore, 1) := by decide +kernel
theorem dX12_goWeek_173 : decode cX12_goWeek 173 = .ok (.iload_n 1, 1) := by decide +kernel
theorem dX12_goWeek_174 : decode cX12_goWeek 174 = .ok (.ireturn, 1) := by decide +kernel
abbrev mi_X12_goWeek : MI := (zTM, RX12, yX12_goWeek, cX12_goWeek, 4, (some .int), 7)
theorem cal_X12_goWeek : zCalV mi_X12_goWeek 0 := ⟨⟨zTB_i8 148 (by decide +kernel), zTB_i8 147 (by decide +kernel), zTB_i0 92 (by decide +kernel), zTB_i1 13 (by decide +kernel)⟩, ⟨by decide, by decide, by decide +kernel⟩, by decide⟩
noncomputable def X12_goWeek_L4 (c2 : Int32) : Nat → Int32 → Mem → Option (Mem)
  | 0, _, _ => none
  | n + 1, c3, M =>
    if 3 ≤ c3 then
      some M
    else
    gd_ (inb ((20 + (3 * c2)) + c3) (42) = true) (
    lt_ (uI M 33 (((20 + (3 * c2)) + c3).toNatClampNeg) 0) fun M26 =>
    bo_ (X12_payOf c2 c3 M26) fun v27 =>
    bo_ (X12_gets c2 c3 v27 M26) fun M28 =>
    X12_goWeek_L4 c2 n (c3 + 1) M28)
noncomputable def X12_goWeek_L3 : Nat → Int32 → Mem → Option (Mem)
  | 0, _, _ => none
  | n + 1, c2, M =>
    bo_ (X12_many M) fun v20 =>
    if v20 ≤ c2 then
      some M
    else
    gd_ (inb (35 + c2) (42) = true) (
    lt_ (uI M 33 ((35 + c2).toNatClampNeg) 0) fun M23 =>
    b1_ (α := Mem) (X12_goWeek_L4 c2 zFU 0 M23) fun M29 =>
    X12_goWeek_L3 n (c2 + 1) M29)
noncomputable def X12_goWeek_L2 : Nat → Int32 → Mem → Option (Mem)
  | 0, _, _ => none
  | n + 1, c2, M =>
    bo_ (X12_many M) fun v10 =>
    if v10 ≤ c2 then
      some M
    else
    gd_ (inb (15 + c2) (42) = true) (
    bp_ (X12_growthOf c2 M) fun v13 M14 =>
    lt_ (α := Int32) ((M.1 33 ((15 + c2).toNatClampNeg)) + v13) fun y15 =>
    l1_ (α := Int32) (
      if 0 ≤ y15 then
        (X12_lesser 99 y15)
      else
      0) fun y17 =>
    lt_ (uI M14 33 ((15 + c2).toNatClampNeg) y17) fun M18 =>
    X12_goWeek_L2 n (c2 + 1) M18)
noncomputable def X12_goWeek_L1 : Nat → Int32 → Mem → Option (Mem)
  | 0, _, _ => none
  | n + 1, c1, M =>
    bo_ (X12_many M) fun v1 =>
    if v1 ≤ c1 then
      some M
    else
    gd_ (inb (M.1 0 41) (2) = true) (
    b1_ (α := Mem) (
      if (X12_has (M.1 10 ((M.1 0 41).toNatClampNeg)) c1) = true then
        bo_ (X12_loosen c1 M) fun M5 =>
        some M5
      else
      some M) fun M6 =>
    X12_goWeek_L1 n (c1 + 1) M6)
noncomputable def X12_goWeek (M : Mem) : Option (Int32 × Mem) :=
  b1_ (α := Mem) (X12_goWeek_L1 zFU 0 M) fun M7 =>
  bp_ (X12_growths M7) fun v8 M9 =>
  b1_ (α := Mem) (X12_goWeek_L2 zFU 0 M9) fun M19 =>
  b1_ (α := Mem) (X12_goWeek_L3 zFU 0 M19) fun M30 =>
  lt_ (uI M30 33 40 ((M30.1 33 40) + 1)) fun M31 =>
  some (v8, M31)
set_option maxRecDepth 100000 in
set_option maxHeartbeats 4000000 in
theorem X12_goWeek_L4_ok (G : Gh) (c2 : Int32) (v8 : Int32) {dn : Option (Mem) → Option (Option Value × Mem)} (hs : dn none = none) (hx : ∀ (M29 : Mem), Wr G mi_X12_goWeek dn 156 [some (.ref (G.2.2.2 (0))), some (.int v8), some (.int c2), none] [] M29 (some M29)) : ∀ (n : Nat) (c3 : Int32) (M : Mem), Wr G mi_X12_goWeek dn 119 [some (.ref (G.2.2.2 (0))), some (.int v8), some (.int c2), some (.int c3)] [] M (X12_goWeek_L4 c2 n c3 M) := by
  intro n
  induction n with
  | zero => intro c3 M; exact r_none (by exact hs)
  | succ n ih =>
    intro c3 M
    rw [X12_goWeek_L4]
    refine r_iload_n dX12_goWeek_119 rfl ?_
    refine r_iconst (x := 3) dX12_goWeek_120 rfl ?_
    refine r_icmp_ge (tgt := 156) dX12_goWeek_121 rfl (fun h24 => ?_) (fun h24 => ?_)
    · exact r_lk (hx M) (And.intro rfl (And.intro rfl (And.intro rfl True.intro)))
    refine r_aload_n dX12_goWeek_124 rfl ?_
    refine r_getf (v := .ref (G.2.2.2 (33))) dX12_goWeek_125 fM_0_48 kX12 (by decide) lkf_X12_113 rfl ?_
    refine r_bipush (x := 20) dX12_goWeek_128 rfl ?_
    refine r_iconst (x := 3) dX12_goWeek_130 rfl ?_
    refine r_iload_n dX12_goWeek_131 rfl ?_
    refine r_imul dX12_goWeek_132 ?_
    refine r_iadd dX12_goWeek_133 ?_
    refine r_iload_n dX12_goWeek_134 rfl ?_
    refine r_iadd dX12_goWeek_135 ?_
    refine r_iconst (x := 0) dX12_goWeek_136 rfl ?_
    refine r_gd (by exact hs) (fun g25 => ?_)
    refine r_iast dX12_goWeek_137 aM_33 (inb_in g25) rfl (fun M26 => ?_)
    refine r_aload_n dX12_goWeek_138 rfl ?_
    refine r_iload_n dX12_goWeek_139 rfl ?_
    refine r_iload_n dX12_goWeek_140 rfl ?_
    refine r_aload_n dX12_goWeek_141 rfl ?_
    refine r_iload_n dX12_goWeek_142 rfl ?_
    refine r_iload_n dX12_goWeek_143 rfl ?_
    refine c_OI (by exact hs) (inv_V (mi := mi_X12_goWeek) (b := 0) (rest := [.int c3, .int c2, .ref (G.2.2.2 (0))]) (X12_payOf_ok G c2 c3 M26) rfl (by decide) dX12_goWeek_144 lkm_X12_433 cal_X12_payOf cM_0 rfl rfl (Nat.le_of_ble_eq_true rfl) rfl) (fun v27 => ?_)
    refine c_OV (by exact hs) (inv_V (mi := mi_X12_goWeek) (b := 0) (rest := []) (X12_gets_ok G c2 c3 v27 M26) rfl (by decide) dX12_goWeek_147 lkm_X12_455 cal_X12_gets cM_0 rfl rfl (Nat.le_of_ble_eq_true rfl) rfl) (fun M28 => ?_)
    refine r_iinc (y := c3 + 1) (lv' := [some (.ref (G.2.2.2 (0))), some (.int v8), some (.int c2), some (.int (c3 + 1))]) dX12_goWeek_150 rfl rfl (Nat.le_of_ble_eq_true rfl) rfl rfl ?_
    refine r_goto (tgt := 119) dX12_goWeek_153 rfl ?_
    exact r_lk (ih (c3 + 1) M28) (And.intro rfl (And.intro rfl (And.intro rfl (And.intro rfl True.intro))))
set_option maxRecDepth 100000 in
set_option maxHeartbeats 4000000 in
theorem X12_goWeek_L3_ok (G : Gh) (v8 : Int32) {dn : Option (Mem) → Option (Option Value × Mem)} (hs : dn none = none) (hx : ∀ (M30 : Mem), Wr G mi_X12_goWeek dn 162 [some (.ref (G.2.2.2 (0))), some (.int v8), none, none] [] M30 (some M30)) : ∀ (n : Nat) (c2 : Int32) (M : Mem), Wr G mi_X12_goWeek dn 99 [some (.ref (G.2.2.2 (0))), some (.int v8), some (.int c2), none] [] M (X12_goWeek_L3 n c2 M) := by
  intro n
  induction n with
  | zero => intro c2 M; exact r_none (by exact hs)
  | succ n ih =>
    intro c2 M
    rw [X12_goWeek_L3]
    refine r_iload_n dX12_goWeek_99 rfl ?_
    refine r_aload_n dX12_goWeek_100 rfl ?_
    refine c_OI (by exact hs) (inv_V (mi := mi_X12_goWeek) (b := 0) (rest := [.int c2]) (X12_many_ok G M) rfl (by decide) dX12_goWeek_101 lkm_X12_398 cal_X12_many cM_0 rfl rfl (Nat.le_of_ble_eq_true rfl) rfl) (fun v20 => ?_)
    refine r_icmp_ge (tgt := 162) dX12_goWeek_104 rfl (fun h21 => ?_) (fun h21 => ?_)
    · exact r_lk (hx M) (And.intro rfl (And.intro rfl True.intro))
    refine r_aload_n dX12_goWeek_107 rfl ?_
    refine r_getf (v := .ref (G.2.2.2 (33))) dX12_goWeek_108 fM_0_48 kX12 (by decide) lkf_X12_113 rfl ?_
    refine r_bipush (x := 35) dX12_goWeek_111 rfl ?_
    refine r_iload_n dX12_goWeek_113 rfl ?_
    refine r_iadd dX12_goWeek_114 ?_
    refine r_iconst (x := 0) dX12_goWeek_115 rfl ?_
    refine r_gd (by exact hs) (fun g22 => ?_)
    refine r_iast dX12_goWeek_116 aM_33 (inb_in g22) rfl (fun M23 => ?_)
    refine r_iconst (x := 0) dX12_goWeek_117 rfl ?_
    refine r_istore_n (lv' := [some (.ref (G.2.2.2 (0))), some (.int v8), some (.int c2), some (.int 0)]) dX12_goWeek_118 (Nat.le_of_ble_eq_true rfl) rfl rfl ?_
    refine r_jB1 (j := 156) (lvj := fun M29 => [some (.ref (G.2.2.2 (0))), some (.int v8), some (.int c2), none]) (stj := fun M29 => []) (Mj := fun M29 => M29) (fun M29 => ?_) (fun hj156 => ?_)
    · refine r_iinc (y := c2 + 1) (lv' := [some (.ref (G.2.2.2 (0))), some (.int v8), some (.int (c2 + 1)), none]) dX12_goWeek_156 rfl rfl (Nat.le_of_ble_eq_true rfl) rfl rfl ?_
      refine r_goto (tgt := 99) dX12_goWeek_159 rfl ?_
      exact r_lk (ih (c2 + 1) M29) (And.intro rfl (And.intro rfl (And.intro rfl True.intro)))
    exact r_lk (X12_goWeek_L4_ok G c2 v8 (by exact hs) hj156 zFU 0 M23) (And.intro rfl (And.intro rfl (And.intro rfl (And.intro rfl True.intro))))
set_option maxRecDepth 100000 in
set_option maxHeartbeats 4000000 in
theorem X12_goWeek_L2_ok (G : Gh) (v8 : Int32) {dn : Option (Mem) → Option (Option Value × Mem)} (hs : dn none = none) (hx : ∀ (M19 : Mem), Wr G mi_X12_goWeek dn 97 [some (.ref (G.2.2.2 (0))), some (.int v8), none, none] [] M19 (some M19)) : ∀ (n : Nat) (c2 : Int32) (M : Mem), Wr G mi_X12_goWeek dn 44 [some (.ref (G.2.2.2 (0))), some (.int v8), some (.int c2), none] [] M (X12_goWeek_L2 n c2 M) := by
  intro n
  induction n with
  | zero => intro c2 M; exact r_none (by exact hs)
  | succ n ih =>
    intro c2 M
    rw [X12_goWeek_L2]
    refine r_iload_n dX12_goWeek_44 rfl ?_
    refine r_aload_n dX12_goWeek_45 rfl ?_
    refine c_OI (by exact hs) (inv_V (mi := mi_X12_goWeek) (b := 0) (rest := [.int c2]) (X12_many_ok G M) rfl (by decide) dX12_goWeek_46 lkm_X12_398 cal_X12_many cM_0 rfl rfl (Nat.le_of_ble_eq_true rfl) rfl) (fun v10 => ?_)
    refine r_icmp_ge (tgt := 97) dX12_goWeek_49 rfl (fun h11 => ?_) (fun h11 => ?_)
    · exact r_lk (hx M) (And.intro rfl (And.intro rfl True.intro))
    refine r_aload_n dX12_goWeek_52 rfl ?_
    refine r_getf (v := .ref (G.2.2.2 (33))) dX12_goWeek_53 fM_0_48 kX12 (by decide) lkf_X12_113 rfl ?_
    refine r_bipush (x := 15) dX12_goWeek_56 rfl ?_
    refine r_iload_n dX12_goWeek_58 rfl ?_
    refine r_iadd dX12_goWeek_59 ?_
    refine r_gd (by exact hs) (fun g12 => ?_)
    refine r_iald dX12_goWeek_60 aM_33 (inb_in g12) rfl ?_
    refine r_aload_n dX12_goWeek_61 rfl ?_
    refine r_iload_n dX12_goWeek_62 rfl ?_
    refine c_OIM (by exact hs) (inv_V (mi := mi_X12_goWeek) (b := 0) (rest := [.int (M.1 33 ((15 + c2).toNatClampNeg))]) (X12_growthOf_ok G c2 M) rfl (by decide) dX12_goWeek_63 lkm_X12_420 cal_X12_growthOf cM_0 rfl rfl (Nat.le_of_ble_eq_true rfl) rfl) (fun v13 M14 => ?_)
    refine r_iadd dX12_goWeek_66 ?_
    refine r_letI (fun y15 => ?_)
    refine r_istore_n (lv' := [some (.ref (G.2.2.2 (0))), some (.int v8), some (.int c2), some (.int y15)]) dX12_goWeek_67 (Nat.le_of_ble_eq_true rfl) rfl rfl ?_
    refine r_aload_n dX12_goWeek_68 rfl ?_
    refine r_getf (v := .ref (G.2.2.2 (33))) dX12_goWeek_69 fM_0_48 kX12 (by decide) lkf_X12_113 rfl ?_
    refine r_bipush (x := 15) dX12_goWeek_72 rfl ?_
    refine r_iload_n dX12_goWeek_74 rfl ?_
    refine r_iadd dX12_goWeek_75 ?_
    refine r_iload_n dX12_goWeek_76 rfl ?_
    refine r_jL1 (j := 90) (lvj := fun y17 => [some (.ref (G.2.2.2 (0))), some (.int v8), some (.int c2), none]) (stj := fun y17 => [.int y17, .int (15 + c2), .ref (G.2.2.2 (33))]) (Mj := fun y17 => M14) (fun y17 => ?_) (fun hj90 => ?_)
    · refine r_iast dX12_goWeek_90 aM_33 (inb_in g12) rfl (fun M18 => ?_)
      refine r_iinc (y := c2 + 1) (lv' := [some (.ref (G.2.2.2 (0))), some (.int v8), some (.int (c2 + 1)), none]) dX12_goWeek_91 rfl rfl (Nat.le_of_ble_eq_true rfl) rfl rfl ?_
      refine r_goto (tgt := 44) dX12_goWeek_94 rfl ?_
      exact r_lk (ih (c2 + 1) M18) (And.intro rfl (And.intro rfl (And.intro rfl True.intro)))
    refine r_if_ge (tgt := 84) dX12_goWeek_77 rfl (fun h16 => ?_) (fun h16 => ?_)
    · refine r_bipush (x := 99) dX12_goWeek_84 rfl ?_
      refine r_iload_n dX12_goWeek_86 rfl ?_
      refine c_I (inv_S (mi := mi_X12_goWeek) (rest := [.int (15 + c2), .ref (G.2.2.2 (33))]) (X12_lesser_ok G 99 y15 M14) rfl (by decide) dX12_goWeek_87 lkm_X12_452 cal_X12_lesser rfl (Nat.le_of_ble_eq_true rfl) rfl) ?_
      exact r_lk (hj90 (X12_lesser 99 y15)) (And.intro rfl (And.intro rfl (And.intro rfl True.intro)))
    refine r_iconst (x := 0) dX12_goWeek_80 rfl ?_
    refine r_goto (tgt := 90) dX12_goWeek_81 rfl ?_
    exact r_lk (hj90 0) (And.intro rfl (And.intro rfl (And.intro rfl True.intro)))
set_option maxRecDepth 100000 in
set_option maxHeartbeats 4000000 in
theorem X12_goWeek_L1_ok (G : Gh) {dn : Option (Mem) → Option (Option Value × Mem)} (hs : dn none = none) (hx : ∀ (M7 : Mem), Wr G mi_X12_goWeek dn 37 [some (.ref (G.2.2.2 (0))), none, none, none] [] M7 (some M7)) : ∀ (n : Nat) (c1 : Int32) (M : Mem), Wr G mi_X12_goWeek dn 2 [some (.ref (G.2.2.2 (0))), some (.int c1), none, none] [] M (X12_goWeek_L1 n c1 M) := by
  intro n
  induction n with
  | zero => intro c1 M; exact r_none (by exact hs)
  | succ n ih =>
    intro c1 M
    rw [X12_goWeek_L1]
    refine r_iload_n dX12_goWeek_2 rfl ?_
    refine r_aload_n dX12_goWeek_3 rfl ?_
    refine c_OI (by exact hs) (inv_V (mi := mi_X12_goWeek) (b := 0) (rest := [.int c1]) (X12_many_ok G M) rfl (by decide) dX12_goWeek_4 lkm_X12_398 cal_X12_many cM_0 rfl rfl (Nat.le_of_ble_eq_true rfl) rfl) (fun v1 => ?_)
    refine r_icmp_ge (tgt := 37) dX12_goWeek_7 rfl (fun h2 => ?_) (fun h2 => ?_)
    · exact r_lk (hx M) (And.intro rfl True.intro)
    refine r_aload_n dX12_goWeek_10 rfl ?_
    refine r_getf (v := .ref (G.2.2.2 (10))) dX12_goWeek_11 fM_0_18 kX12 (by decide) lkf_X12_42 rfl ?_
    refine r_aload_n dX12_goWeek_14 rfl ?_
    refine r_getf (v := .int (M.1 0 41)) dX12_goWeek_15 fM_0_41 kX12 (by decide) lkf_X12_301 rfl ?_
    refine r_gd (by exact hs) (fun g3 => ?_)
    refine r_iald dX12_goWeek_18 aM_10 (inb_in g3) rfl ?_
    refine r_iload_n dX12_goWeek_19 rfl ?_
    refine c_Z (inv_S (mi := mi_X12_goWeek) (rest := []) (X12_has_ok G (M.1 10 ((M.1 0 41).toNatClampNeg)) c1 M) rfl (by decide) dX12_goWeek_20 lkm_X12_459 cal_X12_has rfl (Nat.le_of_ble_eq_true rfl) rfl) ?_
    refine r_jB1 (j := 31) (lvj := fun M6 => [some (.ref (G.2.2.2 (0))), some (.int c1), none, none]) (stj := fun M6 => []) (Mj := fun M6 => M6) (fun M6 => ?_) (fun hj31 => ?_)
    · refine r_iinc (y := c1 + 1) (lv' := [some (.ref (G.2.2.2 (0))), some (.int (c1 + 1)), none, none]) dX12_goWeek_31 rfl rfl (Nat.le_of_ble_eq_true rfl) rfl rfl ?_
      refine r_goto (tgt := 2) dX12_goWeek_34 rfl ?_
      exact r_lk (ih (c1 + 1) M6) (And.intro rfl (And.intro rfl True.intro))
    refine r_ifz_eq (tgt := 31) dX12_goWeek_23 rfl (fun h4 => ?_) (fun h4 => ?_)
    · refine r_aload_n dX12_goWeek_26 rfl ?_
      refine r_iload_n dX12_goWeek_27 rfl ?_
      refine c_OV (by exact hs) (inv_V (mi := mi_X12_goWeek) (b := 0) (rest := []) (X12_loosen_ok G c1 M) rfl (by decide) dX12_goWeek_28 lkm_X12_463 cal_X12_loosen cM_0 rfl rfl (Nat.le_of_ble_eq_true rfl) rfl) (fun M5 => ?_)
      exact r_lk (hj31 M5) (And.intro rfl (And.intro rfl True.intro))
    exact r_lk (hj31 M) (And.intro rfl (And.intro rfl True.intro))
set_option maxRecDepth 100000 in
set_option maxHeartbeats 4000000 in
theorem X12_goWeek_ok (G : Gh) (M : Mem) : Mt G mi_X12_goWeek [.ref (G.2.2.2 (0))] M ((dO dIM) (X12_goWeek M)) := by
  refine Mt_of (lv := [some (.ref (G.2.2.2 (0)))]) (by decide) rfl (Nat.le_of_ble_eq_true rfl) rfl ?_
  refine r_le (lv' := [some (.ref (G.2.2.2 (0))), none, none, none]) (And.intro rfl True.intro) ?_
  unfold X12_goWeek
  refine r_iconst (x := 0) dX12_goWeek_0 rfl ?_
  refine r_istore_n (lv' := [some (.ref (G.2.2.2 (0))), some (.int 0), none, none]) dX12_goWeek_1 (Nat.le_of_ble_eq_true rfl) rfl rfl ?_
  refine r_jB1 (j := 37) (lvj := fun M7 => [some (.ref (G.2.2.2 (0))), none, none, none]) (stj := fun M7 => []) (Mj := fun M7 => M7) (fun M7 => ?_) (fun hj37 => ?_)
  · refine r_aload_n dX12_goWeek_37 rfl ?_
    refine c_OIM rfl (inv_V (mi := mi_X12_goWeek) (b := 0) (rest := []) (X12_growths_ok G M7) rfl (by decide) dX12_goWeek_38 lkm_X12_466 cal_X12_growths cM_0 rfl rfl (Nat.le_of_ble_eq_true rfl) rfl) (fun v8 M9 => ?_)
    refine r_istore_n (lv' := [some (.ref (G.2.2.2 (0))), some (.int v8), none, none]) dX12_goWeek_41 (Nat.le_of_ble_eq_true rfl) rfl rfl ?_
    refine r_iconst (x := 0) dX12_goWeek_42 rfl ?_
    refine r_istore_n (lv' := [some (.ref (G.2.2.2 (0))), some (.int v8), some (.int 0), none]) dX12_goWeek_43 (Nat.le_of_ble_eq_true rfl) rfl rfl ?_
    refine r_jB1 (j := 97) (lvj := fun M19 => [some (.ref (G.2.2.2 (0))), some (.int v8), none, none]) (stj := fun M19 => []) (Mj := fun M19 => M19) (fun M19 => ?_) (fun hj97 => ?_)
    · refine r_iconst (x := 0) dX12_goWeek_97 rfl ?_
      refine r_istore_n (lv' := [some (.ref (G.2.2.2 (0))), some (.int v8), some (.int 0), none]) dX12_goWeek_98 (Nat.le_of_ble_eq_true rfl) rfl rfl ?_
      refine r_jB1 (j := 162) (lvj := fun M30 => [some (.ref (G.2.2.2 (0))), some (.int v8), none, none]) (stj := fun M30 => []) (Mj := fun M30 => M30) (fun M30 => ?_) (fun hj162 => ?_)
      · refine r_aload_n dX12_goWeek_162 rfl ?_
        refine r_getf (v := .ref (G.2.2.2 (33))) dX12_goWeek_163 fM_0_48 kX12 (by decide) lkf_X12_113 rfl ?_
        refine r_bipush (x := 40) dX12_goWeek_166 rfl ?_
        refine r_dup2 dX12_goWeek_168 rfl rfl ?_
        refine r_iald dX12_goWeek_169 aM_33 (inb_in (i := 40) (n := 42) rfl) (m := 40) rfl ?_
        refine r_iconst (x := 1) dX12_goWeek_170 rfl ?_
        refine r_iadd dX12_goWeek_171 ?_
        refine r_iast dX12_goWeek_172 aM_33 (inb_in (i := 40) (n := 42) rfl) (m := 40) rfl (fun M31 => ?_)
        refine r_iload_n dX12_goWeek_173 rfl ?_
        exact r_iret (ty := .int) dX12_goWeek_174 rfl rfl rfl
      exact r_lk (X12_goWeek_L3_ok G v8 rfl hj162 zFU 0 M19) (And.intro rfl (And.intro rfl (And.intro rfl True.intro)))
    exact r_lk (X12_goWeek_L2_ok G v8 rfl hj97 zFU 0 M9) (And.intro rfl (And.intro rfl (And.intro rfl True.intro)))
  exact r_lk (X12_goWeek_L1_ok G rfl hj37 zFU 0 M) (And.intro rfl (And.intro rfl True.intro))

theorem dX12_week_0 : decode cX12_week 0 = .ok (.aload_n 0, 1) := by decide +kernel
theorem dX12_week_1 : decode cX12_week 1 = .ok (.getfield 113, 3) := by decide +kernel
theorem dX12_week_4 : decode cX12_week 4 = .ok (.bipush 40, 2) := by decide +kernel
theorem dX12_week_6 : decode cX12_week 6 = .ok (.iaload, 1) := by decide +kernel
theorem dX12_week_7 : decode cX12_week 7 = .ok (.sipush 999, 3) := by decide +kernel
theorem dX12_week_10 : decode cX12_week 10 = .ok (.if_icmp .ne 7, 3) := by decide +kernel
theorem dX12_week_13 : decode cX12_week 13 = .ok (.ldc_w 429, 3) := by decide +kernel
theorem dX12_week_16 : decode cX12_week 16 = .ok (.ireturn, 1) := by decide +kernel
theorem dX12_week_17 : decode cX12_week 17 = .ok (.aload_n 0, 1) := by decide +kernel
theorem dX12_week_18 : decode cX12_week 18 = .ok (.invokevirtual 445, 3) := by decide +kernel
theorem dX12_week_21 : decode cX12_week 21 = .ok (.aload_n 0, 1) := by decide +kernel
theorem dX12_week_22 : decode cX12_week 22 = .ok (.invokevirtual 469, 3) := by decide +kernel
theorem dX12_week_25 : decode cX12_week 25 = .ok (.ireturn, 1) := by decide +kernel
abbrev mi_X12_week : MI := (zTM, RX12, yX12_week, cX12_week, 1, (some .int), 8)
theorem cal_X12_week : zCalV mi_X12_week 0 := ⟨⟨zTB_i8 144 (by decide +kernel), zTB_i8 142 (by decide +kernel), zTB_i8 143 (by decide +kernel), zTB_i1 13 (by decide +kernel)⟩, ⟨by decide, by decide, by decide +kernel⟩, by decide⟩
noncomputable def X12_week (M : Mem) : Option (Int32 × Mem) :=
  if (M.1 33 40) = 999 then
    some ((-1000000), M)
  else
  bo_ (X12_keepAct M) fun M2 =>
  bp_ (X12_goWeek M2) fun v3 M4 =>
  some (v3, M4)
set_option maxRecDepth 100000 in
set_option maxHeartbeats 4000000 in
theorem X12_week_ok (G : Gh) (M : Mem) : Mt G mi_X12_week [.ref (G.2.2.2 (0))] M ((dO dIM) (X12_week M)) := by
  refine Mt_of (lv := [some (.ref (G.2.2.2 (0)))]) (by decide) rfl (Nat.le_of_ble_eq_true rfl) rfl ?_
  unfold X12_week
  refine r_aload_n dX12_week_0 rfl ?_
  refine r_getf (v := .ref (G.2.2.2 (33))) dX12_week_1 fM_0_48 kX12 (by decide) lkf_X12_113 rfl ?_
  refine r_bipush (x := 40) dX12_week_4 rfl ?_
  refine r_iald dX12_week_6 aM_33 (inb_in (i := 40) (n := 42) rfl) (m := 40) rfl ?_
  refine r_sipush (x := 999) dX12_week_7 rfl ?_
  refine r_icmp_ne (tgt := 17) dX12_week_10 rfl (fun h1 => ?_) (fun h1 => ?_)
  · refine r_ldcwI (x := (-1000000)) dX12_week_13 lkc_X12_429 ?_
    exact r_iret (ty := .int) dX12_week_16 rfl rfl rfl
  refine r_aload_n dX12_week_17 rfl ?_
  refine c_OV rfl (inv_V (mi := mi_X12_week) (b := 0) (rest := []) (X12_keepAct_ok G M) rfl (by decide) dX12_week_18 lkm_X12_445 cal_X12_keepAct cM_0 rfl rfl (Nat.le_of_ble_eq_true rfl) rfl) (fun M2 => ?_)
  refine r_aload_n dX12_week_21 rfl ?_
  refine c_OIM rfl (inv_V (mi := mi_X12_week) (b := 0) (rest := []) (X12_goWeek_ok G M2) rfl (by decide) dX12_week_22 lkm_X12_469 cal_X12_goWeek cM_0 rfl rfl (Nat.le_of_ble_eq_true rfl) rfl) (fun v3 M4 => ?_)
  exact r_iret (ty := .int) dX12_week_25 rfl rfl rfl

theorem dX12_exchange_0 : decode cX12_exchange 0 = .ok (.iconst 0, 1) := by decide +kernel
theorem dX12_exchange_1 : decode cX12_exchange 1 = .ok (.istore_n 1, 1) := by decide +kernel
theorem dX12_exchange_2 : decode cX12_exchange 2 = .ok (.iload_n 1, 1) := by decide +kernel
theorem dX12_exchange_3 : decode cX12_exchange 3 = .ok (.bipush 42, 2) := by decide +kernel
theorem dX12_exchange_5 : decode cX12_exchange 5 = .ok (.if_icmp .ge 51, 3) := by decide +kernel
theorem dX12_exchange_8 : decode cX12_exchange 8 = .ok (.aload_n 0, 1) := by decide +kernel
theorem dX12_exchange_9 : decode cX12_exchange 9 = .ok (.getfield 116, 3) := by decide +kernel
theorem dX12_exchange_12 : decode cX12_exchange 12 = .ok (.bipush 42, 2) := by decide +kernel
theorem dX12_exchange_14 : decode cX12_exchange 14 = .ok (.aload_n 0, 1) := by decide +kernel
theorem dX12_exchange_15 : decode cX12_exchange 15 = .ok (.getfield 405, 3) := by decide +kernel
theorem dX12_exchange_18 : decode cX12_exchange 18 = .ok (.imul, 1) := by decide +kernel
theorem dX12_exchange_19 : decode cX12_exchange 19 = .ok (.iload_n 1, 1) := by decide +kernel
theorem dX12_exchange_20 : decode cX12_exchange 20 = .ok (.iadd, 1) := by decide +kernel
theorem dX12_exchange_21 : decode cX12_exchange 21 = .ok (.iaload, 1) := by decide +kernel
theorem dX12_exchange_22 : decode cX12_exchange 22 = .ok (.istore_n 2, 1) := by decide +kernel
theorem dX12_exchange_23 : decode cX12_exchange 23 = .ok (.aload_n 0, 1) := by decide +kernel
theorem dX12_exchange_24 : decode cX12_exchange 24 = .ok (.getfield 116, 3) := by decide +kernel
theorem dX12_exchange_27 : decode cX12_exchange 27 = .ok (.bipush 42, 2) := by decide +kernel
theorem dX12_exchange_29 : decode cX12_exchange 29 = .ok (.aload_n 0, 1) := by decide +kernel
theorem dX12_exchange_30 : decode cX12_exchange 30 = .ok (.getfield 405, 3) := by decide +kernel
theorem dX12_exchange_33 : decode cX12_exchange 33 = .ok (.imul, 1) := by decide +kernel
theorem dX12_exchange_34 : decode cX12_exchange 34 = .ok (.iload_n 1, 1) := by decide +kernel
theorem dX12_exchange_35 : decode cX12_exchange 35 = .ok (.iadd, 1) := by decide +kernel
theorem dX12_exchange_36 : decode cX12_exchange 36 = .ok (.aload_n 0, 1) := by decide +kernel
theorem dX12_exchange_37 : decode cX12_exchange 37 = .ok (.getfield 113, 3) := by decide +kernel
theorem dX12_exchange_40 : decode cX12_exchange 40 = .ok (.iload_n 1, 1) := by decide +kernel
theorem dX12_exchange_41 : decode cX12_exchange 41 = .ok (.iaload, 1) := by decide +kernel
theorem dX12_exchange_42 : decode cX12_exchange 42 = .ok (.iastore, 1) := by decide +kernel
theorem dX12_exchange_43 : decode cX12_exchange 43 = .ok (.aload_n 0, 1) := by decide +kernel
theorem dX12_exchange_44 : decode cX12_exchange 44 = .ok (.getfield 113, 3) := by decide +kernel
theorem dX12_exchange_47 : decode cX12_exchange 47 = .ok (.iload_n 1, 1) := by decide +kernel
theorem dX12_exchange_48 : decode cX12_exchange 48 = .ok (.iload_n 2, 1) := by decide +kernel
theorem dX12_exchange_49 : decode cX12_exchange 49 = .ok (.iastore, 1) := by decide +kernel
theorem dX12_exchange_50 : decode cX12_exchange 50 = .ok (.iinc 1 1, 3) := by decide +kernel
theorem dX12_exchange_53 : decode cX12_exchange 53 = .ok (.goto (-51), 3) := by decide +kernel
theorem dX12_exchange_56 : decode cX12_exchange 56 = .ok (.return_, 1) := by decide +kernel
abbrev mi_X12_exchange : MI := (zTM, RX12, yX12_exchange, cX12_exchange, 3, none, 2)
theorem cal_X12_exchange : zCalV mi_X12_exchange 0 := ⟨⟨zTB_i8 167 (by decide +kernel), zTB_i8 166 (by decide +kernel), zTB_i0 95 (by decide +kernel), zTB_i1 13 (by decide +kernel)⟩, ⟨by decide, by decide, by decide +kernel⟩, by decide⟩
noncomputable def X12_exchange_L1 : Nat → Int32 → Mem → Option (Mem)
  | 0, _, _ => none
  | n + 1, c1, M =>
    if 42 ≤ c1 then
      some M
    else
    gd_ (inb ((42 * (M.1 0 50)) + c1) (1722) = true) (
    lt_ (α := Int32) (M.1 34 (((42 * (M.1 0 50)) + c1).toNatClampNeg)) fun y3 =>
    gd_ (inb c1 (42) = true) (
    lt_ (uI M 34 (((42 * (M.1 0 50)) + c1).toNatClampNeg) (M.1 33 c1.toNatClampNeg)) fun M5 =>
    lt_ (uI M5 33 c1.toNatClampNeg y3) fun M6 =>
    X12_exchange_L1 n (c1 + 1) M6))
noncomputable def X12_exchange (M : Mem) : Option (Mem) :=
  b1_ (α := Mem) (X12_exchange_L1 zFU 0 M) fun M7 =>
  some M7
set_option maxRecDepth 100000 in
set_option maxHeartbeats 4000000 in
theorem X12_exchange_L1_ok (G : Gh) {dn : Option (Mem) → Option (Option Value × Mem)} (hs : dn none = none) (hx : ∀ (M7 : Mem), Wr G mi_X12_exchange dn 56 [none, none, none] [] M7 (some M7)) : ∀ (n : Nat) (c1 : Int32) (M : Mem), Wr G mi_X12_exchange dn 2 [some (.ref (G.2.2.2 (0))), some (.int c1), none] [] M (X12_exchange_L1 n c1 M) := by
  intro n
  induction n with
  | zero => intro c1 M; exact r_none (by exact hs)
  | succ n ih =>
    intro c1 M
    rw [X12_exchange_L1]
    refine r_iload_n dX12_exchange_2 rfl ?_
    refine r_bipush (x := 42) dX12_exchange_3 rfl ?_
    refine r_icmp_ge (tgt := 56) dX12_exchange_5 rfl (fun h1 => ?_) (fun h1 => ?_)
    · exact r_lk (hx M) True.intro
    refine r_aload_n dX12_exchange_8 rfl ?_
    refine r_getf (v := .ref (G.2.2.2 (34))) dX12_exchange_9 fM_0_49 kX12 (by decide) lkf_X12_116 rfl ?_
    refine r_bipush (x := 42) dX12_exchange_12 rfl ?_
    refine r_aload_n dX12_exchange_14 rfl ?_
    refine r_getf (v := .int (M.1 0 50)) dX12_exchange_15 fM_0_50 kX12 (by decide) lkf_X12_405 rfl ?_
    refine r_imul dX12_exchange_18 ?_
    refine r_iload_n dX12_exchange_19 rfl ?_
    refine r_iadd dX12_exchange_20 ?_
    refine r_gd (by exact hs) (fun g2 => ?_)
    refine r_iald dX12_exchange_21 aM_34 (inb_in g2) rfl ?_
    refine r_letI (fun y3 => ?_)
    refine r_istore_n (lv' := [some (.ref (G.2.2.2 (0))), some (.int c1), some (.int y3)]) dX12_exchange_22 (Nat.le_of_ble_eq_true rfl) rfl rfl ?_
    refine r_aload_n dX12_exchange_23 rfl ?_
    refine r_getf (v := .ref (G.2.2.2 (34))) dX12_exchange_24 fM_0_49 kX12 (by decide) lkf_X12_116 rfl ?_
    refine r_bipush (x := 42) dX12_exchange_27 rfl ?_
    refine r_aload_n dX12_exchange_29 rfl ?_
    refine r_getf (v := .int (M.1 0 50)) dX12_exchange_30 fM_0_50 kX12 (by decide) lkf_X12_405 rfl ?_
    refine r_imul dX12_exchange_33 ?_
    refine r_iload_n dX12_exchange_34 rfl ?_
    refine r_iadd dX12_exchange_35 ?_
    refine r_aload_n dX12_exchange_36 rfl ?_
    refine r_getf (v := .ref (G.2.2.2 (33))) dX12_exchange_37 fM_0_48 kX12 (by decide) lkf_X12_113 rfl ?_
    refine r_iload_n dX12_exchange_40 rfl ?_
    refine r_gd (by exact hs) (fun g4 => ?_)
    refine r_iald dX12_exchange_41 aM_33 (inb_in g4) rfl ?_
    refine r_iast dX12_exchange_42 aM_34 (inb_in g2) rfl (fun M5 => ?_)
    refine r_aload_n dX12_exchange_43 rfl ?_
    refine r_getf (v := .ref (G.2.2.2 (33))) dX12_exchange_44 fM_0_48 kX12 (by decide) lkf_X12_113 rfl ?_
    refine r_iload_n dX12_exchange_47 rfl ?_
    refine r_iload_n dX12_exchange_48 rfl ?_
    refine r_iast dX12_exchange_49 aM_33 (inb_in g4) rfl (fun M6 => ?_)
    refine r_iinc (y := c1 + 1) (lv' := [some (.ref (G.2.2.2 (0))), some (.int (c1 + 1)), some (.int y3)]) dX12_exchange_50 rfl rfl (Nat.le_of_ble_eq_true rfl) rfl rfl ?_
    refine r_goto (tgt := 2) dX12_exchange_53 rfl ?_
    exact r_lk (ih (c1 + 1) M6) (And.intro rfl (And.intro rfl True.intro))
set_option maxRecDepth 100000 in
set_option maxHeartbeats 4000000 in
theorem X12_exchange_ok (G : Gh) (M : Mem) : Mt G mi_X12_exchange [.ref (G.2.2.2 (0))] M ((dO dV) (X12_exchange M)) := by
  refine Mt_of (lv := [some (.ref (G.2.2.2 (0)))]) (by decide) rfl (Nat.le_of_ble_eq_true rfl) rfl ?_
  refine r_le (lv' := [some (.ref (G.2.2.2 (0))), none, none]) (And.intro rfl True.intro) ?_
  unfold X12_exchange
  refine r_iconst (x := 0) dX12_exchange_0 rfl ?_
  refine r_istore_n (lv' := [some (.ref (G.2.2.2 (0))), some (.int 0), none]) dX12_exchange_1 (Nat.le_of_ble_eq_true rfl) rfl rfl ?_
  refine r_jB1 (j := 56) (lvj := fun M7 => [none, none, none]) (stj := fun M7 => []) (Mj := fun M7 => M7) (fun M7 => ?_) (fun hj56 => ?_)
  · exact r_vret dX12_exchange_56 rfl rfl
  exact r_lk (X12_exchange_L1_ok G rfl hj56 zFU 0 M) (And.intro rfl (And.intro rfl True.intro))

theorem dX12_undo_0 : decode cX12_undo 0 = .ok (.aload_n 0, 1) := by decide +kernel
theorem dX12_undo_1 : decode cX12_undo 1 = .ok (.getfield 405, 3) := by decide +kernel
theorem dX12_undo_4 : decode cX12_undo 4 = .ok (.ifCond .ne 5, 3) := by decide +kernel
theorem dX12_undo_7 : decode cX12_undo 7 = .ok (.iconst 0, 1) := by decide +kernel
theorem dX12_undo_8 : decode cX12_undo 8 = .ok (.ireturn, 1) := by decide +kernel
theorem dX12_undo_9 : decode cX12_undo 9 = .ok (.aload_n 0, 1) := by decide +kernel
theorem dX12_undo_10 : decode cX12_undo 10 = .ok (.dup, 1) := by decide +kernel
theorem dX12_undo_11 : decode cX12_undo 11 = .ok (.getfield 405, 3) := by decide +kernel
theorem dX12_undo_14 : decode cX12_undo 14 = .ok (.iconst 1, 1) := by decide +kernel
theorem dX12_undo_15 : decode cX12_undo 15 = .ok (.isub, 1) := by decide +kernel
theorem dX12_undo_16 : decode cX12_undo 16 = .ok (.putfield 405, 3) := by decide +kernel
theorem dX12_undo_19 : decode cX12_undo 19 = .ok (.aload_n 0, 1) := by decide +kernel
theorem dX12_undo_20 : decode cX12_undo 20 = .ok (.dup, 1) := by decide +kernel
theorem dX12_undo_21 : decode cX12_undo 21 = .ok (.getfield 408, 3) := by decide +kernel
theorem dX12_undo_24 : decode cX12_undo 24 = .ok (.iconst 1, 1) := by decide +kernel
theorem dX12_undo_25 : decode cX12_undo 25 = .ok (.iadd, 1) := by decide +kernel
theorem dX12_undo_26 : decode cX12_undo 26 = .ok (.putfield 408, 3) := by decide +kernel
theorem dX12_undo_29 : decode cX12_undo 29 = .ok (.aload_n 0, 1) := by decide +kernel
theorem dX12_undo_30 : decode cX12_undo 30 = .ok (.invokevirtual 472, 3) := by decide +kernel
theorem dX12_undo_33 : decode cX12_undo 33 = .ok (.iconst 1, 1) := by decide +kernel
theorem dX12_undo_34 : decode cX12_undo 34 = .ok (.ireturn, 1) := by decide +kernel
abbrev mi_X12_undo : MI := (zTM, RX12, yX12_undo, cX12_undo, 1, (some .boolean), 3)
theorem cal_X12_undo : zCalV mi_X12_undo 0 := ⟨⟨zTB_i8 163 (by decide +kernel), zTB_i8 161 (by decide +kernel), zTB_i8 162 (by decide +kernel), zTB_i1 13 (by decide +kernel)⟩, ⟨by decide, by decide, by decide +kernel⟩, by decide⟩
noncomputable def X12_undo (M : Mem) : Option (Bool × Mem) :=
  if (M.1 0 50) = 0 then
    some (false, M)
  else
  lt_ (uI M 0 50 ((M.1 0 50) - 1)) fun M2 =>
  lt_ (uI M2 0 51 ((M2.1 0 51) + 1)) fun M3 =>
  bo_ (X12_exchange M3) fun M4 =>
  some (true, M4)
set_option maxRecDepth 100000 in
set_option maxHeartbeats 4000000 in
theorem X12_undo_ok (G : Gh) (M : Mem) : Mt G mi_X12_undo [.ref (G.2.2.2 (0))] M ((dO dZM) (X12_undo M)) := by
  refine Mt_of (lv := [some (.ref (G.2.2.2 (0)))]) (by decide) rfl (Nat.le_of_ble_eq_true rfl) rfl ?_
  unfold X12_undo
  refine r_aload_n dX12_undo_0 rfl ?_
  refine r_getf (v := .int (M.1 0 50)) dX12_undo_1 fM_0_50 kX12 (by decide) lkf_X12_405 rfl ?_
  refine r_if_ne (tgt := 9) dX12_undo_4 rfl (fun h1 => ?_) (fun h1 => ?_)
  · refine r_iconst (x := 0) dX12_undo_7 rfl ?_
    exact r_iret (ty := .boolean) dX12_undo_8 rfl rfl rfl
  refine r_aload_n dX12_undo_9 rfl ?_
  refine r_dup dX12_undo_10 rfl ?_
  refine r_getf (v := .int (M.1 0 50)) dX12_undo_11 fM_0_50 kX12 (by decide) lkf_X12_405 rfl ?_
  refine r_iconst (x := 1) dX12_undo_14 rfl ?_
  refine r_isub dX12_undo_15 ?_
  refine r_putI dX12_undo_16 fM_0_50 kX12 (by decide) rfl rfl lkf_X12_405 (fun _ => rfl) rfl rfl (fun M2 => ?_)
  refine r_aload_n dX12_undo_19 rfl ?_
  refine r_dup dX12_undo_20 rfl ?_
  refine r_getf (v := .int (M2.1 0 51)) dX12_undo_21 fM_0_51 kX12 (by decide) lkf_X12_408 rfl ?_
  refine r_iconst (x := 1) dX12_undo_24 rfl ?_
  refine r_iadd dX12_undo_25 ?_
  refine r_putI dX12_undo_26 fM_0_51 kX12 (by decide) rfl rfl lkf_X12_408 (fun _ => rfl) rfl rfl (fun M3 => ?_)
  refine r_aload_n dX12_undo_29 rfl ?_
  refine c_OV rfl (inv_V (mi := mi_X12_undo) (b := 0) (rest := []) (X12_exchange_ok G M3) rfl (by decide) dX12_undo_30 lkm_X12_472 cal_X12_exchange cM_0 rfl rfl (Nat.le_of_ble_eq_true rfl) rfl) (fun M4 => ?_)
  refine r_iconst (x := 1) dX12_undo_33 rfl ?_
  exact r_iret (ty := .boolean) dX12_undo_34 rfl rfl rfl

theorem dX12_redo_0 : decode cX12_redo 0 = .ok (.aload_n 0, 1) := by decide +kernel
theorem dX12_redo_1 : decode cX12_redo 1 = .ok (.getfield 408, 3) := by decide +kernel
theorem dX12_redo_4 : decode cX12_redo 4 = .ok (.ifCond .ne 5, 3) := by decide +kernel
theorem dX12_redo_7 : decode cX12_redo 7 = .ok (.iconst 0, 1) := by decide +kernel
theorem dX12_redo_8 : decode cX12_redo 8 = .ok (.ireturn, 1) := by decide +kernel
theorem dX12_redo_9 : decode cX12_redo 9 = .ok (.aload_n 0, 1) := by decide +kernel
theorem dX12_redo_10 : decode cX12_redo 10 = .ok (.invokevirtual 472, 3) := by decide +kernel
theorem dX12_redo_13 : decode cX12_redo 13 = .ok (.aload_n 0, 1) := by decide +kernel
theorem dX12_redo_14 : decode cX12_redo 14 = .ok (.dup, 1) := by decide +kernel
theorem dX12_redo_15 : decode cX12_redo 15 = .ok (.getfield 405, 3) := by decide +kernel
theorem dX12_redo_18 : decode cX12_redo 18 = .ok (.iconst 1, 1) := by decide +kernel
theorem dX12_redo_19 : decode cX12_redo 19 = .ok (.iadd, 1) := by decide +kernel
theorem dX12_redo_20 : decode cX12_redo 20 = .ok (.putfield 405, 3) := by decide +kernel
theorem dX12_redo_23 : decode cX12_redo 23 = .ok (.aload_n 0, 1) := by decide +kernel
theorem dX12_redo_24 : decode cX12_redo 24 = .ok (.dup, 1) := by decide +kernel
theorem dX12_redo_25 : decode cX12_redo 25 = .ok (.getfield 408, 3) := by decide +kernel
theorem dX12_redo_28 : decode cX12_redo 28 = .ok (.iconst 1, 1) := by decide +kernel
theorem dX12_redo_29 : decode cX12_redo 29 = .ok (.isub, 1) := by decide +kernel
theorem dX12_redo_30 : decode cX12_redo 30 = .ok (.putfield 408, 3) := by decide +kernel
theorem dX12_redo_33 : decode cX12_redo 33 = .ok (.iconst 1, 1) := by decide +kernel
theorem dX12_redo_34 : decode cX12_redo 34 = .ok (.ireturn, 1) := by decide +kernel
abbrev mi_X12_redo : MI := (zTM, RX12, yX12_redo, cX12_redo, 1, (some .boolean), 3)
theorem cal_X12_redo : zCalV mi_X12_redo 0 := ⟨⟨zTB_i8 171 (by decide +kernel), zTB_i8 169 (by decide +kernel), zTB_i8 170 (by decide +kernel), zTB_i1 13 (by decide +kernel)⟩, ⟨by decide, by decide, by decide +kernel⟩, by decide⟩
noncomputable def X12_redo (M : Mem) : Option (Bool × Mem) :=
  if (M.1 0 51) = 0 then
    some (false, M)
  else
  bo_ (X12_exchange M) fun M2 =>
  lt_ (uI M2 0 50 ((M2.1 0 50) + 1)) fun M3 =>
  lt_ (uI M3 0 51 ((M3.1 0 51) - 1)) fun M4 =>
  some (true, M4)
set_option maxRecDepth 100000 in
set_option maxHeartbeats 4000000 in
theorem X12_redo_ok (G : Gh) (M : Mem) : Mt G mi_X12_redo [.ref (G.2.2.2 (0))] M ((dO dZM) (X12_redo M)) := by
  refine Mt_of (lv := [some (.ref (G.2.2.2 (0)))]) (by decide) rfl (Nat.le_of_ble_eq_true rfl) rfl ?_
  unfold X12_redo
  refine r_aload_n dX12_redo_0 rfl ?_
  refine r_getf (v := .int (M.1 0 51)) dX12_redo_1 fM_0_51 kX12 (by decide) lkf_X12_408 rfl ?_
  refine r_if_ne (tgt := 9) dX12_redo_4 rfl (fun h1 => ?_) (fun h1 => ?_)
  · refine r_iconst (x := 0) dX12_redo_7 rfl ?_
    exact r_iret (ty := .boolean) dX12_redo_8 rfl rfl rfl
  refine r_aload_n dX12_redo_9 rfl ?_
  refine c_OV rfl (inv_V (mi := mi_X12_redo) (b := 0) (rest := []) (X12_exchange_ok G M) rfl (by decide) dX12_redo_10 lkm_X12_472 cal_X12_exchange cM_0 rfl rfl (Nat.le_of_ble_eq_true rfl) rfl) (fun M2 => ?_)
  refine r_aload_n dX12_redo_13 rfl ?_
  refine r_dup dX12_redo_14 rfl ?_
  refine r_getf (v := .int (M2.1 0 50)) dX12_redo_15 fM_0_50 kX12 (by decide) lkf_X12_405 rfl ?_
  refine r_iconst (x := 1) dX12_redo_18 rfl ?_
  refine r_iadd dX12_redo_19 ?_
  refine r_putI dX12_redo_20 fM_0_50 kX12 (by decide) rfl rfl lkf_X12_405 (fun _ => rfl) rfl rfl (fun M3 => ?_)
  refine r_aload_n dX12_redo_23 rfl ?_
  refine r_dup dX12_redo_24 rfl ?_
  refine r_getf (v := .int (M3.1 0 51)) dX12_redo_25 fM_0_51 kX12 (by decide) lkf_X12_408 rfl ?_
  refine r_iconst (x := 1) dX12_redo_28 rfl ?_
  refine r_isub dX12_redo_29 ?_
  refine r_putI dX12_redo_30 fM_0_51 kX12 (by decide) rfl rfl lkf_X12_408 (fun _ => rfl) rfl rfl (fun M4 => ?_)
  refine r_iconst (x := 1) dX12_redo_33 rfl ?_
  exact r_iret (ty := .boolean) dX12_redo_34 rfl rfl rfl

theorem dX12_layMost_0 : decode cX12_layMost 0 = .ok (.iconst 0, 1) := by decide +kernel
theorem dX12_layMost_1 : decode cX12_layMost 1 = .ok (.istore_n 2, 1) := by decide +kernel
theorem dX12_layMost_2 : decode cX12_layMost 2 = .ok (.iload_n 2, 1) := by decide +kernel
theorem dX12_layMost_3 : decode cX12_layMost 3 = .ok (.iconst 3, 1) := by decide +kernel
theorem dX12_layMost_4 : decode cX12_layMost 4 = .ok (.if_icmp .ge 38, 3) := by decide +kernel
theorem dX12_layMost_7 : decode cX12_layMost 7 = .ok (.aload_n 0, 1) := by decide +kernel
theorem dX12_layMost_8 : decode cX12_layMost 8 = .ok (.getfield 128, 3) := by decide +kernel
theorem dX12_layMost_11 : decode cX12_layMost 11 = .ok (.iload_n 2, 1) := by decide +kernel
theorem dX12_layMost_12 : decode cX12_layMost 12 = .ok (.iload_n 2, 1) := by decide +kernel
theorem dX12_layMost_13 : decode cX12_layMost 13 = .ok (.aload_n 0, 1) := by decide +kernel
theorem dX12_layMost_14 : decode cX12_layMost 14 = .ok (.getfield 20, 3) := by decide +kernel
theorem dX12_layMost_17 : decode cX12_layMost 17 = .ok (.aload_n 0, 1) := by decide +kernel
theorem dX12_layMost_18 : decode cX12_layMost 18 = .ok (.getfield 301, 3) := by decide +kernel
theorem dX12_layMost_21 : decode cX12_layMost 21 = .ok (.iaload, 1) := by decide +kernel
theorem dX12_layMost_22 : decode cX12_layMost 22 = .ok (.if_icmp .ge 12, 3) := by decide +kernel
theorem dX12_layMost_25 : decode cX12_layMost 25 = .ok (.aload_n 0, 1) := by decide +kernel
theorem dX12_layMost_26 : decode cX12_layMost 26 = .ok (.iload_n 1, 1) := by decide +kernel
theorem dX12_layMost_27 : decode cX12_layMost 27 = .ok (.iload_n 2, 1) := by decide +kernel
theorem dX12_layMost_28 : decode cX12_layMost 28 = .ok (.invokevirtual 439, 3) := by decide +kernel
theorem dX12_layMost_31 : decode cX12_layMost 31 = .ok (.goto 4, 3) := by decide +kernel
theorem dX12_layMost_34 : decode cX12_layMost 34 = .ok (.iconst 0, 1) := by decide +kernel
theorem dX12_layMost_35 : decode cX12_layMost 35 = .ok (.iastore, 1) := by decide +kernel
theorem dX12_layMost_36 : decode cX12_layMost 36 = .ok (.iinc 2 1, 3) := by decide +kernel
theorem dX12_layMost_39 : decode cX12_layMost 39 = .ok (.goto (-37), 3) := by decide +kernel
theorem dX12_layMost_42 : decode cX12_layMost 42 = .ok (.return_, 1) := by decide +kernel
abbrev mi_X12_layMost : MI := (zTM, RX12, yX12_layMost, cX12_layMost, 3, none, 3)
theorem cal_X12_layMost : zCalV mi_X12_layMost 1 := ⟨⟨zTB_i8 187 (by decide +kernel), zTB_i8 186 (by decide +kernel), zTB_i0 97 (by decide +kernel), zTB_i1 13 (by decide +kernel)⟩, ⟨by decide, by decide, by decide +kernel⟩, by decide⟩
noncomputable def X12_layMost_L1 (x1 : Int32) : Nat → Int32 → Mem → Option (Mem)
  | 0, _, _ => none
  | n + 1, c2, M =>
    if 3 ≤ c2 then
      some M
    else
    gd_ (inb (M.1 0 41) (2) = true) (
    b1_ (α := Int32) (
      if (M.1 3 ((M.1 0 41).toNatClampNeg)) ≤ c2 then
        some 0
      else
      bo_ (X12_inPurse x1 c2 M) fun v4 =>
      some v4) fun y5 =>
    gd_ (inb c2 (3) = true) (
    lt_ (uI M 38 c2.toNatClampNeg y5) fun M7 =>
    X12_layMost_L1 x1 n (c2 + 1) M7))
noncomputable def X12_layMost (x1 : Int32) (M : Mem) : Option (Mem) :=
  b1_ (α := Mem) (X12_layMost_L1 x1 zFU 0 M) fun M8 =>
  some M8
set_option maxRecDepth 100000 in
set_option maxHeartbeats 4000000 in
theorem X12_layMost_L1_ok (G : Gh) (x1 : Int32) {dn : Option (Mem) → Option (Option Value × Mem)} (hs : dn none = none) (hx : ∀ (M8 : Mem), Wr G mi_X12_layMost dn 42 [none, none, none] [] M8 (some M8)) : ∀ (n : Nat) (c2 : Int32) (M : Mem), Wr G mi_X12_layMost dn 2 [some (.ref (G.2.2.2 (0))), some (.int x1), some (.int c2)] [] M (X12_layMost_L1 x1 n c2 M) := by
  intro n
  induction n with
  | zero => intro c2 M; exact r_none (by exact hs)
  | succ n ih =>
    intro c2 M
    rw [X12_layMost_L1]
    refine r_iload_n dX12_layMost_2 rfl ?_
    refine r_iconst (x := 3) dX12_layMost_3 rfl ?_
    refine r_icmp_ge (tgt := 42) dX12_layMost_4 rfl (fun h1 => ?_) (fun h1 => ?_)
    · exact r_lk (hx M) True.intro
    refine r_aload_n dX12_layMost_7 rfl ?_
    refine r_getf (v := .ref (G.2.2.2 (38))) dX12_layMost_8 fM_0_58 kX12 (by decide) lkf_X12_128 rfl ?_
    refine r_iload_n dX12_layMost_11 rfl ?_
    refine r_iload_n dX12_layMost_12 rfl ?_
    refine r_aload_n dX12_layMost_13 rfl ?_
    refine r_getf (v := .ref (G.2.2.2 (3))) dX12_layMost_14 fM_0_11 kX12 (by decide) lkf_X12_20 rfl ?_
    refine r_aload_n dX12_layMost_17 rfl ?_
    refine r_getf (v := .int (M.1 0 41)) dX12_layMost_18 fM_0_41 kX12 (by decide) lkf_X12_301 rfl ?_
    refine r_gd (by exact hs) (fun g2 => ?_)
    refine r_iald dX12_layMost_21 aM_3 (inb_in g2) rfl ?_
    refine r_jB1 (j := 35) (lvj := fun y5 => [some (.ref (G.2.2.2 (0))), some (.int x1), some (.int c2)]) (stj := fun y5 => [.int y5, .int c2, .ref (G.2.2.2 (38))]) (Mj := fun y5 => M) (fun y5 => ?_) (fun hj35 => ?_)
    · refine r_gd (by exact hs) (fun g6 => ?_)
      refine r_iast dX12_layMost_35 aM_38 (inb_in g6) rfl (fun M7 => ?_)
      refine r_iinc (y := c2 + 1) (lv' := [some (.ref (G.2.2.2 (0))), some (.int x1), some (.int (c2 + 1))]) dX12_layMost_36 rfl rfl (Nat.le_of_ble_eq_true rfl) rfl rfl ?_
      refine r_goto (tgt := 2) dX12_layMost_39 rfl ?_
      exact r_lk (ih (c2 + 1) M7) (And.intro rfl (And.intro rfl (And.intro rfl True.intro)))
    refine r_icmp_ge (tgt := 34) dX12_layMost_22 rfl (fun h3 => ?_) (fun h3 => ?_)
    · refine r_iconst (x := 0) dX12_layMost_34 rfl ?_
      exact r_lk (hj35 0) (And.intro rfl (And.intro rfl (And.intro rfl True.intro)))
    refine r_aload_n dX12_layMost_25 rfl ?_
    refine r_iload_n dX12_layMost_26 rfl ?_
    refine r_iload_n dX12_layMost_27 rfl ?_
    refine c_OI (by exact hs) (inv_V (mi := mi_X12_layMost) (b := 0) (rest := [.int c2, .ref (G.2.2.2 (38))]) (X12_inPurse_ok G x1 c2 M) rfl (by decide) dX12_layMost_28 lkm_X12_439 cal_X12_inPurse cM_0 rfl rfl (Nat.le_of_ble_eq_true rfl) rfl) (fun v4 => ?_)
    refine r_goto (tgt := 35) dX12_layMost_31 rfl ?_
    exact r_lk (hj35 v4) (And.intro rfl (And.intro rfl (And.intro rfl True.intro)))
set_option maxRecDepth 100000 in
set_option maxHeartbeats 4000000 in
theorem X12_layMost_ok (G : Gh) (x1 : Int32) (M : Mem) : Mt G mi_X12_layMost [.ref (G.2.2.2 (0)), .int x1] M ((dO dV) (X12_layMost x1 M)) := by
  refine Mt_of (lv := [some (.ref (G.2.2.2 (0))), some (.int x1)]) (by decide) rfl (Nat.le_of_ble_eq_true rfl) rfl ?_
  refine r_le (lv' := [some (.ref (G.2.2.2 (0))), some (.int x1), none]) (And.intro rfl (And.intro rfl True.intro)) ?_
  unfold X12_layMost
  refine r_iconst (x := 0) dX12_layMost_0 rfl ?_
  refine r_istore_n (lv' := [some (.ref (G.2.2.2 (0))), some (.int x1), some (.int 0)]) dX12_layMost_1 (Nat.le_of_ble_eq_true rfl) rfl rfl ?_
  refine r_jB1 (j := 42) (lvj := fun M8 => [none, none, none]) (stj := fun M8 => []) (Mj := fun M8 => M8) (fun M8 => ?_) (fun hj42 => ?_)
  · exact r_vret dX12_layMost_42 rfl rfl
  exact r_lk (X12_layMost_L1_ok G x1 rfl hj42 zFU 0 M) (And.intro rfl (And.intro rfl (And.intro rfl True.intro)))

theorem dX12_noRow_0 : decode cX12_noRow 0 = .ok (.iconst 0, 1) := by decide +kernel
theorem dX12_noRow_1 : decode cX12_noRow 1 = .ok (.istore_n 1, 1) := by decide +kernel
theorem dX12_noRow_2 : decode cX12_noRow 2 = .ok (.iload_n 1, 1) := by decide +kernel
theorem dX12_noRow_3 : decode cX12_noRow 3 = .ok (.iconst 3, 1) := by decide +kernel
theorem dX12_noRow_4 : decode cX12_noRow 4 = .ok (.if_icmp .ge 16, 3) := by decide +kernel
theorem dX12_noRow_7 : decode cX12_noRow 7 = .ok (.aload_n 0, 1) := by decide +kernel
theorem dX12_noRow_8 : decode cX12_noRow 8 = .ok (.getfield 119, 3) := by decide +kernel
theorem dX12_noRow_11 : decode cX12_noRow 11 = .ok (.iload_n 1, 1) := by decide +kernel
theorem dX12_noRow_12 : decode cX12_noRow 12 = .ok (.iconst 0, 1) := by decide +kernel
theorem dX12_noRow_13 : decode cX12_noRow 13 = .ok (.iastore, 1) := by decide +kernel
theorem dX12_noRow_14 : decode cX12_noRow 14 = .ok (.iinc 1 1, 3) := by decide +kernel
theorem dX12_noRow_17 : decode cX12_noRow 17 = .ok (.goto (-15), 3) := by decide +kernel
theorem dX12_noRow_20 : decode cX12_noRow 20 = .ok (.return_, 1) := by decide +kernel
abbrev mi_X12_noRow : MI := (zTM, RX12, yX12_noRow, cX12_noRow, 2, none, 2)
theorem cal_X12_noRow : zCalV mi_X12_noRow 0 := ⟨⟨zTB_i8 191 (by decide +kernel), zTB_i8 190 (by decide +kernel), zTB_i0 98 (by decide +kernel), zTB_i1 13 (by decide +kernel)⟩, ⟨by decide, by decide, by decide +kernel⟩, by decide⟩
noncomputable def X12_noRow_L1 : Nat → Int32 → Mem → Option (Mem)
  | 0, _, _ => none
  | n + 1, c1, M =>
    if 3 ≤ c1 then
      some M
    else
    gd_ (inb c1 (3) = true) (
    lt_ (uI M 35 c1.toNatClampNeg 0) fun M3 =>
    X12_noRow_L1 n (c1 + 1) M3)
noncomputable def X12_noRow (M : Mem) : Option (Mem) :=
  b1_ (α := Mem) (X12_noRow_L1 zFU 0 M) fun M4 =>
  some M4
set_option maxRecDepth 100000 in
set_option maxHeartbeats 4000000 in
theorem X12_noRow_L1_ok (G : Gh) {dn : Option (Mem) → Option (Option Value × Mem)} (hs : dn none = none) (hx : ∀ (M4 : Mem), Wr G mi_X12_noRow dn 20 [none, none] [] M4 (some M4)) : ∀ (n : Nat) (c1 : Int32) (M : Mem), Wr G mi_X12_noRow dn 2 [some (.ref (G.2.2.2 (0))), some (.int c1)] [] M (X12_noRow_L1 n c1 M) := by
  intro n
  induction n with
  | zero => intro c1 M; exact r_none (by exact hs)
  | succ n ih =>
    intro c1 M
    rw [X12_noRow_L1]
    refine r_iload_n dX12_noRow_2 rfl ?_
    refine r_iconst (x := 3) dX12_noRow_3 rfl ?_
    refine r_icmp_ge (tgt := 20) dX12_noRow_4 rfl (fun h1 => ?_) (fun h1 => ?_)
    · exact r_lk (hx M) True.intro
    refine r_aload_n dX12_noRow_7 rfl ?_
    refine r_getf (v := .ref (G.2.2.2 (35))) dX12_noRow_8 fM_0_52 kX12 (by decide) lkf_X12_119 rfl ?_
    refine r_iload_n dX12_noRow_11 rfl ?_
    refine r_iconst (x := 0) dX12_noRow_12 rfl ?_
    refine r_gd (by exact hs) (fun g2 => ?_)
    refine r_iast dX12_noRow_13 aM_35 (inb_in g2) rfl (fun M3 => ?_)
    refine r_iinc (y := c1 + 1) (lv' := [some (.ref (G.2.2.2 (0))), some (.int (c1 + 1))]) dX12_noRow_14 rfl rfl (Nat.le_of_ble_eq_true rfl) rfl rfl ?_
    refine r_goto (tgt := 2) dX12_noRow_17 rfl ?_
    exact r_lk (ih (c1 + 1) M3) (And.intro rfl (And.intro rfl True.intro))
set_option maxRecDepth 100000 in
set_option maxHeartbeats 4000000 in
theorem X12_noRow_ok (G : Gh) (M : Mem) : Mt G mi_X12_noRow [.ref (G.2.2.2 (0))] M ((dO dV) (X12_noRow M)) := by
  refine Mt_of (lv := [some (.ref (G.2.2.2 (0)))]) (by decide) rfl (Nat.le_of_ble_eq_true rfl) rfl ?_
  refine r_le (lv' := [some (.ref (G.2.2.2 (0))), none]) (And.intro rfl True.intro) ?_
  unfold X12_noRow
  refine r_iconst (x := 0) dX12_noRow_0 rfl ?_
  refine r_istore_n (lv' := [some (.ref (G.2.2.2 (0))), some (.int 0)]) dX12_noRow_1 (Nat.le_of_ble_eq_true rfl) rfl rfl ?_
  refine r_jB1 (j := 20) (lvj := fun M4 => [none, none]) (stj := fun M4 => []) (Mj := fun M4 => M4) (fun M4 => ?_) (fun hj20 => ?_)
  · exact r_vret dX12_noRow_20 rfl rfl
  exact r_lk (X12_noRow_L1_ok G rfl hj20 zFU 0 M) (And.intro rfl (And.intro rfl True.intro))

theorem dX12_layRow_0 : decode cX12_layRow 0 = .ok (.iconst 0, 1) := by decide +kernel
theorem dX12_layRow_1 : decode cX12_layRow 1 = .ok (.istore_n 3, 1) := by decide +kernel
theorem dX12_layRow_2 : decode cX12_layRow 2 = .ok (.iload_n 3, 1) := by decide +kernel
theorem dX12_layRow_3 : decode cX12_layRow 3 = .ok (.iconst 3, 1) := by decide +kernel
theorem dX12_layRow_4 : decode cX12_layRow 4 = .ok (.if_icmp .ge 22, 3) := by decide +kernel
theorem dX12_layRow_7 : decode cX12_layRow 7 = .ok (.aload_n 0, 1) := by decide +kernel
theorem dX12_layRow_8 : decode cX12_layRow 8 = .ok (.iload_n 1, 1) := by decide +kernel
theorem dX12_layRow_9 : decode cX12_layRow 9 = .ok (.iload_n 3, 1) := by decide +kernel
theorem dX12_layRow_10 : decode cX12_layRow 10 = .ok (.aload_n 0, 1) := by decide +kernel
theorem dX12_layRow_11 : decode cX12_layRow 11 = .ok (.getfield 119, 3) := by decide +kernel
theorem dX12_layRow_14 : decode cX12_layRow 14 = .ok (.iload_n 3, 1) := by decide +kernel
theorem dX12_layRow_15 : decode cX12_layRow 15 = .ok (.iaload, 1) := by decide +kernel
theorem dX12_layRow_16 : decode cX12_layRow 16 = .ok (.iload_n 2, 1) := by decide +kernel
theorem dX12_layRow_17 : decode cX12_layRow 17 = .ok (.invokevirtual 448, 3) := by decide +kernel
theorem dX12_layRow_20 : decode cX12_layRow 20 = .ok (.iinc 3 1, 3) := by decide +kernel
theorem dX12_layRow_23 : decode cX12_layRow 23 = .ok (.goto (-21), 3) := by decide +kernel
theorem dX12_layRow_26 : decode cX12_layRow 26 = .ok (.return_, 1) := by decide +kernel
abbrev mi_X12_layRow : MI := (zTM, RX12, yX12_layRow, cX12_layRow, 4, none, 4)
theorem cal_X12_layRow : zCalV mi_X12_layRow 2 := ⟨⟨zTB_i8 195 (by decide +kernel), zTB_i8 194 (by decide +kernel), zTB_i0 99 (by decide +kernel), zTB_i1 13 (by decide +kernel)⟩, ⟨by decide, by decide, by decide +kernel⟩, by decide⟩
noncomputable def X12_layRow_L1 (x1 : Int32) (x2 : Int32) : Nat → Int32 → Mem → Option (Mem)
  | 0, _, _ => none
  | n + 1, c3, M =>
    if 3 ≤ c3 then
      some M
    else
    gd_ (inb c3 (3) = true) (
    bo_ (X12_lay x1 c3 (M.1 35 c3.toNatClampNeg) x2 M) fun M3 =>
    X12_layRow_L1 x1 x2 n (c3 + 1) M3)
noncomputable def X12_layRow (x1 : Int32) (x2 : Int32) (M : Mem) : Option (Mem) :=
  b1_ (α := Mem) (X12_layRow_L1 x1 x2 zFU 0 M) fun M4 =>
  some M4
set_option maxRecDepth 100000 in
set_option maxHeartbeats 4000000 in
theorem X12_layRow_L1_ok (G : Gh) (x1 : Int32) (x2 : Int32) {dn : Option (Mem) → Option (Option Value × Mem)} (hs : dn none = none) (hx : ∀ (M4 : Mem), Wr G mi_X12_layRow dn 26 [none, none, none, none] [] M4 (some M4)) : ∀ (n : Nat) (c3 : Int32) (M : Mem), Wr G mi_X12_layRow dn 2 [some (.ref (G.2.2.2 (0))), some (.int x1), some (.int x2), some (.int c3)] [] M (X12_layRow_L1 x1 x2 n c3 M) := by
  intro n
  induction n with
  | zero => intro c3 M; exact r_none (by exact hs)
  | succ n ih =>
    intro c3 M
    rw [X12_layRow_L1]
    refine r_iload_n dX12_layRow_2 rfl ?_
    refine r_iconst (x := 3) dX12_layRow_3 rfl ?_
    refine r_icmp_ge (tgt := 26) dX12_layRow_4 rfl (fun h1 => ?_) (fun h1 => ?_)
    · exact r_lk (hx M) True.intro
    refine r_aload_n dX12_layRow_7 rfl ?_
    refine r_iload_n dX12_layRow_8 rfl ?_
    refine r_iload_n dX12_layRow_9 rfl ?_
    refine r_aload_n dX12_layRow_10 rfl ?_
    refine r_getf (v := .ref (G.2.2.2 (35))) dX12_layRow_11 fM_0_52 kX12 (by decide) lkf_X12_119 rfl ?_
    refine r_iload_n dX12_layRow_14 rfl ?_
    refine r_gd (by exact hs) (fun g2 => ?_)
    refine r_iald dX12_layRow_15 aM_35 (inb_in g2) rfl ?_
    refine r_iload_n dX12_layRow_16 rfl ?_
    refine c_OV (by exact hs) (inv_V (mi := mi_X12_layRow) (b := 0) (rest := []) (X12_lay_ok G x1 c3 (M.1 35 c3.toNatClampNeg) x2 M) rfl (by decide) dX12_layRow_17 lkm_X12_448 cal_X12_lay cM_0 rfl rfl (Nat.le_of_ble_eq_true rfl) rfl) (fun M3 => ?_)
    refine r_iinc (y := c3 + 1) (lv' := [some (.ref (G.2.2.2 (0))), some (.int x1), some (.int x2), some (.int (c3 + 1))]) dX12_layRow_20 rfl rfl (Nat.le_of_ble_eq_true rfl) rfl rfl ?_
    refine r_goto (tgt := 2) dX12_layRow_23 rfl ?_
    exact r_lk (ih (c3 + 1) M3) (And.intro rfl (And.intro rfl (And.intro rfl (And.intro rfl True.intro))))
set_option maxRecDepth 100000 in
set_option maxHeartbeats 4000000 in
theorem X12_layRow_ok (G : Gh) (x1 : Int32) (x2 : Int32) (M : Mem) : Mt G mi_X12_layRow [.ref (G.2.2.2 (0)), .int x1, .int x2] M ((dO dV) (X12_layRow x1 x2 M)) := by
  refine Mt_of (lv := [some (.ref (G.2.2.2 (0))), some (.int x1), some (.int x2)]) (by decide) rfl (Nat.le_of_ble_eq_true rfl) rfl ?_
  refine r_le (lv' := [some (.ref (G.2.2.2 (0))), some (.int x1), some (.int x2), none]) (And.intro rfl (And.intro rfl (And.intro rfl True.intro))) ?_
  unfold X12_layRow
  refine r_iconst (x := 0) dX12_layRow_0 rfl ?_
  refine r_istore_n (lv' := [some (.ref (G.2.2.2 (0))), some (.int x1), some (.int x2), some (.int 0)]) dX12_layRow_1 (Nat.le_of_ble_eq_true rfl) rfl rfl ?_
  refine r_jB1 (j := 26) (lvj := fun M4 => [none, none, none, none]) (stj := fun M4 => []) (Mj := fun M4 => M4) (fun M4 => ?_) (fun hj26 => ?_)
  · exact r_vret dX12_layRow_26 rfl rfl
  exact r_lk (X12_layRow_L1_ok G x1 x2 rfl hj26 zFU 0 M) (And.intro rfl (And.intro rfl (And.intro rfl (And.intro rfl True.intro))))

theorem dX12_nextRow_0 : decode cX12_nextRow 0 = .ok (.iconst 2, 1) := by decide +kernel
theorem dX12_nextRow_1 : decode cX12_nextRow 1 = .ok (.istore_n 3, 1) := by decide +kernel
theorem dX12_nextRow_2 : decode cX12_nextRow 2 = .ok (.iload_n 3, 1) := by decide +kernel
theorem dX12_nextRow_3 : decode cX12_nextRow 3 = .ok (.ifCond .lt 64, 3) := by decide +kernel
theorem dX12_nextRow_6 : decode cX12_nextRow 6 = .ok (.aload_n 0, 1) := by decide +kernel
theorem dX12_nextRow_7 : decode cX12_nextRow 7 = .ok (.getfield 119, 3) := by decide +kernel
theorem dX12_nextRow_10 : decode cX12_nextRow 10 = .ok (.iload_n 3, 1) := by decide +kernel
theorem dX12_nextRow_11 : decode cX12_nextRow 11 = .ok (.dup2, 1) := by decide +kernel
theorem dX12_nextRow_12 : decode cX12_nextRow 12 = .ok (.iaload, 1) := by decide +kernel
theorem dX12_nextRow_13 : decode cX12_nextRow 13 = .ok (.iconst 1, 1) := by decide +kernel
theorem dX12_nextRow_14 : decode cX12_nextRow 14 = .ok (.iadd, 1) := by decide +kernel
theorem dX12_nextRow_15 : decode cX12_nextRow 15 = .ok (.iastore, 1) := by decide +kernel
theorem dX12_nextRow_16 : decode cX12_nextRow 16 = .ok (.aload_n 0, 1) := by decide +kernel
theorem dX12_nextRow_17 : decode cX12_nextRow 17 = .ok (.getfield 119, 3) := by decide +kernel
theorem dX12_nextRow_20 : decode cX12_nextRow 20 = .ok (.iload_n 3, 1) := by decide +kernel
theorem dX12_nextRow_21 : decode cX12_nextRow 21 = .ok (.iaload, 1) := by decide +kernel
theorem dX12_nextRow_22 : decode cX12_nextRow 22 = .ok (.aload_n 1, 1) := by decide +kernel
theorem dX12_nextRow_23 : decode cX12_nextRow 23 = .ok (.iload_n 3, 1) := by decide +kernel
theorem dX12_nextRow_24 : decode cX12_nextRow 24 = .ok (.iaload, 1) := by decide +kernel
theorem dX12_nextRow_25 : decode cX12_nextRow 25 = .ok (.if_icmp .gt 29, 3) := by decide +kernel
theorem dX12_nextRow_28 : decode cX12_nextRow 28 = .ok (.aload_n 0, 1) := by decide +kernel
theorem dX12_nextRow_29 : decode cX12_nextRow 29 = .ok (.getfield 119, 3) := by decide +kernel
theorem dX12_nextRow_32 : decode cX12_nextRow 32 = .ok (.iconst 0, 1) := by decide +kernel
theorem dX12_nextRow_33 : decode cX12_nextRow 33 = .ok (.iaload, 1) := by decide +kernel
theorem dX12_nextRow_34 : decode cX12_nextRow 34 = .ok (.aload_n 0, 1) := by decide +kernel
theorem dX12_nextRow_35 : decode cX12_nextRow 35 = .ok (.getfield 119, 3) := by decide +kernel
theorem dX12_nextRow_38 : decode cX12_nextRow 38 = .ok (.iconst 1, 1) := by decide +kernel
theorem dX12_nextRow_39 : decode cX12_nextRow 39 = .ok (.iaload, 1) := by decide +kernel
theorem dX12_nextRow_40 : decode cX12_nextRow 40 = .ok (.iadd, 1) := by decide +kernel
theorem dX12_nextRow_41 : decode cX12_nextRow 41 = .ok (.aload_n 0, 1) := by decide +kernel
theorem dX12_nextRow_42 : decode cX12_nextRow 42 = .ok (.getfield 119, 3) := by decide +kernel
theorem dX12_nextRow_45 : decode cX12_nextRow 45 = .ok (.iconst 2, 1) := by decide +kernel
theorem dX12_nextRow_46 : decode cX12_nextRow 46 = .ok (.iaload, 1) := by decide +kernel
theorem dX12_nextRow_47 : decode cX12_nextRow 47 = .ok (.iadd, 1) := by decide +kernel
theorem dX12_nextRow_48 : decode cX12_nextRow 48 = .ok (.iload_n 2, 1) := by decide +kernel
theorem dX12_nextRow_49 : decode cX12_nextRow 49 = .ok (.if_icmp .gt 5, 3) := by decide +kernel
theorem dX12_nextRow_52 : decode cX12_nextRow 52 = .ok (.iconst 1, 1) := by decide +kernel
theorem dX12_nextRow_53 : decode cX12_nextRow 53 = .ok (.ireturn, 1) := by decide +kernel
theorem dX12_nextRow_54 : decode cX12_nextRow 54 = .ok (.aload_n 0, 1) := by decide +kernel
theorem dX12_nextRow_55 : decode cX12_nextRow 55 = .ok (.getfield 119, 3) := by decide +kernel
theorem dX12_nextRow_58 : decode cX12_nextRow 58 = .ok (.iload_n 3, 1) := by decide +kernel
theorem dX12_nextRow_59 : decode cX12_nextRow 59 = .ok (.iconst 0, 1) := by decide +kernel
theorem dX12_nextRow_60 : decode cX12_nextRow 60 = .ok (.iastore, 1) := by decide +kernel
theorem dX12_nextRow_61 : decode cX12_nextRow 61 = .ok (.iinc 3 (-1), 3) := by decide +kernel
theorem dX12_nextRow_64 : decode cX12_nextRow 64 = .ok (.goto (-62), 3) := by decide +kernel
theorem dX12_nextRow_67 : decode cX12_nextRow 67 = .ok (.iconst 0, 1) := by decide +kernel
theorem dX12_nextRow_68 : decode cX12_nextRow 68 = .ok (.ireturn, 1) := by decide +kernel
abbrev mi_X12_nextRow : MI := (zTM, RX12, yX12_nextRow, cX12_nextRow, 4, (some .boolean), 2)
theorem cal_X12_nextRow : zCalV mi_X12_nextRow 2 := ⟨⟨zTB_i8 199 (by decide +kernel), zTB_i8 198 (by decide +kernel), zTB_i0 100 (by decide +kernel), zTB_i1 13 (by decide +kernel)⟩, ⟨by decide, by decide, by decide +kernel⟩, by decide⟩
noncomputable def X12_nextRow_L1 (a1 : Nat) (x2 : Int32) : Nat → Int32 → Mem → Option (Bool × Mem)
  | 0, _, _ => none
  | n + 1, c3, M =>
    if c3 < 0 then
      some (false, M)
    else
    gd_ (inb c3 (3) = true) (
    lt_ (uI M 35 c3.toNatClampNeg ((M.1 35 c3.toNatClampNeg) + 1)) fun M3 =>
    gd_ (inb c3 (zlen zTM a1) = true) (
    l1_ (α := Bool) (
      if (M3.1 a1 c3.toNatClampNeg) < (M3.1 35 c3.toNatClampNeg) then
        true
      else
      if x2 < (((M3.1 35 0) + (M3.1 35 1)) + (M3.1 35 2)) then
        true
      else
      false) fun t7 =>
    if t7 = true then
      lt_ (uI M3 35 c3.toNatClampNeg 0) fun M9 =>
      X12_nextRow_L1 a1 x2 n (c3 + (-1)) M9
    else
    some (true, M3)))
noncomputable def X12_nextRow (a1 : Nat) (x2 : Int32) (M : Mem) : Option (Bool × Mem) :=
  X12_nextRow_L1 a1 x2 zFU 2 M
set_option maxRecDepth 100000 in
set_option maxHeartbeats 4000000 in
theorem X12_nextRow_L1_ok (G : Gh) {a1 : Nat} (ha1 : zar zTM a1 = some (0, zlen zTM a1)) (x2 : Int32) : ∀ (n : Nat) (c3 : Int32) (M : Mem), Wr G mi_X12_nextRow (dO dZM) 2 [some (.ref (G.2.2.2 (0))), some (.ref (G.2.2.2 (a1))), some (.int x2), some (.int c3)] [] M (X12_nextRow_L1 a1 x2 n c3 M) := by
  intro n
  induction n with
  | zero => intro c3 M; exact r_none rfl
  | succ n ih =>
    intro c3 M
    rw [X12_nextRow_L1]
    refine r_iload_n dX12_nextRow_2 rfl ?_
    refine r_if_lt (tgt := 67) dX12_nextRow_3 rfl (fun h1 => ?_) (fun h1 => ?_)
    · refine r_iconst (x := 0) dX12_nextRow_67 rfl ?_
      exact r_iret (ty := .boolean) dX12_nextRow_68 rfl rfl rfl
    refine r_aload_n dX12_nextRow_6 rfl ?_
    refine r_getf (v := .ref (G.2.2.2 (35))) dX12_nextRow_7 fM_0_52 kX12 (by decide) lkf_X12_119 rfl ?_
    refine r_iload_n dX12_nextRow_10 rfl ?_
    refine r_dup2 dX12_nextRow_11 rfl rfl ?_
    refine r_gd rfl (fun g2 => ?_)
    refine r_iald dX12_nextRow_12 aM_35 (inb_in g2) rfl ?_
    refine r_iconst (x := 1) dX12_nextRow_13 rfl ?_
    refine r_iadd dX12_nextRow_14 ?_
    refine r_iast dX12_nextRow_15 aM_35 (inb_in g2) rfl (fun M3 => ?_)
    refine r_aload_n dX12_nextRow_16 rfl ?_
    refine r_getf (v := .ref (G.2.2.2 (35))) dX12_nextRow_17 fM_0_52 kX12 (by decide) lkf_X12_119 rfl ?_
    refine r_iload_n dX12_nextRow_20 rfl ?_
    refine r_iald dX12_nextRow_21 aM_35 (inb_in g2) rfl ?_
    refine r_aload_n dX12_nextRow_22 rfl ?_
    refine r_iload_n dX12_nextRow_23 rfl ?_
    refine r_gd rfl (fun g4 => ?_)
    refine r_iald dX12_nextRow_24 ha1 (inb_in g4) rfl ?_
    refine r_cL (jX := 54) (jY := 52) (lvX := [some (.ref (G.2.2.2 (0))), some (.ref (G.2.2.2 (a1))), some (.int x2), some (.int c3)]) (lvY := [none, none, none, none]) (stX := []) (M1 := M3) (fun h8 => ?_) (fun h8 => ?_) (fun hX54 hY52 => ?_)
    · refine r_eq (if_pos rfl) ?_
      refine r_aload_n dX12_nextRow_54 rfl ?_
      refine r_getf (v := .ref (G.2.2.2 (35))) dX12_nextRow_55 fM_0_52 kX12 (by decide) lkf_X12_119 rfl ?_
      refine r_iload_n dX12_nextRow_58 rfl ?_
      refine r_iconst (x := 0) dX12_nextRow_59 rfl ?_
      refine r_iast dX12_nextRow_60 aM_35 (inb_in g2) rfl (fun M9 => ?_)
      refine r_iinc (y := c3 + (-1)) (lv' := [some (.ref (G.2.2.2 (0))), some (.ref (G.2.2.2 (a1))), some (.int x2), some (.int (c3 + (-1)))]) dX12_nextRow_61 rfl rfl (Nat.le_of_ble_eq_true rfl) rfl rfl ?_
      refine r_goto (tgt := 2) dX12_nextRow_64 rfl ?_
      exact r_lk (ih (c3 + (-1)) M9) (And.intro rfl (And.intro rfl (And.intro rfl (And.intro rfl True.intro))))
    · refine r_eq (if_neg (by decide)) ?_
      refine r_iconst (x := 1) dX12_nextRow_52 rfl ?_
      exact r_iret (ty := .boolean) dX12_nextRow_53 rfl rfl rfl
    refine r_icmp_gt (tgt := 54) dX12_nextRow_25 rfl (fun h5 => ?_) (fun h5 => ?_)
    · exact r_lk hX54 (And.intro rfl (And.intro rfl (And.intro rfl (And.intro rfl True.intro))))
    refine r_aload_n dX12_nextRow_28 rfl ?_
    refine r_getf (v := .ref (G.2.2.2 (35))) dX12_nextRow_29 fM_0_52 kX12 (by decide) lkf_X12_119 rfl ?_
    refine r_iconst (x := 0) dX12_nextRow_32 rfl ?_
    refine r_iald dX12_nextRow_33 aM_35 (inb_in (i := 0) (n := 3) rfl) (m := 0) rfl ?_
    refine r_aload_n dX12_nextRow_34 rfl ?_
    refine r_getf (v := .ref (G.2.2.2 (35))) dX12_nextRow_35 fM_0_52 kX12 (by decide) lkf_X12_119 rfl ?_
    refine r_iconst (x := 1) dX12_nextRow_38 rfl ?_
    refine r_iald dX12_nextRow_39 aM_35 (inb_in (i := 1) (n := 3) rfl) (m := 1) rfl ?_
    refine r_iadd dX12_nextRow_40 ?_
    refine r_aload_n dX12_nextRow_41 rfl ?_
    refine r_getf (v := .ref (G.2.2.2 (35))) dX12_nextRow_42 fM_0_52 kX12 (by decide) lkf_X12_119 rfl ?_
    refine r_iconst (x := 2) dX12_nextRow_45 rfl ?_
    refine r_iald dX12_nextRow_46 aM_35 (inb_in (i := 2) (n := 3) rfl) (m := 2) rfl ?_
    refine r_iadd dX12_nextRow_47 ?_
    refine r_iload_n dX12_nextRow_48 rfl ?_
    refine r_icmp_gt (tgt := 54) dX12_nextRow_49 rfl (fun h6 => ?_) (fun h6 => ?_)
    · exact r_lk hX54 (And.intro rfl (And.intro rfl (And.intro rfl (And.intro rfl True.intro))))
    exact r_lk hY52 True.intro
set_option maxRecDepth 100000 in
set_option maxHeartbeats 4000000 in
theorem X12_nextRow_ok (G : Gh) {a1 : Nat} (ha1 : zar zTM a1 = some (0, zlen zTM a1)) (x2 : Int32) (M : Mem) : Mt G mi_X12_nextRow [.ref (G.2.2.2 (0)), .ref (G.2.2.2 (a1)), .int x2] M ((dO dZM) (X12_nextRow a1 x2 M)) := by
  refine Mt_of (lv := [some (.ref (G.2.2.2 (0))), some (.ref (G.2.2.2 (a1))), some (.int x2)]) (by decide) rfl (Nat.le_of_ble_eq_true rfl) rfl ?_
  refine r_le (lv' := [some (.ref (G.2.2.2 (0))), some (.ref (G.2.2.2 (a1))), some (.int x2), none]) (And.intro rfl (And.intro rfl (And.intro rfl True.intro))) ?_
  unfold X12_nextRow
  refine r_iconst (x := 2) dX12_nextRow_0 rfl ?_
  refine r_istore_n (lv' := [some (.ref (G.2.2.2 (0))), some (.ref (G.2.2.2 (a1))), some (.int x2), some (.int 2)]) dX12_nextRow_1 (Nat.le_of_ble_eq_true rfl) rfl rfl ?_
  exact r_lk (X12_nextRow_L1_ok G ha1 x2 zFU 2 M) (And.intro rfl (And.intro rfl (And.intro rfl (And.intro rfl True.intro))))

theorem dX12_layBest_0 : decode cX12_layBest 0 = .ok (.aload_n 0, 1) := by decide +kernel
theorem dX12_layBest_1 : decode cX12_layBest 1 = .ok (.iload_n 1, 1) := by decide +kernel
theorem dX12_layBest_2 : decode cX12_layBest 2 = .ok (.invokevirtual 475, 3) := by decide +kernel
theorem dX12_layBest_5 : decode cX12_layBest 5 = .ok (.aload_n 0, 1) := by decide +kernel
theorem dX12_layBest_6 : decode cX12_layBest 6 = .ok (.invokevirtual 478, 3) := by decide +kernel
theorem dX12_layBest_9 : decode cX12_layBest 9 = .ok (.iconst 1, 1) := by decide +kernel
theorem dX12_layBest_10 : decode cX12_layBest 10 = .ok (.istore_n 3, 1) := by decide +kernel
theorem dX12_layBest_11 : decode cX12_layBest 11 = .ok (.aload_n 0, 1) := by decide +kernel
theorem dX12_layBest_12 : decode cX12_layBest 12 = .ok (.iconst (-1), 1) := by decide +kernel
theorem dX12_layBest_13 : decode cX12_layBest 13 = .ok (.putfield 481, 3) := by decide +kernel
theorem dX12_layBest_16 : decode cX12_layBest 16 = .ok (.iload_n 3, 1) := by decide +kernel
theorem dX12_layBest_17 : decode cX12_layBest 17 = .ok (.ifCond .eq 147, 3) := by decide +kernel
theorem dX12_layBest_20 : decode cX12_layBest 20 = .ok (.aload_n 0, 1) := by decide +kernel
theorem dX12_layBest_21 : decode cX12_layBest 21 = .ok (.iload_n 1, 1) := by decide +kernel
theorem dX12_layBest_22 : decode cX12_layBest 22 = .ok (.iconst 1, 1) := by decide +kernel
theorem dX12_layBest_23 : decode cX12_layBest 23 = .ok (.invokevirtual 484, 3) := by decide +kernel
theorem dX12_layBest_26 : decode cX12_layBest 26 = .ok (.iload_n 2, 1) := by decide +kernel
theorem dX12_layBest_27 : decode cX12_layBest 27 = .ok (.ifCond .ne 11, 3) := by decide +kernel
theorem dX12_layBest_30 : decode cX12_layBest 30 = .ok (.aload_n 0, 1) := by decide +kernel
theorem dX12_layBest_31 : decode cX12_layBest 31 = .ok (.iload_n 1, 1) := by decide +kernel
theorem dX12_layBest_32 : decode cX12_layBest 32 = .ok (.invokevirtual 420, 3) := by decide +kernel
theorem dX12_layBest_35 : decode cX12_layBest 35 = .ok (.goto 7, 3) := by decide +kernel
theorem dX12_layBest_38 : decode cX12_layBest 38 = .ok (.aload_n 0, 1) := by decide +kernel
theorem dX12_layBest_39 : decode cX12_layBest 39 = .ok (.invokevirtual 466, 3) := by decide +kernel
theorem dX12_layBest_42 : decode cX12_layBest 42 = .ok (.istore 4, 2) := by decide +kernel
theorem dX12_layBest_44 : decode cX12_layBest 44 = .ok (.aload_n 0, 1) := by decide +kernel
theorem dX12_layBest_45 : decode cX12_layBest 45 = .ok (.iload_n 1, 1) := by decide +kernel
theorem dX12_layBest_46 : decode cX12_layBest 46 = .ok (.iconst (-1), 1) := by decide +kernel
theorem dX12_layBest_47 : decode cX12_layBest 47 = .ok (.invokevirtual 484, 3) := by decide +kernel
theorem dX12_layBest_50 : decode cX12_layBest 50 = .ok (.aload_n 0, 1) := by decide +kernel
theorem dX12_layBest_51 : decode cX12_layBest 51 = .ok (.getfield 119, 3) := by decide +kernel
theorem dX12_layBest_54 : decode cX12_layBest 54 = .ok (.iconst 0, 1) := by decide +kernel
theorem dX12_layBest_55 : decode cX12_layBest 55 = .ok (.iaload, 1) := by decide +kernel
theorem dX12_layBest_56 : decode cX12_layBest 56 = .ok (.aload_n 0, 1) := by decide +kernel
theorem dX12_layBest_57 : decode cX12_layBest 57 = .ok (.getfield 119, 3) := by decide +kernel
theorem dX12_layBest_60 : decode cX12_layBest 60 = .ok (.iconst 1, 1) := by decide +kernel
theorem dX12_layBest_61 : decode cX12_layBest 61 = .ok (.iaload, 1) := by decide +kernel
theorem dX12_layBest_62 : decode cX12_layBest 62 = .ok (.iadd, 1) := by decide +kernel
theorem dX12_layBest_63 : decode cX12_layBest 63 = .ok (.aload_n 0, 1) := by decide +kernel
theorem dX12_layBest_64 : decode cX12_layBest 64 = .ok (.getfield 119, 3) := by decide +kernel
theorem dX12_layBest_67 : decode cX12_layBest 67 = .ok (.iconst 2, 1) := by decide +kernel
theorem dX12_layBest_68 : decode cX12_layBest 68 = .ok (.iaload, 1) := by decide +kernel
theorem dX12_layBest_69 : decode cX12_layBest 69 = .ok (.iadd, 1) := by decide +kernel
theorem dX12_layBest_70 : decode cX12_layBest 70 = .ok (.istore 5, 2) := by decide +kernel
theorem dX12_layBest_72 : decode cX12_layBest 72 = .ok (.aload_n 0, 1) := by decide +kernel
theorem dX12_layBest_73 : decode cX12_layBest 73 = .ok (.getfield 481, 3) := by decide +kernel
theorem dX12_layBest_76 : decode cX12_layBest 76 = .ok (.ifCond .lt 30, 3) := by decide +kernel
theorem dX12_layBest_79 : decode cX12_layBest 79 = .ok (.iload 4, 2) := by decide +kernel
theorem dX12_layBest_81 : decode cX12_layBest 81 = .ok (.aload_n 0, 1) := by decide +kernel
theorem dX12_layBest_82 : decode cX12_layBest 82 = .ok (.getfield 487, 3) := by decide +kernel
theorem dX12_layBest_85 : decode cX12_layBest 85 = .ok (.if_icmp .gt 21, 3) := by decide +kernel
theorem dX12_layBest_88 : decode cX12_layBest 88 = .ok (.iload 4, 2) := by decide +kernel
theorem dX12_layBest_90 : decode cX12_layBest 90 = .ok (.aload_n 0, 1) := by decide +kernel
theorem dX12_layBest_91 : decode cX12_layBest 91 = .ok (.getfield 487, 3) := by decide +kernel
theorem dX12_layBest_94 : decode cX12_layBest 94 = .ok (.if_icmp .ne 53, 3) := by decide +kernel
theorem dX12_layBest_97 : decode cX12_layBest 97 = .ok (.iload 5, 2) := by decide +kernel
theorem dX12_layBest_99 : decode cX12_layBest 99 = .ok (.aload_n 0, 1) := by decide +kernel
theorem dX12_layBest_100 : decode cX12_layBest 100 = .ok (.getfield 481, 3) := by decide +kernel
theorem dX12_layBest_103 : decode cX12_layBest 103 = .ok (.if_icmp .ge 44, 3) := by decide +kernel
theorem dX12_layBest_106 : decode cX12_layBest 106 = .ok (.aload_n 0, 1) := by decide +kernel
theorem dX12_layBest_107 : decode cX12_layBest 107 = .ok (.iload 4, 2) := by decide +kernel
theorem dX12_layBest_109 : decode cX12_layBest 109 = .ok (.putfield 487, 3) := by decide +kernel
theorem dX12_layBest_112 : decode cX12_layBest 112 = .ok (.aload_n 0, 1) := by decide +kernel
theorem dX12_layBest_113 : decode cX12_layBest 113 = .ok (.iload 5, 2) := by decide +kernel
theorem dX12_layBest_115 : decode cX12_layBest 115 = .ok (.putfield 481, 3) := by decide +kernel
theorem dX12_layBest_118 : decode cX12_layBest 118 = .ok (.iconst 0, 1) := by decide +kernel
theorem dX12_layBest_119 : decode cX12_layBest 119 = .ok (.istore 6, 2) := by decide +kernel
theorem dX12_layBest_121 : decode cX12_layBest 121 = .ok (.iload 6, 2) := by decide +kernel
theorem dX12_layBest_123 : decode cX12_layBest 123 = .ok (.iconst 3, 1) := by decide +kernel
theorem dX12_layBest_124 : decode cX12_layBest 124 = .ok (.if_icmp .ge 23, 3) := by decide +kernel
theorem dX12_layBest_127 : decode cX12_layBest 127 = .ok (.aload_n 0, 1) := by decide +kernel
theorem dX12_layBest_128 : decode cX12_layBest 128 = .ok (.getfield 122, 3) := by decide +kernel
theorem dX12_layBest_131 : decode cX12_layBest 131 = .ok (.iload 6, 2) := by decide +kernel
theorem dX12_layBest_133 : decode cX12_layBest 133 = .ok (.aload_n 0, 1) := by decide +kernel
theorem dX12_layBest_134 : decode cX12_layBest 134 = .ok (.getfield 119, 3) := by decide +kernel
theorem dX12_layBest_137 : decode cX12_layBest 137 = .ok (.iload 6, 2) := by decide +kernel
theorem dX12_layBest_139 : decode cX12_layBest 139 = .ok (.iaload, 1) := by decide +kernel
theorem dX12_layBest_140 : decode cX12_layBest 140 = .ok (.iastore, 1) := by decide +kernel
theorem dX12_layBest_141 : decode cX12_layBest 141 = .ok (.iinc 6 1, 3) := by decide +kernel
theorem dX12_layBest_144 : decode cX12_layBest 144 = .ok (.goto (-23), 3) := by decide +kernel
theorem dX12_layBest_147 : decode cX12_layBest 147 = .ok (.aload_n 0, 1) := by decide +kernel
theorem dX12_layBest_148 : decode cX12_layBest 148 = .ok (.aload_n 0, 1) := by decide +kernel
theorem dX12_layBest_149 : decode cX12_layBest 149 = .ok (.getfield 128, 3) := by decide +kernel
theorem dX12_layBest_152 : decode cX12_layBest 152 = .ok (.aload_n 0, 1) := by decide +kernel
theorem dX12_layBest_153 : decode cX12_layBest 153 = .ok (.iload_n 1, 1) := by decide +kernel
theorem dX12_layBest_154 : decode cX12_layBest 154 = .ok (.invokevirtual 442, 3) := by decide +kernel
theorem dX12_layBest_157 : decode cX12_layBest 157 = .ok (.invokevirtual 490, 3) := by decide +kernel
theorem dX12_layBest_160 : decode cX12_layBest 160 = .ok (.istore_n 3, 1) := by decide +kernel
theorem dX12_layBest_161 : decode cX12_layBest 161 = .ok (.goto (-145), 3) := by decide +kernel
theorem dX12_layBest_164 : decode cX12_layBest 164 = .ok (.return_, 1) := by decide +kernel
abbrev mi_X12_layBest : MI := (zTM, RX12, yX12_layBest, cX12_layBest, 7, none, 7)
theorem cal_X12_layBest : zCalV mi_X12_layBest 2 := ⟨⟨zTB_i8 183 (by decide +kernel), zTB_i8 182 (by decide +kernel), zTB_i0 96 (by decide +kernel), zTB_i1 13 (by decide +kernel)⟩, ⟨by decide, by decide, by decide +kernel⟩, by decide⟩
noncomputable def X12_layBest_L3 : Nat → Int32 → Mem → Option (Mem)
  | 0, _, _ => none
  | n + 1, c6, M =>
    if 3 ≤ c6 then
      some M
    else
    gd_ (inb c6 (3) = true) (
    gd_ (inb c6 (3) = true) (
    lt_ (uI M 36 c6.toNatClampNeg (M.1 35 c6.toNatClampNeg)) fun M33 =>
    X12_layBest_L3 n (c6 + 1) M33))
noncomputable def X12_layBest_L2 : Nat → Int32 → Mem → Option (Mem)
  | 0, _, _ => none
  | n + 1, c6, M =>
    if 3 ≤ c6 then
      some M
    else
    gd_ (inb c6 (3) = true) (
    gd_ (inb c6 (3) = true) (
    lt_ (uI M 36 c6.toNatClampNeg (M.1 35 c6.toNatClampNeg)) fun M24 =>
    X12_layBest_L2 n (c6 + 1) M24))
noncomputable def X12_layBest_L1 (x1 : Int32) (x2 : Int32) : Nat → Int32 → Mem → Option (Mem)
  | 0, _, _ => none
  | n + 1, c3, M =>
    if c3 = 0 then
      some M
    else
    bo_ (X12_layRow x1 1 M) fun M5 =>
    b2_ (α := Int32) (β := Mem) (
      if x2 = 0 then
        bp_ (X12_growthOf x1 M5) fun v9 M10 =>
        some (v9, M10)
      else
      bp_ (X12_growths M5) fun v7 M8 =>
      some (v7, M8)) fun y11 M12 =>
    bo_ (X12_layRow x1 (-1) M12) fun M13 =>
    lt_ (α := Int32) (((M13.1 35 0) + (M13.1 35 1)) + (M13.1 35 2)) fun y14 =>
    b1_ (α := Mem) (
      l1_ (α := Bool) (
        if (M13.1 0 56) < 0 then
          true
        else
        if (M13.1 0 57) < y11 then
          true
        else
        false) fun t17 =>
      if t17 = true then
        lt_ (uI M13 0 57 y11) fun M19 =>
        lt_ (uI M19 0 56 y14) fun M20 =>
        b1_ (α := Mem) (X12_layBest_L2 zFU 0 M20) fun M25 =>
        some M25
      else
      if y11 = (M13.1 0 57) then
        if (M13.1 0 56) ≤ y14 then
          some M13
        else
        lt_ (uI M13 0 57 y11) fun M28 =>
        lt_ (uI M28 0 56 y14) fun M29 =>
        b1_ (α := Mem) (X12_layBest_L3 zFU 0 M29) fun M34 =>
        some M34
      else
      some M13) fun M35 =>
    bo_ (X12_leftOf x1 M35) fun v36 =>
    bp_ (X12_nextRow 38 v36 M35) fun b37 M38 =>
    X12_layBest_L1 x1 x2 n (b2i (b37)) M38
noncomputable def X12_layBest (x1 : Int32) (x2 : Int32) (M : Mem) : Option (Mem) :=
  bo_ (X12_layMost x1 M) fun M1 =>
  bo_ (X12_noRow M1) fun M2 =>
  lt_ (uI M2 0 56 (-1)) fun M3 =>
  b1_ (α := Mem) (X12_layBest_L1 x1 x2 zFU 1 M3) fun M39 =>
  some M39
set_option maxRecDepth 100000 in
set_option maxHeartbeats 4000000 in
theorem X12_layBest_L3_ok (G : Gh) (x1 : Int32) (x2 : Int32) {dn : Option (Mem) → Option (Option Value × Mem)} (hs : dn none = none) (hx : ∀ (M34 : Mem), Wr G mi_X12_layBest dn 147 [some (.ref (G.2.2.2 (0))), some (.int x1), some (.int x2), none, none, none, none] [] M34 (some M34)) : ∀ (n : Nat) (c6 : Int32) (M : Mem), Wr G mi_X12_layBest dn 121 [some (.ref (G.2.2.2 (0))), some (.int x1), some (.int x2), none, none, none, some (.int c6)] [] M (X12_layBest_L3 n c6 M) := by
  intro n
  induction n with
  | zero => intro c6 M; exact r_none (by exact hs)
  | succ n ih =>
    intro c6 M
    rw [X12_layBest_L3]
    refine r_iload dX12_layBest_121 rfl ?_
    refine r_iconst (x := 3) dX12_layBest_123 rfl ?_
    refine r_icmp_ge (tgt := 147) dX12_layBest_124 rfl (fun h30 => ?_) (fun h30 => ?_)
    · exact r_lk (hx M) (And.intro rfl (And.intro rfl (And.intro rfl True.intro)))
    refine r_aload_n dX12_layBest_127 rfl ?_
    refine r_getf (v := .ref (G.2.2.2 (36))) dX12_layBest_128 fM_0_53 kX12 (by decide) lkf_X12_122 rfl ?_
    refine r_iload dX12_layBest_131 rfl ?_
    refine r_aload_n dX12_layBest_133 rfl ?_
    refine r_getf (v := .ref (G.2.2.2 (35))) dX12_layBest_134 fM_0_52 kX12 (by decide) lkf_X12_119 rfl ?_
    refine r_iload dX12_layBest_137 rfl ?_
    refine r_gd (by exact hs) (fun g31 => ?_)
    refine r_iald dX12_layBest_139 aM_35 (inb_in g31) rfl ?_
    refine r_gd (by exact hs) (fun g32 => ?_)
    refine r_iast dX12_layBest_140 aM_36 (inb_in g32) rfl (fun M33 => ?_)
    refine r_iinc (y := c6 + 1) (lv' := [some (.ref (G.2.2.2 (0))), some (.int x1), some (.int x2), none, none, none, some (.int (c6 + 1))]) dX12_layBest_141 rfl rfl (Nat.le_of_ble_eq_true rfl) rfl rfl ?_
    refine r_goto (tgt := 121) dX12_layBest_144 rfl ?_
    exact r_lk (ih (c6 + 1) M33) (And.intro rfl (And.intro rfl (And.intro rfl (And.intro rfl True.intro))))
set_option maxRecDepth 100000 in
set_option maxHeartbeats 4000000 in
theorem X12_layBest_L2_ok (G : Gh) (x1 : Int32) (x2 : Int32) {dn : Option (Mem) → Option (Option Value × Mem)} (hs : dn none = none) (hx : ∀ (M25 : Mem), Wr G mi_X12_layBest dn 147 [some (.ref (G.2.2.2 (0))), some (.int x1), some (.int x2), none, none, none, none] [] M25 (some M25)) : ∀ (n : Nat) (c6 : Int32) (M : Mem), Wr G mi_X12_layBest dn 121 [some (.ref (G.2.2.2 (0))), some (.int x1), some (.int x2), none, none, none, some (.int c6)] [] M (X12_layBest_L2 n c6 M) := by
  intro n
  induction n with
  | zero => intro c6 M; exact r_none (by exact hs)
  | succ n ih =>
    intro c6 M
    rw [X12_layBest_L2]
    refine r_iload dX12_layBest_121 rfl ?_
    refine r_iconst (x := 3) dX12_layBest_123 rfl ?_
    refine r_icmp_ge (tgt := 147) dX12_layBest_124 rfl (fun h21 => ?_) (fun h21 => ?_)
    · exact r_lk (hx M) (And.intro rfl (And.intro rfl (And.intro rfl True.intro)))
    refine r_aload_n dX12_layBest_127 rfl ?_
    refine r_getf (v := .ref (G.2.2.2 (36))) dX12_layBest_128 fM_0_53 kX12 (by decide) lkf_X12_122 rfl ?_
    refine r_iload dX12_layBest_131 rfl ?_
    refine r_aload_n dX12_layBest_133 rfl ?_
    refine r_getf (v := .ref (G.2.2.2 (35))) dX12_layBest_134 fM_0_52 kX12 (by decide) lkf_X12_119 rfl ?_
    refine r_iload dX12_layBest_137 rfl ?_
    refine r_gd (by exact hs) (fun g22 => ?_)
    refine r_iald dX12_layBest_139 aM_35 (inb_in g22) rfl ?_
    refine r_gd (by exact hs) (fun g23 => ?_)
    refine r_iast dX12_layBest_140 aM_36 (inb_in g23) rfl (fun M24 => ?_)
    refine r_iinc (y := c6 + 1) (lv' := [some (.ref (G.2.2.2 (0))), some (.int x1), some (.int x2), none, none, none, some (.int (c6 + 1))]) dX12_layBest_141 rfl rfl (Nat.le_of_ble_eq_true rfl) rfl rfl ?_
    refine r_goto (tgt := 121) dX12_layBest_144 rfl ?_
    exact r_lk (ih (c6 + 1) M24) (And.intro rfl (And.intro rfl (And.intro rfl (And.intro rfl True.intro))))
set_option maxRecDepth 100000 in
set_option maxHeartbeats 4000000 in
theorem X12_layBest_L1_ok (G : Gh) (x1 : Int32) (x2 : Int32) {dn : Option (Mem) → Option (Option Value × Mem)} (hs : dn none = none) (hx : ∀ (M39 : Mem), Wr G mi_X12_layBest dn 164 [none, none, none, none, none, none, none] [] M39 (some M39)) : ∀ (n : Nat) (c3 : Int32) (M : Mem), Wr G mi_X12_layBest dn 16 [some (.ref (G.2.2.2 (0))), some (.int x1), some (.int x2), some (.int c3), none, none, none] [] M (X12_layBest_L1 x1 x2 n c3 M) := by
  intro n
  induction n with
  | zero => intro c3 M; exact r_none (by exact hs)
  | succ n ih =>
    intro c3 M
    rw [X12_layBest_L1]
    refine r_iload_n dX12_layBest_16 rfl ?_
    refine r_if_eq (tgt := 164) dX12_layBest_17 rfl (fun h4 => ?_) (fun h4 => ?_)
    · exact r_lk (hx M) True.intro
    refine r_aload_n dX12_layBest_20 rfl ?_
    refine r_iload_n dX12_layBest_21 rfl ?_
    refine r_iconst (x := 1) dX12_layBest_22 rfl ?_
    refine c_OV (by exact hs) (inv_V (mi := mi_X12_layBest) (b := 0) (rest := []) (X12_layRow_ok G x1 1 M) rfl (by decide) dX12_layBest_23 lkm_X12_484 cal_X12_layRow cM_0 rfl rfl (Nat.le_of_ble_eq_true rfl) rfl) (fun M5 => ?_)
    refine r_iload_n dX12_layBest_26 rfl ?_
    refine r_jB2 (j := 42) (lvj := fun y11 M12 => [some (.ref (G.2.2.2 (0))), some (.int x1), some (.int x2), none, none, none, none]) (stj := fun y11 M12 => [.int y11]) (Mj := fun y11 M12 => M12) (fun y11 M12 => ?_) (fun hj42 => ?_)
    · refine r_istore (lv' := [some (.ref (G.2.2.2 (0))), some (.int x1), some (.int x2), none, some (.int y11), none, none]) dX12_layBest_42 (Nat.le_of_ble_eq_true rfl) rfl rfl ?_
      refine r_aload_n dX12_layBest_44 rfl ?_
      refine r_iload_n dX12_layBest_45 rfl ?_
      refine r_iconst (x := (-1)) dX12_layBest_46 rfl ?_
      refine c_OV (by exact hs) (inv_V (mi := mi_X12_layBest) (b := 0) (rest := []) (X12_layRow_ok G x1 (-1) M12) rfl (by decide) dX12_layBest_47 lkm_X12_484 cal_X12_layRow cM_0 rfl rfl (Nat.le_of_ble_eq_true rfl) rfl) (fun M13 => ?_)
      refine r_aload_n dX12_layBest_50 rfl ?_
      refine r_getf (v := .ref (G.2.2.2 (35))) dX12_layBest_51 fM_0_52 kX12 (by decide) lkf_X12_119 rfl ?_
      refine r_iconst (x := 0) dX12_layBest_54 rfl ?_
      refine r_iald dX12_layBest_55 aM_35 (inb_in (i := 0) (n := 3) rfl) (m := 0) rfl ?_
      refine r_aload_n dX12_layBest_56 rfl ?_
      refine r_getf (v := .ref (G.2.2.2 (35))) dX12_layBest_57 fM_0_52 kX12 (by decide) lkf_X12_119 rfl ?_
      refine r_iconst (x := 1) dX12_layBest_60 rfl ?_
      refine r_iald dX12_layBest_61 aM_35 (inb_in (i := 1) (n := 3) rfl) (m := 1) rfl ?_
      refine r_iadd dX12_layBest_62 ?_
      refine r_aload_n dX12_layBest_63 rfl ?_
      refine r_getf (v := .ref (G.2.2.2 (35))) dX12_layBest_64 fM_0_52 kX12 (by decide) lkf_X12_119 rfl ?_
      refine r_iconst (x := 2) dX12_layBest_67 rfl ?_
      refine r_iald dX12_layBest_68 aM_35 (inb_in (i := 2) (n := 3) rfl) (m := 2) rfl ?_
      refine r_iadd dX12_layBest_69 ?_
      refine r_letI (fun y14 => ?_)
      refine r_istore (lv' := [some (.ref (G.2.2.2 (0))), some (.int x1), some (.int x2), none, some (.int y11), some (.int y14), none]) dX12_layBest_70 (Nat.le_of_ble_eq_true rfl) rfl rfl ?_
      refine r_aload_n dX12_layBest_72 rfl ?_
      refine r_getf (v := .int (M13.1 0 56)) dX12_layBest_73 fM_0_56 kX12 (by decide) lkf_X12_481 rfl ?_
      refine r_jB1 (j := 147) (lvj := fun M35 => [some (.ref (G.2.2.2 (0))), some (.int x1), some (.int x2), none, none, none, none]) (stj := fun M35 => []) (Mj := fun M35 => M35) (fun M35 => ?_) (fun hj147 => ?_)
      · refine r_aload_n dX12_layBest_147 rfl ?_
        refine r_aload_n dX12_layBest_148 rfl ?_
        refine r_getf (v := .ref (G.2.2.2 (38))) dX12_layBest_149 fM_0_58 kX12 (by decide) lkf_X12_128 rfl ?_
        refine r_aload_n dX12_layBest_152 rfl ?_
        refine r_iload_n dX12_layBest_153 rfl ?_
        refine c_OI (by exact hs) (inv_V (mi := mi_X12_layBest) (b := 0) (rest := [.ref (G.2.2.2 (38)), .ref (G.2.2.2 (0))]) (X12_leftOf_ok G x1 M35) rfl (by decide) dX12_layBest_154 lkm_X12_442 cal_X12_leftOf cM_0 rfl rfl (Nat.le_of_ble_eq_true rfl) rfl) (fun v36 => ?_)
        refine c_OZM (by exact hs) (inv_V (mi := mi_X12_layBest) (b := 0) (rest := []) (X12_nextRow_ok G aM_38p v36 M35) rfl (by decide) dX12_layBest_157 lkm_X12_490 cal_X12_nextRow cM_0 rfl rfl (Nat.le_of_ble_eq_true rfl) rfl) (fun b37 M38 => ?_)
        refine r_istore_n (lv' := [some (.ref (G.2.2.2 (0))), some (.int x1), some (.int x2), some (.int (b2i (b37))), none, none, none]) dX12_layBest_160 (Nat.le_of_ble_eq_true rfl) rfl rfl ?_
        refine r_goto (tgt := 16) dX12_layBest_161 rfl ?_
        exact r_lk (ih (b2i (b37)) M38) (And.intro rfl (And.intro rfl (And.intro rfl (And.intro rfl True.intro))))
      refine r_cL (jX := 106) (jY := 88) (lvX := [some (.ref (G.2.2.2 (0))), some (.int x1), some (.int x2), none, some (.int y11), some (.int y14), none]) (lvY := [some (.ref (G.2.2.2 (0))), some (.int x1), some (.int x2), none, some (.int y11), some (.int y14), none]) (stX := []) (M1 := M13) (fun h18 => ?_) (fun h18 => ?_) (fun hX106 hY88 => ?_)
      · refine r_eq (if_pos rfl) ?_
        refine r_aload_n dX12_layBest_106 rfl ?_
        refine r_iload dX12_layBest_107 rfl ?_
        refine r_putI dX12_layBest_109 fM_0_57 kX12 (by decide) rfl rfl lkf_X12_487 (fun _ => rfl) rfl rfl (fun M19 => ?_)
        refine r_aload_n dX12_layBest_112 rfl ?_
        refine r_iload dX12_layBest_113 rfl ?_
        refine r_putI dX12_layBest_115 fM_0_56 kX12 (by decide) rfl rfl lkf_X12_481 (fun _ => rfl) rfl rfl (fun M20 => ?_)
        refine r_iconst (x := 0) dX12_layBest_118 rfl ?_
        refine r_istore (lv' := [some (.ref (G.2.2.2 (0))), some (.int x1), some (.int x2), none, some (.int y11), some (.int y14), some (.int 0)]) dX12_layBest_119 (Nat.le_of_ble_eq_true rfl) rfl rfl ?_
        refine r_jB1 (j := 147) (lvj := fun M25 => [some (.ref (G.2.2.2 (0))), some (.int x1), some (.int x2), none, none, none, none]) (stj := fun M25 => []) (Mj := fun M25 => M25) (fun M25 => ?_) (fun hj147 => ?_)
        · exact r_lk (hj147 M25) (And.intro rfl (And.intro rfl (And.intro rfl True.intro)))
        exact r_lk (X12_layBest_L2_ok G x1 x2 (by exact hs) hj147 zFU 0 M20) (And.intro rfl (And.intro rfl (And.intro rfl (And.intro rfl True.intro))))
      · refine r_eq (if_neg (by decide)) ?_
        refine r_iload dX12_layBest_88 rfl ?_
        refine r_aload_n dX12_layBest_90 rfl ?_
        refine r_getf (v := .int (M13.1 0 57)) dX12_layBest_91 fM_0_57 kX12 (by decide) lkf_X12_487 rfl ?_
        refine r_icmp_ne (tgt := 147) dX12_layBest_94 rfl (fun h26 => ?_) (fun h26 => ?_)
        · refine r_iload dX12_layBest_97 rfl ?_
          refine r_aload_n dX12_layBest_99 rfl ?_
          refine r_getf (v := .int (M13.1 0 56)) dX12_layBest_100 fM_0_56 kX12 (by decide) lkf_X12_481 rfl ?_
          refine r_icmp_ge (tgt := 147) dX12_layBest_103 rfl (fun h27 => ?_) (fun h27 => ?_)
          · exact r_lk (hj147 M13) (And.intro rfl (And.intro rfl (And.intro rfl True.intro)))
          refine r_aload_n dX12_layBest_106 rfl ?_
          refine r_iload dX12_layBest_107 rfl ?_
          refine r_putI dX12_layBest_109 fM_0_57 kX12 (by decide) rfl rfl lkf_X12_487 (fun _ => rfl) rfl rfl (fun M28 => ?_)
          refine r_aload_n dX12_layBest_112 rfl ?_
          refine r_iload dX12_layBest_113 rfl ?_
          refine r_putI dX12_layBest_115 fM_0_56 kX12 (by decide) rfl rfl lkf_X12_481 (fun _ => rfl) rfl rfl (fun M29 => ?_)
          refine r_iconst (x := 0) dX12_layBest_118 rfl ?_
          refine r_istore (lv' := [some (.ref (G.2.2.2 (0))), some (.int x1), some (.int x2), none, some (.int y11), some (.int y14), some (.int 0)]) dX12_layBest_119 (Nat.le_of_ble_eq_true rfl) rfl rfl ?_
          refine r_jB1 (j := 147) (lvj := fun M34 => [some (.ref (G.2.2.2 (0))), some (.int x1), some (.int x2), none, none, none, none]) (stj := fun M34 => []) (Mj := fun M34 => M34) (fun M34 => ?_) (fun hj147 => ?_)
          · exact r_lk (hj147 M34) (And.intro rfl (And.intro rfl (And.intro rfl True.intro)))
          exact r_lk (X12_layBest_L3_ok G x1 x2 (by exact hs) hj147 zFU 0 M29) (And.intro rfl (And.intro rfl (And.intro rfl (And.intro rfl True.intro))))
        exact r_lk (hj147 M13) (And.intro rfl (And.intro rfl (And.intro rfl True.intro)))
      refine r_if_lt (tgt := 106) dX12_layBest_76 rfl (fun h15 => ?_) (fun h15 => ?_)
      · exact r_lk hX106 (And.intro rfl (And.intro rfl (And.intro rfl (And.intro rfl (And.intro rfl True.intro)))))
      refine r_iload dX12_layBest_79 rfl ?_
      refine r_aload_n dX12_layBest_81 rfl ?_
      refine r_getf (v := .int (M13.1 0 57)) dX12_layBest_82 fM_0_57 kX12 (by decide) lkf_X12_487 rfl ?_
      refine r_icmp_gt (tgt := 106) dX12_layBest_85 rfl (fun h16 => ?_) (fun h16 => ?_)
      · exact r_lk hX106 (And.intro rfl (And.intro rfl (And.intro rfl (And.intro rfl (And.intro rfl True.intro)))))
      exact r_lk hY88 (And.intro rfl (And.intro rfl (And.intro rfl (And.intro rfl (And.intro rfl True.intro)))))
    refine r_if_ne (tgt := 38) dX12_layBest_27 rfl (fun h6 => ?_) (fun h6 => ?_)
    · refine r_aload_n dX12_layBest_30 rfl ?_
      refine r_iload_n dX12_layBest_31 rfl ?_
      refine c_OIM (by exact hs) (inv_V (mi := mi_X12_layBest) (b := 0) (rest := []) (X12_growthOf_ok G x1 M5) rfl (by decide) dX12_layBest_32 lkm_X12_420 cal_X12_growthOf cM_0 rfl rfl (Nat.le_of_ble_eq_true rfl) rfl) (fun v9 M10 => ?_)
      refine r_goto (tgt := 42) dX12_layBest_35 rfl ?_
      exact r_lk (hj42 v9 M10) (And.intro rfl (And.intro rfl (And.intro rfl True.intro)))
    refine r_aload_n dX12_layBest_38 rfl ?_
    refine c_OIM (by exact hs) (inv_V (mi := mi_X12_layBest) (b := 0) (rest := []) (X12_growths_ok G M5) rfl (by decide) dX12_layBest_39 lkm_X12_466 cal_X12_growths cM_0 rfl rfl (Nat.le_of_ble_eq_true rfl) rfl) (fun v7 M8 => ?_)
    exact r_lk (hj42 v7 M8) (And.intro rfl (And.intro rfl (And.intro rfl True.intro)))
set_option maxRecDepth 100000 in
set_option maxHeartbeats 4000000 in
theorem X12_layBest_ok (G : Gh) (x1 : Int32) (x2 : Int32) (M : Mem) : Mt G mi_X12_layBest [.ref (G.2.2.2 (0)), .int x1, .int x2] M ((dO dV) (X12_layBest x1 x2 M)) := by
  refine Mt_of (lv := [some (.ref (G.2.2.2 (0))), some (.int x1), some (.int x2)]) (by decide) rfl (Nat.le_of_ble_eq_true rfl) rfl ?_
  refine r_le (lv' := [some (.ref (G.2.2.2 (0))), some (.int x1), some (.int x2), none, none, none, none]) (And.intro rfl (And.intro rfl (And.intro rfl True.intro))) ?_
  unfold X12_layBest
  refine r_aload_n dX12_layBest_0 rfl ?_
  refine r_iload_n dX12_layBest_1 rfl ?_
  refine c_OV rfl (inv_V (mi := mi_X12_layBest) (b := 0) (rest := []) (X12_layMost_ok G x1 M) rfl (by decide) dX12_layBest_2 lkm_X12_475 cal_X12_layMost cM_0 rfl rfl (Nat.le_of_ble_eq_true rfl) rfl) (fun M1 => ?_)
  refine r_aload_n dX12_layBest_5 rfl ?_
  refine c_OV rfl (inv_V (mi := mi_X12_layBest) (b := 0) (rest := []) (X12_noRow_ok G M1) rfl (by decide) dX12_layBest_6 lkm_X12_478 cal_X12_noRow cM_0 rfl rfl (Nat.le_of_ble_eq_true rfl) rfl) (fun M2 => ?_)
  refine r_iconst (x := 1) dX12_layBest_9 rfl ?_
  refine r_istore_n (lv' := [some (.ref (G.2.2.2 (0))), some (.int x1), some (.int x2), some (.int 1), none, none, none]) dX12_layBest_10 (Nat.le_of_ble_eq_true rfl) rfl rfl ?_
  refine r_aload_n dX12_layBest_11 rfl ?_
  refine r_iconst (x := (-1)) dX12_layBest_12 rfl ?_
  refine r_putI dX12_layBest_13 fM_0_56 kX12 (by decide) rfl rfl lkf_X12_481 (fun _ => rfl) rfl rfl (fun M3 => ?_)
  refine r_jB1 (j := 164) (lvj := fun M39 => [none, none, none, none, none, none, none]) (stj := fun M39 => []) (Mj := fun M39 => M39) (fun M39 => ?_) (fun hj164 => ?_)
  · exact r_vret dX12_layBest_164 rfl rfl
  exact r_lk (X12_layBest_L1_ok G x1 x2 rfl hj164 zFU 1 M3) (And.intro rfl (And.intro rfl (And.intro rfl (And.intro rfl True.intro))))

theorem dX12_showRow_0 : decode cX12_showRow 0 = .ok (.iconst 0, 1) := by decide +kernel
theorem dX12_showRow_1 : decode cX12_showRow 1 = .ok (.istore_n 3, 1) := by decide +kernel
theorem dX12_showRow_2 : decode cX12_showRow 2 = .ok (.iload_n 3, 1) := by decide +kernel
theorem dX12_showRow_3 : decode cX12_showRow 3 = .ok (.aload_n 0, 1) := by decide +kernel
theorem dX12_showRow_4 : decode cX12_showRow 4 = .ok (.getfield 20, 3) := by decide +kernel
theorem dX12_showRow_7 : decode cX12_showRow 7 = .ok (.aload_n 0, 1) := by decide +kernel
theorem dX12_showRow_8 : decode cX12_showRow 8 = .ok (.getfield 301, 3) := by decide +kernel
theorem dX12_showRow_11 : decode cX12_showRow 11 = .ok (.iaload, 1) := by decide +kernel
theorem dX12_showRow_12 : decode cX12_showRow 12 = .ok (.if_icmp .ge 20, 3) := by decide +kernel
theorem dX12_showRow_15 : decode cX12_showRow 15 = .ok (.aload_n 0, 1) := by decide +kernel
theorem dX12_showRow_16 : decode cX12_showRow 16 = .ok (.getfield 125, 3) := by decide +kernel
theorem dX12_showRow_19 : decode cX12_showRow 19 = .ok (.iload_n 2, 1) := by decide +kernel
theorem dX12_showRow_20 : decode cX12_showRow 20 = .ok (.iload_n 3, 1) := by decide +kernel
theorem dX12_showRow_21 : decode cX12_showRow 21 = .ok (.iadd, 1) := by decide +kernel
theorem dX12_showRow_22 : decode cX12_showRow 22 = .ok (.aload_n 1, 1) := by decide +kernel
theorem dX12_showRow_23 : decode cX12_showRow 23 = .ok (.iload_n 3, 1) := by decide +kernel
theorem dX12_showRow_24 : decode cX12_showRow 24 = .ok (.iaload, 1) := by decide +kernel
theorem dX12_showRow_25 : decode cX12_showRow 25 = .ok (.iastore, 1) := by decide +kernel
theorem dX12_showRow_26 : decode cX12_showRow 26 = .ok (.iinc 3 1, 3) := by decide +kernel
theorem dX12_showRow_29 : decode cX12_showRow 29 = .ok (.goto (-27), 3) := by decide +kernel
theorem dX12_showRow_32 : decode cX12_showRow 32 = .ok (.return_, 1) := by decide +kernel
abbrev mi_X12_showRow : MI := (zTM, RX12, yX12_showRow, cX12_showRow, 4, none, 2)
theorem cal_X12_showRow : zCalV mi_X12_showRow 2 := ⟨⟨zTB_i8 207 (by decide +kernel), zTB_i8 206 (by decide +kernel), zTB_i0 102 (by decide +kernel), zTB_i1 13 (by decide +kernel)⟩, ⟨by decide, by decide, by decide +kernel⟩, by decide⟩
noncomputable def X12_showRow_L1 (a1 : Nat) (x2 : Int32) : Nat → Int32 → Mem → Option (Mem)
  | 0, _, _ => none
  | n + 1, c3, M =>
    gd_ (inb (M.1 0 41) (2) = true) (
    if (M.1 3 ((M.1 0 41).toNatClampNeg)) ≤ c3 then
      some M
    else
    gd_ (inb c3 (zlen zTM a1) = true) (
    gd_ (inb (x2 + c3) (8) = true) (
    lt_ (uI M 37 ((x2 + c3).toNatClampNeg) (M.1 a1 c3.toNatClampNeg)) fun M5 =>
    X12_showRow_L1 a1 x2 n (c3 + 1) M5)))
noncomputable def X12_showRow (a1 : Nat) (x2 : Int32) (M : Mem) : Option (Mem) :=
  b1_ (α := Mem) (X12_showRow_L1 a1 x2 zFU 0 M) fun M6 =>
  some M6
set_option maxRecDepth 100000 in
set_option maxHeartbeats 4000000 in
theorem X12_showRow_L1_ok (G : Gh) {a1 : Nat} (ha1 : zar zTM a1 = some (0, zlen zTM a1)) (x2 : Int32) {dn : Option (Mem) → Option (Option Value × Mem)} (hs : dn none = none) (hx : ∀ (M6 : Mem), Wr G mi_X12_showRow dn 32 [none, none, none, none] [] M6 (some M6)) : ∀ (n : Nat) (c3 : Int32) (M : Mem), Wr G mi_X12_showRow dn 2 [some (.ref (G.2.2.2 (0))), some (.ref (G.2.2.2 (a1))), some (.int x2), some (.int c3)] [] M (X12_showRow_L1 a1 x2 n c3 M) := by
  intro n
  induction n with
  | zero => intro c3 M; exact r_none (by exact hs)
  | succ n ih =>
    intro c3 M
    rw [X12_showRow_L1]
    refine r_iload_n dX12_showRow_2 rfl ?_
    refine r_aload_n dX12_showRow_3 rfl ?_
    refine r_getf (v := .ref (G.2.2.2 (3))) dX12_showRow_4 fM_0_11 kX12 (by decide) lkf_X12_20 rfl ?_
    refine r_aload_n dX12_showRow_7 rfl ?_
    refine r_getf (v := .int (M.1 0 41)) dX12_showRow_8 fM_0_41 kX12 (by decide) lkf_X12_301 rfl ?_
    refine r_gd (by exact hs) (fun g1 => ?_)
    refine r_iald dX12_showRow_11 aM_3 (inb_in g1) rfl ?_
    refine r_icmp_ge (tgt := 32) dX12_showRow_12 rfl (fun h2 => ?_) (fun h2 => ?_)
    · exact r_lk (hx M) True.intro
    refine r_aload_n dX12_showRow_15 rfl ?_
    refine r_getf (v := .ref (G.2.2.2 (37))) dX12_showRow_16 fM_0_54 kX12 (by decide) lkf_X12_125 rfl ?_
    refine r_iload_n dX12_showRow_19 rfl ?_
    refine r_iload_n dX12_showRow_20 rfl ?_
    refine r_iadd dX12_showRow_21 ?_
    refine r_aload_n dX12_showRow_22 rfl ?_
    refine r_iload_n dX12_showRow_23 rfl ?_
    refine r_gd (by exact hs) (fun g3 => ?_)
    refine r_iald dX12_showRow_24 ha1 (inb_in g3) rfl ?_
    refine r_gd (by exact hs) (fun g4 => ?_)
    refine r_iast dX12_showRow_25 aM_37 (inb_in g4) rfl (fun M5 => ?_)
    refine r_iinc (y := c3 + 1) (lv' := [some (.ref (G.2.2.2 (0))), some (.ref (G.2.2.2 (a1))), some (.int x2), some (.int (c3 + 1))]) dX12_showRow_26 rfl rfl (Nat.le_of_ble_eq_true rfl) rfl rfl ?_
    refine r_goto (tgt := 2) dX12_showRow_29 rfl ?_
    exact r_lk (ih (c3 + 1) M5) (And.intro rfl (And.intro rfl (And.intro rfl (And.intro rfl True.intro))))
set_option maxRecDepth 100000 in
set_option maxHeartbeats 4000000 in
theorem X12_showRow_ok (G : Gh) {a1 : Nat} (ha1 : zar zTM a1 = some (0, zlen zTM a1)) (x2 : Int32) (M : Mem) : Mt G mi_X12_showRow [.ref (G.2.2.2 (0)), .ref (G.2.2.2 (a1)), .int x2] M ((dO dV) (X12_showRow a1 x2 M)) := by
  refine Mt_of (lv := [some (.ref (G.2.2.2 (0))), some (.ref (G.2.2.2 (a1))), some (.int x2)]) (by decide) rfl (Nat.le_of_ble_eq_true rfl) rfl ?_
  refine r_le (lv' := [some (.ref (G.2.2.2 (0))), some (.ref (G.2.2.2 (a1))), some (.int x2), none]) (And.intro rfl (And.intro rfl (And.intro rfl True.intro))) ?_
  unfold X12_showRow
  refine r_iconst (x := 0) dX12_showRow_0 rfl ?_
  refine r_istore_n (lv' := [some (.ref (G.2.2.2 (0))), some (.ref (G.2.2.2 (a1))), some (.int x2), some (.int 0)]) dX12_showRow_1 (Nat.le_of_ble_eq_true rfl) rfl rfl ?_
  refine r_jB1 (j := 32) (lvj := fun M6 => [none, none, none, none]) (stj := fun M6 => []) (Mj := fun M6 => M6) (fun M6 => ?_) (fun hj32 => ?_)
  · exact r_vret dX12_showRow_32 rfl rfl
  exact r_lk (X12_showRow_L1_ok G ha1 x2 rfl hj32 zFU 0 M) (And.intro rfl (And.intro rfl (And.intro rfl (And.intro rfl True.intro))))

theorem dX12_show_0 : decode cX12_show 0 = .ok (.aload_n 0, 1) := by decide +kernel
theorem dX12_show_1 : decode cX12_show 1 = .ok (.aload_n 0, 1) := by decide +kernel
theorem dX12_show_2 : decode cX12_show 2 = .ok (.getfield 122, 3) := by decide +kernel
theorem dX12_show_5 : decode cX12_show 5 = .ok (.iconst 0, 1) := by decide +kernel
theorem dX12_show_6 : decode cX12_show 6 = .ok (.invokevirtual 494, 3) := by decide +kernel
theorem dX12_show_9 : decode cX12_show 9 = .ok (.aload_n 0, 1) := by decide +kernel
theorem dX12_show_10 : decode cX12_show 10 = .ok (.aload_n 0, 1) := by decide +kernel
theorem dX12_show_11 : decode cX12_show 11 = .ok (.getfield 20, 3) := by decide +kernel
theorem dX12_show_14 : decode cX12_show 14 = .ok (.aload_n 0, 1) := by decide +kernel
theorem dX12_show_15 : decode cX12_show 15 = .ok (.getfield 301, 3) := by decide +kernel
theorem dX12_show_18 : decode cX12_show 18 = .ok (.iaload, 1) := by decide +kernel
theorem dX12_show_19 : decode cX12_show 19 = .ok (.putfield 414, 3) := by decide +kernel
theorem dX12_show_22 : decode cX12_show 22 = .ok (.iload_n 1, 1) := by decide +kernel
theorem dX12_show_23 : decode cX12_show 23 = .ok (.ifCond .ne 10, 3) := by decide +kernel
theorem dX12_show_26 : decode cX12_show 26 = .ok (.aload_n 0, 1) := by decide +kernel
theorem dX12_show_27 : decode cX12_show 27 = .ok (.getfield 487, 3) := by decide +kernel
theorem dX12_show_30 : decode cX12_show 30 = .ok (.goto 7, 3) := by decide +kernel
theorem dX12_show_33 : decode cX12_show 33 = .ok (.aload_n 0, 1) := by decide +kernel
theorem dX12_show_34 : decode cX12_show 34 = .ok (.getfield 481, 3) := by decide +kernel
theorem dX12_show_37 : decode cX12_show 37 = .ok (.ireturn, 1) := by decide +kernel
abbrev mi_X12_show : MI := (zTM, RX12, yX12_show, cX12_show, 2, (some .int), 3)
theorem cal_X12_show : zCalV mi_X12_show 1 := ⟨⟨zTB_i8 203 (by decide +kernel), zTB_i8 202 (by decide +kernel), zTB_i0 101 (by decide +kernel), zTB_i1 13 (by decide +kernel)⟩, ⟨by decide, by decide, by decide +kernel⟩, by decide⟩
noncomputable def X12_show (x1 : Int32) (M : Mem) : Option (Int32 × Mem) :=
  bo_ (X12_showRow 36 0 M) fun M1 =>
  gd_ (inb (M1.1 0 41) (2) = true) (
  lt_ (uI M1 0 55 (M1.1 3 ((M1.1 0 41).toNatClampNeg))) fun M3 =>
  if x1 = 0 then
    some (M3.1 0 57, M3)
  else
  some (M3.1 0 56, M3))
set_option maxRecDepth 100000 in
set_option maxHeartbeats 4000000 in
theorem X12_show_ok (G : Gh) (x1 : Int32) (M : Mem) : Mt G mi_X12_show [.ref (G.2.2.2 (0)), .int x1] M ((dO dIM) (X12_show x1 M)) := by
  refine Mt_of (lv := [some (.ref (G.2.2.2 (0))), some (.int x1)]) (by decide) rfl (Nat.le_of_ble_eq_true rfl) rfl ?_
  unfold X12_show
  refine r_aload_n dX12_show_0 rfl ?_
  refine r_aload_n dX12_show_1 rfl ?_
  refine r_getf (v := .ref (G.2.2.2 (36))) dX12_show_2 fM_0_53 kX12 (by decide) lkf_X12_122 rfl ?_
  refine r_iconst (x := 0) dX12_show_5 rfl ?_
  refine c_OV rfl (inv_V (mi := mi_X12_show) (b := 0) (rest := []) (X12_showRow_ok G aM_36p 0 M) rfl (by decide) dX12_show_6 lkm_X12_494 cal_X12_showRow cM_0 rfl rfl (Nat.le_of_ble_eq_true rfl) rfl) (fun M1 => ?_)
  refine r_aload_n dX12_show_9 rfl ?_
  refine r_aload_n dX12_show_10 rfl ?_
  refine r_getf (v := .ref (G.2.2.2 (3))) dX12_show_11 fM_0_11 kX12 (by decide) lkf_X12_20 rfl ?_
  refine r_aload_n dX12_show_14 rfl ?_
  refine r_getf (v := .int (M1.1 0 41)) dX12_show_15 fM_0_41 kX12 (by decide) lkf_X12_301 rfl ?_
  refine r_gd rfl (fun g2 => ?_)
  refine r_iald dX12_show_18 aM_3 (inb_in g2) rfl ?_
  refine r_putI dX12_show_19 fM_0_55 kX12 (by decide) rfl rfl lkf_X12_414 (fun _ => rfl) rfl rfl (fun M3 => ?_)
  refine r_iload_n dX12_show_22 rfl ?_
  refine r_if_ne (tgt := 33) dX12_show_23 rfl (fun h4 => ?_) (fun h4 => ?_)
  · refine r_aload_n dX12_show_26 rfl ?_
    refine r_getf (v := .int (M3.1 0 57)) dX12_show_27 fM_0_57 kX12 (by decide) lkf_X12_487 rfl ?_
    refine r_goto (tgt := 37) dX12_show_30 rfl ?_
    exact r_iret (ty := .int) dX12_show_37 rfl rfl rfl
  refine r_aload_n dX12_show_33 rfl ?_
  refine r_getf (v := .int (M3.1 0 56)) dX12_show_34 fM_0_56 kX12 (by decide) lkf_X12_481 rfl ?_
  exact r_iret (ty := .int) dX12_show_37 rfl rfl rfl

theorem dX12_best_0 : decode cX12_best 0 = .ok (.aload_n 0, 1) := by decide +kernel
theorem dX12_best_1 : decode cX12_best 1 = .ok (.iconst 0, 1) := by decide +kernel
theorem dX12_best_2 : decode cX12_best 2 = .ok (.putfield 414, 3) := by decide +kernel
theorem dX12_best_5 : decode cX12_best 5 = .ok (.aload_n 0, 1) := by decide +kernel
theorem dX12_best_6 : decode cX12_best 6 = .ok (.iload_n 1, 1) := by decide +kernel
theorem dX12_best_7 : decode cX12_best 7 = .ok (.invokevirtual 426, 3) := by decide +kernel
theorem dX12_best_10 : decode cX12_best 10 = .ok (.ifCond .eq 12, 3) := by decide +kernel
theorem dX12_best_13 : decode cX12_best 13 = .ok (.iload_n 2, 1) := by decide +kernel
theorem dX12_best_14 : decode cX12_best 14 = .ok (.iconst 0, 1) := by decide +kernel
theorem dX12_best_15 : decode cX12_best 15 = .ok (.iconst 1, 1) := by decide +kernel
theorem dX12_best_16 : decode cX12_best 16 = .ok (.invokestatic 401, 3) := by decide +kernel
theorem dX12_best_19 : decode cX12_best 19 = .ok (.ifCond .ne 7, 3) := by decide +kernel
theorem dX12_best_22 : decode cX12_best 22 = .ok (.ldc_w 429, 3) := by decide +kernel
theorem dX12_best_25 : decode cX12_best 25 = .ok (.ireturn, 1) := by decide +kernel
theorem dX12_best_26 : decode cX12_best 26 = .ok (.aload_n 0, 1) := by decide +kernel
theorem dX12_best_27 : decode cX12_best 27 = .ok (.iload_n 1, 1) := by decide +kernel
theorem dX12_best_28 : decode cX12_best 28 = .ok (.iconst 0, 1) := by decide +kernel
theorem dX12_best_29 : decode cX12_best 29 = .ok (.invokevirtual 498, 3) := by decide +kernel
theorem dX12_best_32 : decode cX12_best 32 = .ok (.aload_n 0, 1) := by decide +kernel
theorem dX12_best_33 : decode cX12_best 33 = .ok (.iload_n 2, 1) := by decide +kernel
theorem dX12_best_34 : decode cX12_best 34 = .ok (.invokevirtual 501, 3) := by decide +kernel
theorem dX12_best_37 : decode cX12_best 37 = .ok (.ireturn, 1) := by decide +kernel
abbrev mi_X12_best : MI := (zTM, RX12, yX12_best, cX12_best, 3, (some .int), 8)
theorem cal_X12_best : zCalV mi_X12_best 2 := ⟨⟨zTB_i8 179 (by decide +kernel), zTB_i8 177 (by decide +kernel), zTB_i8 178 (by decide +kernel), zTB_i1 13 (by decide +kernel)⟩, ⟨by decide, by decide, by decide +kernel⟩, by decide⟩
noncomputable def X12_best (x1 : Int32) (x2 : Int32) (M : Mem) : Option (Int32 × Mem) :=
  lt_ (uI M 0 55 0) fun M1 =>
  bo_ (X12_isMan x1 M1) fun b2 =>
  if b2 = true then
    if (X12_isIn x2 0 1) = true then
      bo_ (X12_layBest x1 0 M1) fun M5 =>
      bp_ (X12_show x2 M5) fun v6 M7 =>
      some (v6, M7)
    else
    some ((-1000000), M1)
  else
  some ((-1000000), M1)
set_option maxRecDepth 100000 in
set_option maxHeartbeats 4000000 in
theorem X12_best_ok (G : Gh) (x1 : Int32) (x2 : Int32) (M : Mem) : Mt G mi_X12_best [.ref (G.2.2.2 (0)), .int x1, .int x2] M ((dO dIM) (X12_best x1 x2 M)) := by
  refine Mt_of (lv := [some (.ref (G.2.2.2 (0))), some (.int x1), some (.int x2)]) (by decide) rfl (Nat.le_of_ble_eq_true rfl) rfl ?_
  unfold X12_best
  refine r_aload_n dX12_best_0 rfl ?_
  refine r_iconst (x := 0) dX12_best_1 rfl ?_
  refine r_putI dX12_best_2 fM_0_55 kX12 (by decide) rfl rfl lkf_X12_414 (fun _ => rfl) rfl rfl (fun M1 => ?_)
  refine r_aload_n dX12_best_5 rfl ?_
  refine r_iload_n dX12_best_6 rfl ?_
  refine c_OZ rfl (inv_V (mi := mi_X12_best) (b := 0) (rest := []) (X12_isMan_ok G x1 M1) rfl (by decide) dX12_best_7 lkm_X12_426 cal_X12_isMan cM_0 rfl rfl (Nat.le_of_ble_eq_true rfl) rfl) (fun b2 => ?_)
  refine r_ifz_eq (tgt := 22) dX12_best_10 rfl (fun h3 => ?_) (fun h3 => ?_)
  · refine r_iload_n dX12_best_13 rfl ?_
    refine r_iconst (x := 0) dX12_best_14 rfl ?_
    refine r_iconst (x := 1) dX12_best_15 rfl ?_
    refine c_Z (inv_S (mi := mi_X12_best) (rest := []) (X12_isIn_ok G x2 0 1 M1) rfl (by decide) dX12_best_16 lkm_X12_401 cal_X12_isIn rfl (Nat.le_of_ble_eq_true rfl) rfl) ?_
    refine r_ifz_ne (tgt := 26) dX12_best_19 rfl (fun h4 => ?_) (fun h4 => ?_)
    · refine r_aload_n dX12_best_26 rfl ?_
      refine r_iload_n dX12_best_27 rfl ?_
      refine r_iconst (x := 0) dX12_best_28 rfl ?_
      refine c_OV rfl (inv_V (mi := mi_X12_best) (b := 0) (rest := []) (X12_layBest_ok G x1 0 M1) rfl (by decide) dX12_best_29 lkm_X12_498 cal_X12_layBest cM_0 rfl rfl (Nat.le_of_ble_eq_true rfl) rfl) (fun M5 => ?_)
      refine r_aload_n dX12_best_32 rfl ?_
      refine r_iload_n dX12_best_33 rfl ?_
      refine c_OIM rfl (inv_V (mi := mi_X12_best) (b := 0) (rest := []) (X12_show_ok G x2 M5) rfl (by decide) dX12_best_34 lkm_X12_501 cal_X12_show cM_0 rfl rfl (Nat.le_of_ble_eq_true rfl) rfl) (fun v6 M7 => ?_)
      exact r_iret (ty := .int) dX12_best_37 rfl rfl rfl
    refine r_ldcwI (x := (-1000000)) dX12_best_22 lkc_X12_429 ?_
    exact r_iret (ty := .int) dX12_best_25 rfl rfl rfl
  refine r_ldcwI (x := (-1000000)) dX12_best_22 lkc_X12_429 ?_
  exact r_iret (ty := .int) dX12_best_25 rfl rfl rfl

theorem dX12_layBestRow_0 : decode cX12_layBestRow 0 = .ok (.iconst 0, 1) := by decide +kernel
theorem dX12_layBestRow_1 : decode cX12_layBestRow 1 = .ok (.istore_n 3, 1) := by decide +kernel
theorem dX12_layBestRow_2 : decode cX12_layBestRow 2 = .ok (.iload_n 3, 1) := by decide +kernel
theorem dX12_layBestRow_3 : decode cX12_layBestRow 3 = .ok (.iconst 3, 1) := by decide +kernel
theorem dX12_layBestRow_4 : decode cX12_layBestRow 4 = .ok (.if_icmp .ge 22, 3) := by decide +kernel
theorem dX12_layBestRow_7 : decode cX12_layBestRow 7 = .ok (.aload_n 0, 1) := by decide +kernel
theorem dX12_layBestRow_8 : decode cX12_layBestRow 8 = .ok (.iload_n 1, 1) := by decide +kernel
theorem dX12_layBestRow_9 : decode cX12_layBestRow 9 = .ok (.iload_n 3, 1) := by decide +kernel
theorem dX12_layBestRow_10 : decode cX12_layBestRow 10 = .ok (.aload_n 0, 1) := by decide +kernel
theorem dX12_layBestRow_11 : decode cX12_layBestRow 11 = .ok (.getfield 122, 3) := by decide +kernel
theorem dX12_layBestRow_14 : decode cX12_layBestRow 14 = .ok (.iload_n 3, 1) := by decide +kernel
theorem dX12_layBestRow_15 : decode cX12_layBestRow 15 = .ok (.iaload, 1) := by decide +kernel
theorem dX12_layBestRow_16 : decode cX12_layBestRow 16 = .ok (.iload_n 2, 1) := by decide +kernel
theorem dX12_layBestRow_17 : decode cX12_layBestRow 17 = .ok (.invokevirtual 448, 3) := by decide +kernel
theorem dX12_layBestRow_20 : decode cX12_layBestRow 20 = .ok (.iinc 3 1, 3) := by decide +kernel
theorem dX12_layBestRow_23 : decode cX12_layBestRow 23 = .ok (.goto (-21), 3) := by decide +kernel
theorem dX12_layBestRow_26 : decode cX12_layBestRow 26 = .ok (.return_, 1) := by decide +kernel
abbrev mi_X12_layBestRow : MI := (zTM, RX12, yX12_layBestRow, cX12_layBestRow, 4, none, 4)
theorem cal_X12_layBestRow : zCalV mi_X12_layBestRow 2 := ⟨⟨zTB_i8 219 (by decide +kernel), zTB_i8 218 (by decide +kernel), zTB_i0 103 (by decide +kernel), zTB_i1 13 (by decide +kernel)⟩, ⟨by decide, by decide, by decide +kernel⟩, by decide⟩
noncomputable def X12_layBestRow_L1 (x1 : Int32) (x2 : Int32) : Nat → Int32 → Mem → Option (Mem)
  | 0, _, _ => none
  | n + 1, c3, M =>
    if 3 ≤ c3 then
      some M
    else
    gd_ (inb c3 (3) = true) (
    bo_ (X12_lay x1 c3 (M.1 36 c3.toNatClampNeg) x2 M) fun M3 =>
    X12_layBestRow_L1 x1 x2 n (c3 + 1) M3)
noncomputable def X12_layBestRow (x1 : Int32) (x2 : Int32) (M : Mem) : Option (Mem) :=
  b1_ (α := Mem) (X12_layBestRow_L1 x1 x2 zFU 0 M) fun M4 =>
  some M4
set_option maxRecDepth 100000 in
set_option maxHeartbeats 4000000 in
theorem X12_layBestRow_L1_ok (G : Gh) (x1 : Int32) (x2 : Int32) {dn : Option (Mem) → Option (Option Value × Mem)} (hs : dn none = none) (hx : ∀ (M4 : Mem), Wr G mi_X12_layBestRow dn 26 [none, none, none, none] [] M4 (some M4)) : ∀ (n : Nat) (c3 : Int32) (M : Mem), Wr G mi_X12_layBestRow dn 2 [some (.ref (G.2.2.2 (0))), some (.int x1), some (.int x2), some (.int c3)] [] M (X12_layBestRow_L1 x1 x2 n c3 M) := by
  intro n
  induction n with
  | zero => intro c3 M; exact r_none (by exact hs)
  | succ n ih =>
    intro c3 M
    rw [X12_layBestRow_L1]
    refine r_iload_n dX12_layBestRow_2 rfl ?_
    refine r_iconst (x := 3) dX12_layBestRow_3 rfl ?_
    refine r_icmp_ge (tgt := 26) dX12_layBestRow_4 rfl (fun h1 => ?_) (fun h1 => ?_)
    · exact r_lk (hx M) True.intro
    refine r_aload_n dX12_layBestRow_7 rfl ?_
    refine r_iload_n dX12_layBestRow_8 rfl ?_
    refine r_iload_n dX12_layBestRow_9 rfl ?_
    refine r_aload_n dX12_layBestRow_10 rfl ?_
    refine r_getf (v := .ref (G.2.2.2 (36))) dX12_layBestRow_11 fM_0_53 kX12 (by decide) lkf_X12_122 rfl ?_
    refine r_iload_n dX12_layBestRow_14 rfl ?_
    refine r_gd (by exact hs) (fun g2 => ?_)
    refine r_iald dX12_layBestRow_15 aM_36 (inb_in g2) rfl ?_
    refine r_iload_n dX12_layBestRow_16 rfl ?_
    refine c_OV (by exact hs) (inv_V (mi := mi_X12_layBestRow) (b := 0) (rest := []) (X12_lay_ok G x1 c3 (M.1 36 c3.toNatClampNeg) x2 M) rfl (by decide) dX12_layBestRow_17 lkm_X12_448 cal_X12_lay cM_0 rfl rfl (Nat.le_of_ble_eq_true rfl) rfl) (fun M3 => ?_)
    refine r_iinc (y := c3 + 1) (lv' := [some (.ref (G.2.2.2 (0))), some (.int x1), some (.int x2), some (.int (c3 + 1))]) dX12_layBestRow_20 rfl rfl (Nat.le_of_ble_eq_true rfl) rfl rfl ?_
    refine r_goto (tgt := 2) dX12_layBestRow_23 rfl ?_
    exact r_lk (ih (c3 + 1) M3) (And.intro rfl (And.intro rfl (And.intro rfl (And.intro rfl True.intro))))
set_option maxRecDepth 100000 in
set_option maxHeartbeats 4000000 in
theorem X12_layBestRow_ok (G : Gh) (x1 : Int32) (x2 : Int32) (M : Mem) : Mt G mi_X12_layBestRow [.ref (G.2.2.2 (0)), .int x1, .int x2] M ((dO dV) (X12_layBestRow x1 x2 M)) := by
  refine Mt_of (lv := [some (.ref (G.2.2.2 (0))), some (.int x1), some (.int x2)]) (by decide) rfl (Nat.le_of_ble_eq_true rfl) rfl ?_
  refine r_le (lv' := [some (.ref (G.2.2.2 (0))), some (.int x1), some (.int x2), none]) (And.intro rfl (And.intro rfl (And.intro rfl True.intro))) ?_
  unfold X12_layBestRow
  refine r_iconst (x := 0) dX12_layBestRow_0 rfl ?_
  refine r_istore_n (lv' := [some (.ref (G.2.2.2 (0))), some (.int x1), some (.int x2), some (.int 0)]) dX12_layBestRow_1 (Nat.le_of_ble_eq_true rfl) rfl rfl ?_
  refine r_jB1 (j := 26) (lvj := fun M4 => [none, none, none, none]) (stj := fun M4 => []) (Mj := fun M4 => M4) (fun M4 => ?_) (fun hj26 => ?_)
  · exact r_vret dX12_layBestRow_26 rfl rfl
  exact r_lk (X12_layBestRow_L1_ok G x1 x2 rfl hj26 zFU 0 M) (And.intro rfl (And.intro rfl (And.intro rfl (And.intro rfl True.intro))))

theorem dX12_leaks_0 : decode cX12_leaks 0 = .ok (.aload_n 0, 1) := by decide +kernel
theorem dX12_leaks_1 : decode cX12_leaks 1 = .ok (.iload_n 1, 1) := by decide +kernel
theorem dX12_leaks_2 : decode cX12_leaks 2 = .ok (.invokevirtual 426, 3) := by decide +kernel
theorem dX12_leaks_5 : decode cX12_leaks 5 = .ok (.ifCond .ne 7, 3) := by decide +kernel
theorem dX12_leaks_8 : decode cX12_leaks 8 = .ok (.ldc_w 429, 3) := by decide +kernel
theorem dX12_leaks_11 : decode cX12_leaks 11 = .ok (.ireturn, 1) := by decide +kernel
theorem dX12_leaks_12 : decode cX12_leaks 12 = .ok (.aload_n 0, 1) := by decide +kernel
theorem dX12_leaks_13 : decode cX12_leaks 13 = .ok (.iload_n 1, 1) := by decide +kernel
theorem dX12_leaks_14 : decode cX12_leaks 14 = .ok (.iconst 0, 1) := by decide +kernel
theorem dX12_leaks_15 : decode cX12_leaks 15 = .ok (.invokevirtual 498, 3) := by decide +kernel
theorem dX12_leaks_18 : decode cX12_leaks 18 = .ok (.aload_n 0, 1) := by decide +kernel
theorem dX12_leaks_19 : decode cX12_leaks 19 = .ok (.invokevirtual 466, 3) := by decide +kernel
theorem dX12_leaks_22 : decode cX12_leaks 22 = .ok (.aload_n 0, 1) := by decide +kernel
theorem dX12_leaks_23 : decode cX12_leaks 23 = .ok (.iload_n 1, 1) := by decide +kernel
theorem dX12_leaks_24 : decode cX12_leaks 24 = .ok (.invokevirtual 420, 3) := by decide +kernel
theorem dX12_leaks_27 : decode cX12_leaks 27 = .ok (.isub, 1) := by decide +kernel
theorem dX12_leaks_28 : decode cX12_leaks 28 = .ok (.istore_n 2, 1) := by decide +kernel
theorem dX12_leaks_29 : decode cX12_leaks 29 = .ok (.aload_n 0, 1) := by decide +kernel
theorem dX12_leaks_30 : decode cX12_leaks 30 = .ok (.iload_n 1, 1) := by decide +kernel
theorem dX12_leaks_31 : decode cX12_leaks 31 = .ok (.iconst 1, 1) := by decide +kernel
theorem dX12_leaks_32 : decode cX12_leaks 32 = .ok (.invokevirtual 504, 3) := by decide +kernel
theorem dX12_leaks_35 : decode cX12_leaks 35 = .ok (.aload_n 0, 1) := by decide +kernel
theorem dX12_leaks_36 : decode cX12_leaks 36 = .ok (.invokevirtual 466, 3) := by decide +kernel
theorem dX12_leaks_39 : decode cX12_leaks 39 = .ok (.aload_n 0, 1) := by decide +kernel
theorem dX12_leaks_40 : decode cX12_leaks 40 = .ok (.iload_n 1, 1) := by decide +kernel
theorem dX12_leaks_41 : decode cX12_leaks 41 = .ok (.invokevirtual 420, 3) := by decide +kernel
theorem dX12_leaks_44 : decode cX12_leaks 44 = .ok (.isub, 1) := by decide +kernel
theorem dX12_leaks_45 : decode cX12_leaks 45 = .ok (.istore_n 3, 1) := by decide +kernel
theorem dX12_leaks_46 : decode cX12_leaks 46 = .ok (.aload_n 0, 1) := by decide +kernel
theorem dX12_leaks_47 : decode cX12_leaks 47 = .ok (.iload_n 1, 1) := by decide +kernel
theorem dX12_leaks_48 : decode cX12_leaks 48 = .ok (.iconst (-1), 1) := by decide +kernel
theorem dX12_leaks_49 : decode cX12_leaks 49 = .ok (.invokevirtual 504, 3) := by decide +kernel
theorem dX12_leaks_52 : decode cX12_leaks 52 = .ok (.iload_n 3, 1) := by decide +kernel
theorem dX12_leaks_53 : decode cX12_leaks 53 = .ok (.iload_n 2, 1) := by decide +kernel
theorem dX12_leaks_54 : decode cX12_leaks 54 = .ok (.isub, 1) := by decide +kernel
theorem dX12_leaks_55 : decode cX12_leaks 55 = .ok (.ireturn, 1) := by decide +kernel
abbrev mi_X12_leaks : MI := (zTM, RX12, yX12_leaks, cX12_leaks, 4, (some .int), 8)
theorem cal_X12_leaks : zCalV mi_X12_leaks 1 := ⟨⟨zTB_i8 215 (by decide +kernel), zTB_i8 213 (by decide +kernel), zTB_i8 214 (by decide +kernel), zTB_i1 13 (by decide +kernel)⟩, ⟨by decide, by decide, by decide +kernel⟩, by decide⟩
noncomputable def X12_leaks (x1 : Int32) (M : Mem) : Option (Int32 × Mem) :=
  bo_ (X12_isMan x1 M) fun b1 =>
  if b1 = true then
    bo_ (X12_layBest x1 0 M) fun M3 =>
    bp_ (X12_growths M3) fun v4 M5 =>
    bp_ (X12_growthOf x1 M5) fun v6 M7 =>
    bo_ (X12_layBestRow x1 1 M7) fun M8 =>
    bp_ (X12_growths M8) fun v9 M10 =>
    bp_ (X12_growthOf x1 M10) fun v11 M12 =>
    bo_ (X12_layBestRow x1 (-1) M12) fun M13 =>
    some ((v9 - v11) - (v4 - v6), M13)
  else
  some ((-1000000), M)
set_option maxRecDepth 100000 in
set_option maxHeartbeats 4000000 in
theorem X12_leaks_ok (G : Gh) (x1 : Int32) (M : Mem) : Mt G mi_X12_leaks [.ref (G.2.2.2 (0)), .int x1] M ((dO dIM) (X12_leaks x1 M)) := by
  refine Mt_of (lv := [some (.ref (G.2.2.2 (0))), some (.int x1)]) (by decide) rfl (Nat.le_of_ble_eq_true rfl) rfl ?_
  refine r_le (lv' := [some (.ref (G.2.2.2 (0))), some (.int x1), none, none]) (And.intro rfl (And.intro rfl True.intro)) ?_
  unfold X12_leaks
  refine r_aload_n dX12_leaks_0 rfl ?_
  refine r_iload_n dX12_leaks_1 rfl ?_
  refine c_OZ rfl (inv_V (mi := mi_X12_leaks) (b := 0) (rest := []) (X12_isMan_ok G x1 M) rfl (by decide) dX12_leaks_2 lkm_X12_426 cal_X12_isMan cM_0 rfl rfl (Nat.le_of_ble_eq_true rfl) rfl) (fun b1 => ?_)
  refine r_ifz_ne (tgt := 12) dX12_leaks_5 rfl (fun h2 => ?_) (fun h2 => ?_)
  · refine r_aload_n dX12_leaks_12 rfl ?_
    refine r_iload_n dX12_leaks_13 rfl ?_
    refine r_iconst (x := 0) dX12_leaks_14 rfl ?_
    refine c_OV rfl (inv_V (mi := mi_X12_leaks) (b := 0) (rest := []) (X12_layBest_ok G x1 0 M) rfl (by decide) dX12_leaks_15 lkm_X12_498 cal_X12_layBest cM_0 rfl rfl (Nat.le_of_ble_eq_true rfl) rfl) (fun M3 => ?_)
    refine r_aload_n dX12_leaks_18 rfl ?_
    refine c_OIM rfl (inv_V (mi := mi_X12_leaks) (b := 0) (rest := []) (X12_growths_ok G M3) rfl (by decide) dX12_leaks_19 lkm_X12_466 cal_X12_growths cM_0 rfl rfl (Nat.le_of_ble_eq_true rfl) rfl) (fun v4 M5 => ?_)
    refine r_aload_n dX12_leaks_22 rfl ?_
    refine r_iload_n dX12_leaks_23 rfl ?_
    refine c_OIM rfl (inv_V (mi := mi_X12_leaks) (b := 0) (rest := [.int v4]) (X12_growthOf_ok G x1 M5) rfl (by decide) dX12_leaks_24 lkm_X12_420 cal_X12_growthOf cM_0 rfl rfl (Nat.le_of_ble_eq_true rfl) rfl) (fun v6 M7 => ?_)
    refine r_isub dX12_leaks_27 ?_
    refine r_istore_n (lv' := [some (.ref (G.2.2.2 (0))), some (.int x1), some (.int (v4 - v6)), none]) dX12_leaks_28 (Nat.le_of_ble_eq_true rfl) rfl rfl ?_
    refine r_aload_n dX12_leaks_29 rfl ?_
    refine r_iload_n dX12_leaks_30 rfl ?_
    refine r_iconst (x := 1) dX12_leaks_31 rfl ?_
    refine c_OV rfl (inv_V (mi := mi_X12_leaks) (b := 0) (rest := []) (X12_layBestRow_ok G x1 1 M7) rfl (by decide) dX12_leaks_32 lkm_X12_504 cal_X12_layBestRow cM_0 rfl rfl (Nat.le_of_ble_eq_true rfl) rfl) (fun M8 => ?_)
    refine r_aload_n dX12_leaks_35 rfl ?_
    refine c_OIM rfl (inv_V (mi := mi_X12_leaks) (b := 0) (rest := []) (X12_growths_ok G M8) rfl (by decide) dX12_leaks_36 lkm_X12_466 cal_X12_growths cM_0 rfl rfl (Nat.le_of_ble_eq_true rfl) rfl) (fun v9 M10 => ?_)
    refine r_aload_n dX12_leaks_39 rfl ?_
    refine r_iload_n dX12_leaks_40 rfl ?_
    refine c_OIM rfl (inv_V (mi := mi_X12_leaks) (b := 0) (rest := [.int v9]) (X12_growthOf_ok G x1 M10) rfl (by decide) dX12_leaks_41 lkm_X12_420 cal_X12_growthOf cM_0 rfl rfl (Nat.le_of_ble_eq_true rfl) rfl) (fun v11 M12 => ?_)
    refine r_isub dX12_leaks_44 ?_
    refine r_istore_n (lv' := [some (.ref (G.2.2.2 (0))), some (.int x1), some (.int (v4 - v6)), some (.int (v9 - v11))]) dX12_leaks_45 (Nat.le_of_ble_eq_true rfl) rfl rfl ?_
    refine r_aload_n dX12_leaks_46 rfl ?_
    refine r_iload_n dX12_leaks_47 rfl ?_
    refine r_iconst (x := (-1)) dX12_leaks_48 rfl ?_
    refine c_OV rfl (inv_V (mi := mi_X12_leaks) (b := 0) (rest := []) (X12_layBestRow_ok G x1 (-1) M12) rfl (by decide) dX12_leaks_49 lkm_X12_504 cal_X12_layBestRow cM_0 rfl rfl (Nat.le_of_ble_eq_true rfl) rfl) (fun M13 => ?_)
    refine r_iload_n dX12_leaks_52 rfl ?_
    refine r_iload_n dX12_leaks_53 rfl ?_
    refine r_isub dX12_leaks_54 ?_
    exact r_iret (ty := .int) dX12_leaks_55 rfl rfl rfl
  refine r_ldcwI (x := (-1000000)) dX12_leaks_8 lkc_X12_429 ?_
  exact r_iret (ty := .int) dX12_leaks_11 rfl rfl rfl

theorem dX12_good_0 : decode cX12_good 0 = .ok (.aload_n 0, 1) := by decide +kernel
theorem dX12_good_1 : decode cX12_good 1 = .ok (.iconst 0, 1) := by decide +kernel
theorem dX12_good_2 : decode cX12_good 2 = .ok (.putfield 414, 3) := by decide +kernel
theorem dX12_good_5 : decode cX12_good 5 = .ok (.aload_n 0, 1) := by decide +kernel
theorem dX12_good_6 : decode cX12_good 6 = .ok (.iload_n 1, 1) := by decide +kernel
theorem dX12_good_7 : decode cX12_good 7 = .ok (.invokevirtual 426, 3) := by decide +kernel
theorem dX12_good_10 : decode cX12_good 10 = .ok (.ifCond .eq 12, 3) := by decide +kernel
theorem dX12_good_13 : decode cX12_good 13 = .ok (.iload_n 2, 1) := by decide +kernel
theorem dX12_good_14 : decode cX12_good 14 = .ok (.iconst 0, 1) := by decide +kernel
theorem dX12_good_15 : decode cX12_good 15 = .ok (.iconst 1, 1) := by decide +kernel
theorem dX12_good_16 : decode cX12_good 16 = .ok (.invokestatic 401, 3) := by decide +kernel
theorem dX12_good_19 : decode cX12_good 19 = .ok (.ifCond .ne 7, 3) := by decide +kernel
theorem dX12_good_22 : decode cX12_good 22 = .ok (.ldc_w 429, 3) := by decide +kernel
theorem dX12_good_25 : decode cX12_good 25 = .ok (.ireturn, 1) := by decide +kernel
theorem dX12_good_26 : decode cX12_good 26 = .ok (.aload_n 0, 1) := by decide +kernel
theorem dX12_good_27 : decode cX12_good 27 = .ok (.iload_n 1, 1) := by decide +kernel
theorem dX12_good_28 : decode cX12_good 28 = .ok (.iconst 1, 1) := by decide +kernel
theorem dX12_good_29 : decode cX12_good 29 = .ok (.invokevirtual 498, 3) := by decide +kernel
theorem dX12_good_32 : decode cX12_good 32 = .ok (.aload_n 0, 1) := by decide +kernel
theorem dX12_good_33 : decode cX12_good 33 = .ok (.iload_n 2, 1) := by decide +kernel
theorem dX12_good_34 : decode cX12_good 34 = .ok (.invokevirtual 501, 3) := by decide +kernel
theorem dX12_good_37 : decode cX12_good 37 = .ok (.ireturn, 1) := by decide +kernel
abbrev mi_X12_good : MI := (zTM, RX12, yX12_good, cX12_good, 3, (some .int), 8)
theorem cal_X12_good : zCalV mi_X12_good 2 := ⟨⟨zTB_i8 211 (by decide +kernel), zTB_i8 209 (by decide +kernel), zTB_i8 210 (by decide +kernel), zTB_i1 13 (by decide +kernel)⟩, ⟨by decide, by decide, by decide +kernel⟩, by decide⟩
noncomputable def X12_good (x1 : Int32) (x2 : Int32) (M : Mem) : Option (Int32 × Mem) :=
  lt_ (uI M 0 55 0) fun M1 =>
  bo_ (X12_isMan x1 M1) fun b2 =>
  if b2 = true then
    if (X12_isIn x2 0 1) = true then
      bo_ (X12_layBest x1 1 M1) fun M5 =>
      bp_ (X12_show x2 M5) fun v6 M7 =>
      some (v6, M7)
    else
    some ((-1000000), M1)
  else
  some ((-1000000), M1)
set_option maxRecDepth 100000 in
set_option maxHeartbeats 4000000 in
theorem X12_good_ok (G : Gh) (x1 : Int32) (x2 : Int32) (M : Mem) : Mt G mi_X12_good [.ref (G.2.2.2 (0)), .int x1, .int x2] M ((dO dIM) (X12_good x1 x2 M)) := by
  refine Mt_of (lv := [some (.ref (G.2.2.2 (0))), some (.int x1), some (.int x2)]) (by decide) rfl (Nat.le_of_ble_eq_true rfl) rfl ?_
  unfold X12_good
  refine r_aload_n dX12_good_0 rfl ?_
  refine r_iconst (x := 0) dX12_good_1 rfl ?_
  refine r_putI dX12_good_2 fM_0_55 kX12 (by decide) rfl rfl lkf_X12_414 (fun _ => rfl) rfl rfl (fun M1 => ?_)
  refine r_aload_n dX12_good_5 rfl ?_
  refine r_iload_n dX12_good_6 rfl ?_
  refine c_OZ rfl (inv_V (mi := mi_X12_good) (b := 0) (rest := []) (X12_isMan_ok G x1 M1) rfl (by decide) dX12_good_7 lkm_X12_426 cal_X12_isMan cM_0 rfl rfl (Nat.le_of_ble_eq_true rfl) rfl) (fun b2 => ?_)
  refine r_ifz_eq (tgt := 22) dX12_good_10 rfl (fun h3 => ?_) (fun h3 => ?_)
  · refine r_iload_n dX12_good_13 rfl ?_
    refine r_iconst (x := 0) dX12_good_14 rfl ?_
    refine r_iconst (x := 1) dX12_good_15 rfl ?_
    refine c_Z (inv_S (mi := mi_X12_good) (rest := []) (X12_isIn_ok G x2 0 1 M1) rfl (by decide) dX12_good_16 lkm_X12_401 cal_X12_isIn rfl (Nat.le_of_ble_eq_true rfl) rfl) ?_
    refine r_ifz_ne (tgt := 26) dX12_good_19 rfl (fun h4 => ?_) (fun h4 => ?_)
    · refine r_aload_n dX12_good_26 rfl ?_
      refine r_iload_n dX12_good_27 rfl ?_
      refine r_iconst (x := 1) dX12_good_28 rfl ?_
      refine c_OV rfl (inv_V (mi := mi_X12_good) (b := 0) (rest := []) (X12_layBest_ok G x1 1 M1) rfl (by decide) dX12_good_29 lkm_X12_498 cal_X12_layBest cM_0 rfl rfl (Nat.le_of_ble_eq_true rfl) rfl) (fun M5 => ?_)
      refine r_aload_n dX12_good_32 rfl ?_
      refine r_iload_n dX12_good_33 rfl ?_
      refine c_OIM rfl (inv_V (mi := mi_X12_good) (b := 0) (rest := []) (X12_show_ok G x2 M5) rfl (by decide) dX12_good_34 lkm_X12_501 cal_X12_show cM_0 rfl rfl (Nat.le_of_ble_eq_true rfl) rfl) (fun v6 M7 => ?_)
      exact r_iret (ty := .int) dX12_good_37 rfl rfl rfl
    refine r_ldcwI (x := (-1000000)) dX12_good_22 lkc_X12_429 ?_
    exact r_iret (ty := .int) dX12_good_25 rfl rfl rfl
  refine r_ldcwI (x := (-1000000)) dX12_good_22 lkc_X12_429 ?_
  exact r_iret (ty := .int) dX12_good_25 rfl rfl rfl

theorem dX12_needs_0 : decode cX12_needs 0 = .ok (.aload_n 0, 1) := by decide +kernel
theorem dX12_needs_1 : decode cX12_needs 1 = .ok (.iconst 0, 1) := by decide +kernel
theorem dX12_needs_2 : decode cX12_needs 2 = .ok (.putfield 414, 3) := by decide +kernel
theorem dX12_needs_5 : decode cX12_needs 5 = .ok (.aload_n 0, 1) := by decide +kernel
theorem dX12_needs_6 : decode cX12_needs 6 = .ok (.iload_n 1, 1) := by decide +kernel
theorem dX12_needs_7 : decode cX12_needs 7 = .ok (.invokevirtual 426, 3) := by decide +kernel
theorem dX12_needs_10 : decode cX12_needs 10 = .ok (.ifCond .eq 14, 3) := by decide +kernel
theorem dX12_needs_13 : decode cX12_needs 13 = .ok (.iload_n 2, 1) := by decide +kernel
theorem dX12_needs_14 : decode cX12_needs 14 = .ok (.bipush (-20), 2) := by decide +kernel
theorem dX12_needs_16 : decode cX12_needs 16 = .ok (.bipush 20, 2) := by decide +kernel
theorem dX12_needs_18 : decode cX12_needs 18 = .ok (.invokestatic 401, 3) := by decide +kernel
theorem dX12_needs_21 : decode cX12_needs 21 = .ok (.ifCond .ne 5, 3) := by decide +kernel
theorem dX12_needs_24 : decode cX12_needs 24 = .ok (.iconst (-1), 1) := by decide +kernel
theorem dX12_needs_25 : decode cX12_needs 25 = .ok (.ireturn, 1) := by decide +kernel
theorem dX12_needs_26 : decode cX12_needs 26 = .ok (.aload_n 0, 1) := by decide +kernel
theorem dX12_needs_27 : decode cX12_needs 27 = .ok (.iload_n 1, 1) := by decide +kernel
theorem dX12_needs_28 : decode cX12_needs 28 = .ok (.invokevirtual 475, 3) := by decide +kernel
theorem dX12_needs_31 : decode cX12_needs 31 = .ok (.aload_n 0, 1) := by decide +kernel
theorem dX12_needs_32 : decode cX12_needs 32 = .ok (.invokevirtual 478, 3) := by decide +kernel
theorem dX12_needs_35 : decode cX12_needs 35 = .ok (.iconst 1, 1) := by decide +kernel
theorem dX12_needs_36 : decode cX12_needs 36 = .ok (.istore_n 3, 1) := by decide +kernel
theorem dX12_needs_37 : decode cX12_needs 37 = .ok (.iconst (-1), 1) := by decide +kernel
theorem dX12_needs_38 : decode cX12_needs 38 = .ok (.istore 4, 2) := by decide +kernel
theorem dX12_needs_40 : decode cX12_needs 40 = .ok (.iload_n 3, 1) := by decide +kernel
theorem dX12_needs_41 : decode cX12_needs 41 = .ok (.ifCond .eq 113, 3) := by decide +kernel
theorem dX12_needs_44 : decode cX12_needs 44 = .ok (.aload_n 0, 1) := by decide +kernel
theorem dX12_needs_45 : decode cX12_needs 45 = .ok (.iload_n 1, 1) := by decide +kernel
theorem dX12_needs_46 : decode cX12_needs 46 = .ok (.iconst 1, 1) := by decide +kernel
theorem dX12_needs_47 : decode cX12_needs 47 = .ok (.invokevirtual 484, 3) := by decide +kernel
theorem dX12_needs_50 : decode cX12_needs 50 = .ok (.aload_n 0, 1) := by decide +kernel
theorem dX12_needs_51 : decode cX12_needs 51 = .ok (.iload_n 1, 1) := by decide +kernel
theorem dX12_needs_52 : decode cX12_needs 52 = .ok (.invokevirtual 420, 3) := by decide +kernel
theorem dX12_needs_55 : decode cX12_needs 55 = .ok (.iload_n 2, 1) := by decide +kernel
theorem dX12_needs_56 : decode cX12_needs 56 = .ok (.if_icmp .lt 7, 3) := by decide +kernel
theorem dX12_needs_59 : decode cX12_needs 59 = .ok (.iconst 1, 1) := by decide +kernel
theorem dX12_needs_60 : decode cX12_needs 60 = .ok (.goto 4, 3) := by decide +kernel
theorem dX12_needs_63 : decode cX12_needs 63 = .ok (.iconst 0, 1) := by decide +kernel
theorem dX12_needs_64 : decode cX12_needs 64 = .ok (.istore 5, 2) := by decide +kernel
theorem dX12_needs_66 : decode cX12_needs 66 = .ok (.aload_n 0, 1) := by decide +kernel
theorem dX12_needs_67 : decode cX12_needs 67 = .ok (.iload_n 1, 1) := by decide +kernel
theorem dX12_needs_68 : decode cX12_needs 68 = .ok (.iconst (-1), 1) := by decide +kernel
theorem dX12_needs_69 : decode cX12_needs 69 = .ok (.invokevirtual 484, 3) := by decide +kernel
theorem dX12_needs_72 : decode cX12_needs 72 = .ok (.aload_n 0, 1) := by decide +kernel
theorem dX12_needs_73 : decode cX12_needs 73 = .ok (.getfield 119, 3) := by decide +kernel
theorem dX12_needs_76 : decode cX12_needs 76 = .ok (.iconst 0, 1) := by decide +kernel
theorem dX12_needs_77 : decode cX12_needs 77 = .ok (.iaload, 1) := by decide +kernel
theorem dX12_needs_78 : decode cX12_needs 78 = .ok (.aload_n 0, 1) := by decide +kernel
theorem dX12_needs_79 : decode cX12_needs 79 = .ok (.getfield 119, 3) := by decide +kernel
theorem dX12_needs_82 : decode cX12_needs 82 = .ok (.iconst 1, 1) := by decide +kernel
theorem dX12_needs_83 : decode cX12_needs 83 = .ok (.iaload, 1) := by decide +kernel
theorem dX12_needs_84 : decode cX12_needs 84 = .ok (.iadd, 1) := by decide +kernel
theorem dX12_needs_85 : decode cX12_needs 85 = .ok (.aload_n 0, 1) := by decide +kernel
theorem dX12_needs_86 : decode cX12_needs 86 = .ok (.getfield 119, 3) := by decide +kernel
theorem dX12_needs_89 : decode cX12_needs 89 = .ok (.iconst 2, 1) := by decide +kernel
theorem dX12_needs_90 : decode cX12_needs 90 = .ok (.iaload, 1) := by decide +kernel
theorem dX12_needs_91 : decode cX12_needs 91 = .ok (.iadd, 1) := by decide +kernel
theorem dX12_needs_92 : decode cX12_needs 92 = .ok (.istore 6, 2) := by decide +kernel
theorem dX12_needs_94 : decode cX12_needs 94 = .ok (.iload 5, 2) := by decide +kernel
theorem dX12_needs_96 : decode cX12_needs 96 = .ok (.ifCond .eq 41, 3) := by decide +kernel
theorem dX12_needs_99 : decode cX12_needs 99 = .ok (.iload 4, 2) := by decide +kernel
theorem dX12_needs_101 : decode cX12_needs 101 = .ok (.ifCond .lt 10, 3) := by decide +kernel
theorem dX12_needs_104 : decode cX12_needs 104 = .ok (.iload 6, 2) := by decide +kernel
theorem dX12_needs_106 : decode cX12_needs 106 = .ok (.iload 4, 2) := by decide +kernel
theorem dX12_needs_108 : decode cX12_needs 108 = .ok (.if_icmp .ge 29, 3) := by decide +kernel
theorem dX12_needs_111 : decode cX12_needs 111 = .ok (.iload 6, 2) := by decide +kernel
theorem dX12_needs_113 : decode cX12_needs 113 = .ok (.istore 4, 2) := by decide +kernel
theorem dX12_needs_115 : decode cX12_needs 115 = .ok (.aload_n 0, 1) := by decide +kernel
theorem dX12_needs_116 : decode cX12_needs 116 = .ok (.aload_n 0, 1) := by decide +kernel
theorem dX12_needs_117 : decode cX12_needs 117 = .ok (.getfield 119, 3) := by decide +kernel
theorem dX12_needs_120 : decode cX12_needs 120 = .ok (.iconst 0, 1) := by decide +kernel
theorem dX12_needs_121 : decode cX12_needs 121 = .ok (.invokevirtual 494, 3) := by decide +kernel
theorem dX12_needs_124 : decode cX12_needs 124 = .ok (.aload_n 0, 1) := by decide +kernel
theorem dX12_needs_125 : decode cX12_needs 125 = .ok (.aload_n 0, 1) := by decide +kernel
theorem dX12_needs_126 : decode cX12_needs 126 = .ok (.getfield 20, 3) := by decide +kernel
theorem dX12_needs_129 : decode cX12_needs 129 = .ok (.aload_n 0, 1) := by decide +kernel
theorem dX12_needs_130 : decode cX12_needs 130 = .ok (.getfield 301, 3) := by decide +kernel
theorem dX12_needs_133 : decode cX12_needs 133 = .ok (.iaload, 1) := by decide +kernel
theorem dX12_needs_134 : decode cX12_needs 134 = .ok (.putfield 414, 3) := by decide +kernel
theorem dX12_needs_137 : decode cX12_needs 137 = .ok (.aload_n 0, 1) := by decide +kernel
theorem dX12_needs_138 : decode cX12_needs 138 = .ok (.aload_n 0, 1) := by decide +kernel
theorem dX12_needs_139 : decode cX12_needs 139 = .ok (.getfield 128, 3) := by decide +kernel
theorem dX12_needs_142 : decode cX12_needs 142 = .ok (.aload_n 0, 1) := by decide +kernel
theorem dX12_needs_143 : decode cX12_needs 143 = .ok (.iload_n 1, 1) := by decide +kernel
theorem dX12_needs_144 : decode cX12_needs 144 = .ok (.invokevirtual 442, 3) := by decide +kernel
theorem dX12_needs_147 : decode cX12_needs 147 = .ok (.invokevirtual 490, 3) := by decide +kernel
theorem dX12_needs_150 : decode cX12_needs 150 = .ok (.istore_n 3, 1) := by decide +kernel
theorem dX12_needs_151 : decode cX12_needs 151 = .ok (.goto (-111), 3) := by decide +kernel
theorem dX12_needs_154 : decode cX12_needs 154 = .ok (.iload 4, 2) := by decide +kernel
theorem dX12_needs_156 : decode cX12_needs 156 = .ok (.ireturn, 1) := by decide +kernel
abbrev mi_X12_needs : MI := (zTM, RX12, yX12_needs, cX12_needs, 7, (some .int), 6)
theorem cal_X12_needs : zCalV mi_X12_needs 2 := ⟨⟨zTB_i8 223 (by decide +kernel), zTB_i8 221 (by decide +kernel), zTB_i8 222 (by decide +kernel), zTB_i1 13 (by decide +kernel)⟩, ⟨by decide, by decide, by decide +kernel⟩, by decide⟩
noncomputable def X12_needs_L1 (x1 : Int32) (x2 : Int32) : Nat → Int32 → Int32 → Mem → Option (Int32 × Mem)
  | 0, _, _, _ => none
  | n + 1, c3, c4, M =>
    if c3 = 0 then
      some (c4, M)
    else
    bo_ (X12_layRow x1 1 M) fun M8 =>
    bp_ (X12_growthOf x1 M8) fun v9 M10 =>
    l1_ (α := Int32) (
      if v9 < x2 then
        0
      else
      1) fun y12 =>
    bo_ (X12_layRow x1 (-1) M10) fun M13 =>
    lt_ (α := Int32) (((M13.1 35 0) + (M13.1 35 1)) + (M13.1 35 2)) fun y14 =>
    b2_ (α := Int32) (β := Mem) (
      l1_ (α := Bool) (
        if y12 = 0 then
          false
        else
        if c4 < 0 then
          true
        else
        if c4 ≤ y14 then
          false
        else
        true) fun t18 =>
      if t18 = true then
        bo_ (X12_showRow 35 0 M13) fun M20 =>
        gd_ (inb (M20.1 0 41) (2) = true) (
        lt_ (uI M20 0 55 (M20.1 3 ((M20.1 0 41).toNatClampNeg))) fun M22 =>
        some (y14, M22))
      else
      some (c4, M13)) fun y23 M24 =>
    bo_ (X12_leftOf x1 M24) fun v25 =>
    bp_ (X12_nextRow 38 v25 M24) fun b26 M27 =>
    X12_needs_L1 x1 x2 n (b2i (b26)) y23 M27
noncomputable def X12_needs (x1 : Int32) (x2 : Int32) (M : Mem) : Option (Int32 × Mem) :=
  lt_ (uI M 0 55 0) fun M1 =>
  bo_ (X12_isMan x1 M1) fun b2 =>
  if b2 = true then
    if (X12_isIn x2 (-20) 20) = true then
      bo_ (X12_layMost x1 M1) fun M5 =>
      bo_ (X12_noRow M5) fun M6 =>
      b2_ (α := Int32) (β := Mem) (X12_needs_L1 x1 x2 zFU 1 (-1) M6) fun e28 M29 =>
      some (e28, M29)
    else
    some ((-1), M1)
  else
  some ((-1), M1)
set_option maxRecDepth 100000 in
set_option maxHeartbeats 4000000 in
theorem X12_needs_L1_ok (G : Gh) (x1 : Int32) (x2 : Int32) {dn : Option (Int32 × Mem) → Option (Option Value × Mem)} (hs : dn none = none) (hx : ∀ (e28 : Int32) (M29 : Mem), Wr G mi_X12_needs dn 154 [none, none, none, none, some (.int e28), none, none] [] M29 (some (e28, M29))) : ∀ (n : Nat) (c3 : Int32) (c4 : Int32) (M : Mem), Wr G mi_X12_needs dn 40 [some (.ref (G.2.2.2 (0))), some (.int x1), some (.int x2), some (.int c3), some (.int c4), none, none] [] M (X12_needs_L1 x1 x2 n c3 c4 M) := by
  intro n
  induction n with
  | zero => intro c3 c4 M; exact r_none (by exact hs)
  | succ n ih =>
    intro c3 c4 M
    rw [X12_needs_L1]
    refine r_iload_n dX12_needs_40 rfl ?_
    refine r_if_eq (tgt := 154) dX12_needs_41 rfl (fun h7 => ?_) (fun h7 => ?_)
    · exact r_lk (hx c4 M) (And.intro rfl True.intro)
    refine r_aload_n dX12_needs_44 rfl ?_
    refine r_iload_n dX12_needs_45 rfl ?_
    refine r_iconst (x := 1) dX12_needs_46 rfl ?_
    refine c_OV (by exact hs) (inv_V (mi := mi_X12_needs) (b := 0) (rest := []) (X12_layRow_ok G x1 1 M) rfl (by decide) dX12_needs_47 lkm_X12_484 cal_X12_layRow cM_0 rfl rfl (Nat.le_of_ble_eq_true rfl) rfl) (fun M8 => ?_)
    refine r_aload_n dX12_needs_50 rfl ?_
    refine r_iload_n dX12_needs_51 rfl ?_
    refine c_OIM (by exact hs) (inv_V (mi := mi_X12_needs) (b := 0) (rest := []) (X12_growthOf_ok G x1 M8) rfl (by decide) dX12_needs_52 lkm_X12_420 cal_X12_growthOf cM_0 rfl rfl (Nat.le_of_ble_eq_true rfl) rfl) (fun v9 M10 => ?_)
    refine r_iload_n dX12_needs_55 rfl ?_
    refine r_jL1 (j := 64) (lvj := fun y12 => [some (.ref (G.2.2.2 (0))), some (.int x1), some (.int x2), none, some (.int c4), none, none]) (stj := fun y12 => [.int y12]) (Mj := fun y12 => M10) (fun y12 => ?_) (fun hj64 => ?_)
    · refine r_istore (lv' := [some (.ref (G.2.2.2 (0))), some (.int x1), some (.int x2), none, some (.int c4), some (.int y12), none]) dX12_needs_64 (Nat.le_of_ble_eq_true rfl) rfl rfl ?_
      refine r_aload_n dX12_needs_66 rfl ?_
      refine r_iload_n dX12_needs_67 rfl ?_
      refine r_iconst (x := (-1)) dX12_needs_68 rfl ?_
      refine c_OV (by exact hs) (inv_V (mi := mi_X12_needs) (b := 0) (rest := []) (X12_layRow_ok G x1 (-1) M10) rfl (by decide) dX12_needs_69 lkm_X12_484 cal_X12_layRow cM_0 rfl rfl (Nat.le_of_ble_eq_true rfl) rfl) (fun M13 => ?_)
      refine r_aload_n dX12_needs_72 rfl ?_
      refine r_getf (v := .ref (G.2.2.2 (35))) dX12_needs_73 fM_0_52 kX12 (by decide) lkf_X12_119 rfl ?_
      refine r_iconst (x := 0) dX12_needs_76 rfl ?_
      refine r_iald dX12_needs_77 aM_35 (inb_in (i := 0) (n := 3) rfl) (m := 0) rfl ?_
      refine r_aload_n dX12_needs_78 rfl ?_
      refine r_getf (v := .ref (G.2.2.2 (35))) dX12_needs_79 fM_0_52 kX12 (by decide) lkf_X12_119 rfl ?_
      refine r_iconst (x := 1) dX12_needs_82 rfl ?_
      refine r_iald dX12_needs_83 aM_35 (inb_in (i := 1) (n := 3) rfl) (m := 1) rfl ?_
      refine r_iadd dX12_needs_84 ?_
      refine r_aload_n dX12_needs_85 rfl ?_
      refine r_getf (v := .ref (G.2.2.2 (35))) dX12_needs_86 fM_0_52 kX12 (by decide) lkf_X12_119 rfl ?_
      refine r_iconst (x := 2) dX12_needs_89 rfl ?_
      refine r_iald dX12_needs_90 aM_35 (inb_in (i := 2) (n := 3) rfl) (m := 2) rfl ?_
      refine r_iadd dX12_needs_91 ?_
      refine r_letI (fun y14 => ?_)
      refine r_istore (lv' := [some (.ref (G.2.2.2 (0))), some (.int x1), some (.int x2), none, some (.int c4), some (.int y12), some (.int y14)]) dX12_needs_92 (Nat.le_of_ble_eq_true rfl) rfl rfl ?_
      refine r_iload dX12_needs_94 rfl ?_
      refine r_jB2 (j := 137) (lvj := fun y23 M24 => [some (.ref (G.2.2.2 (0))), some (.int x1), some (.int x2), none, some (.int y23), none, none]) (stj := fun y23 M24 => []) (Mj := fun y23 M24 => M24) (fun y23 M24 => ?_) (fun hj137 => ?_)
      · refine r_aload_n dX12_needs_137 rfl ?_
        refine r_aload_n dX12_needs_138 rfl ?_
        refine r_getf (v := .ref (G.2.2.2 (38))) dX12_needs_139 fM_0_58 kX12 (by decide) lkf_X12_128 rfl ?_
        refine r_aload_n dX12_needs_142 rfl ?_
        refine r_iload_n dX12_needs_143 rfl ?_
        refine c_OI (by exact hs) (inv_V (mi := mi_X12_needs) (b := 0) (rest := [.ref (G.2.2.2 (38)), .ref (G.2.2.2 (0))]) (X12_leftOf_ok G x1 M24) rfl (by decide) dX12_needs_144 lkm_X12_442 cal_X12_leftOf cM_0 rfl rfl (Nat.le_of_ble_eq_true rfl) rfl) (fun v25 => ?_)
        refine c_OZM (by exact hs) (inv_V (mi := mi_X12_needs) (b := 0) (rest := []) (X12_nextRow_ok G aM_38p v25 M24) rfl (by decide) dX12_needs_147 lkm_X12_490 cal_X12_nextRow cM_0 rfl rfl (Nat.le_of_ble_eq_true rfl) rfl) (fun b26 M27 => ?_)
        refine r_istore_n (lv' := [some (.ref (G.2.2.2 (0))), some (.int x1), some (.int x2), some (.int (b2i (b26))), some (.int y23), none, none]) dX12_needs_150 (Nat.le_of_ble_eq_true rfl) rfl rfl ?_
        refine r_goto (tgt := 40) dX12_needs_151 rfl ?_
        exact r_lk (ih (b2i (b26)) y23 M27) (And.intro rfl (And.intro rfl (And.intro rfl (And.intro rfl (And.intro rfl True.intro)))))
      refine r_cL (jX := 111) (jY := 137) (lvX := [some (.ref (G.2.2.2 (0))), some (.int x1), some (.int x2), none, none, none, some (.int y14)]) (lvY := [some (.ref (G.2.2.2 (0))), some (.int x1), some (.int x2), none, some (.int c4), none, none]) (stX := []) (M1 := M13) (fun h19 => ?_) (fun h19 => ?_) (fun hX111 hY137 => ?_)
      · refine r_eq (if_pos rfl) ?_
        refine r_iload dX12_needs_111 rfl ?_
        refine r_istore (lv' := [some (.ref (G.2.2.2 (0))), some (.int x1), some (.int x2), none, some (.int y14), none, some (.int y14)]) dX12_needs_113 (Nat.le_of_ble_eq_true rfl) rfl rfl ?_
        refine r_aload_n dX12_needs_115 rfl ?_
        refine r_aload_n dX12_needs_116 rfl ?_
        refine r_getf (v := .ref (G.2.2.2 (35))) dX12_needs_117 fM_0_52 kX12 (by decide) lkf_X12_119 rfl ?_
        refine r_iconst (x := 0) dX12_needs_120 rfl ?_
        refine c_OV (by exact hs) (inv_V (mi := mi_X12_needs) (b := 0) (rest := []) (X12_showRow_ok G aM_35p 0 M13) rfl (by decide) dX12_needs_121 lkm_X12_494 cal_X12_showRow cM_0 rfl rfl (Nat.le_of_ble_eq_true rfl) rfl) (fun M20 => ?_)
        refine r_aload_n dX12_needs_124 rfl ?_
        refine r_aload_n dX12_needs_125 rfl ?_
        refine r_getf (v := .ref (G.2.2.2 (3))) dX12_needs_126 fM_0_11 kX12 (by decide) lkf_X12_20 rfl ?_
        refine r_aload_n dX12_needs_129 rfl ?_
        refine r_getf (v := .int (M20.1 0 41)) dX12_needs_130 fM_0_41 kX12 (by decide) lkf_X12_301 rfl ?_
        refine r_gd (by exact hs) (fun g21 => ?_)
        refine r_iald dX12_needs_133 aM_3 (inb_in g21) rfl ?_
        refine r_putI dX12_needs_134 fM_0_55 kX12 (by decide) rfl rfl lkf_X12_414 (fun _ => rfl) rfl rfl (fun M22 => ?_)
        exact r_lk (hj137 y14 M22) (And.intro rfl (And.intro rfl (And.intro rfl (And.intro rfl True.intro))))
      · refine r_eq (if_neg (by decide)) ?_
        exact r_lk (hj137 c4 M13) (And.intro rfl (And.intro rfl (And.intro rfl (And.intro rfl True.intro))))
      refine r_if_eq (tgt := 137) dX12_needs_96 rfl (fun h15 => ?_) (fun h15 => ?_)
      · exact r_lk hY137 (And.intro rfl (And.intro rfl (And.intro rfl (And.intro rfl True.intro))))
      refine r_iload dX12_needs_99 rfl ?_
      refine r_if_lt (tgt := 111) dX12_needs_101 rfl (fun h16 => ?_) (fun h16 => ?_)
      · exact r_lk hX111 (And.intro rfl (And.intro rfl (And.intro rfl (And.intro rfl True.intro))))
      refine r_iload dX12_needs_104 rfl ?_
      refine r_iload dX12_needs_106 rfl ?_
      refine r_icmp_ge (tgt := 137) dX12_needs_108 rfl (fun h17 => ?_) (fun h17 => ?_)
      · exact r_lk hY137 (And.intro rfl (And.intro rfl (And.intro rfl (And.intro rfl True.intro))))
      exact r_lk hX111 (And.intro rfl (And.intro rfl (And.intro rfl (And.intro rfl True.intro))))
    refine r_icmp_lt (tgt := 63) dX12_needs_56 rfl (fun h11 => ?_) (fun h11 => ?_)
    · refine r_iconst (x := 0) dX12_needs_63 rfl ?_
      exact r_lk (hj64 0) (And.intro rfl (And.intro rfl (And.intro rfl (And.intro rfl True.intro))))
    refine r_iconst (x := 1) dX12_needs_59 rfl ?_
    refine r_goto (tgt := 64) dX12_needs_60 rfl ?_
    exact r_lk (hj64 1) (And.intro rfl (And.intro rfl (And.intro rfl (And.intro rfl True.intro))))
set_option maxRecDepth 100000 in
set_option maxHeartbeats 4000000 in
theorem X12_needs_ok (G : Gh) (x1 : Int32) (x2 : Int32) (M : Mem) : Mt G mi_X12_needs [.ref (G.2.2.2 (0)), .int x1, .int x2] M ((dO dIM) (X12_needs x1 x2 M)) := by
  refine Mt_of (lv := [some (.ref (G.2.2.2 (0))), some (.int x1), some (.int x2)]) (by decide) rfl (Nat.le_of_ble_eq_true rfl) rfl ?_
  refine r_le (lv' := [some (.ref (G.2.2.2 (0))), some (.int x1), some (.int x2), none, none, none, none]) (And.intro rfl (And.intro rfl (And.intro rfl True.intro))) ?_
  unfold X12_needs
  refine r_aload_n dX12_needs_0 rfl ?_
  refine r_iconst (x := 0) dX12_needs_1 rfl ?_
  refine r_putI dX12_needs_2 fM_0_55 kX12 (by decide) rfl rfl lkf_X12_414 (fun _ => rfl) rfl rfl (fun M1 => ?_)
  refine r_aload_n dX12_needs_5 rfl ?_
  refine r_iload_n dX12_needs_6 rfl ?_
  refine c_OZ rfl (inv_V (mi := mi_X12_needs) (b := 0) (rest := []) (X12_isMan_ok G x1 M1) rfl (by decide) dX12_needs_7 lkm_X12_426 cal_X12_isMan cM_0 rfl rfl (Nat.le_of_ble_eq_true rfl) rfl) (fun b2 => ?_)
  refine r_ifz_eq (tgt := 24) dX12_needs_10 rfl (fun h3 => ?_) (fun h3 => ?_)
  · refine r_iload_n dX12_needs_13 rfl ?_
    refine r_bipush (x := (-20)) dX12_needs_14 rfl ?_
    refine r_bipush (x := 20) dX12_needs_16 rfl ?_
    refine c_Z (inv_S (mi := mi_X12_needs) (rest := []) (X12_isIn_ok G x2 (-20) 20 M1) rfl (by decide) dX12_needs_18 lkm_X12_401 cal_X12_isIn rfl (Nat.le_of_ble_eq_true rfl) rfl) ?_
    refine r_ifz_ne (tgt := 26) dX12_needs_21 rfl (fun h4 => ?_) (fun h4 => ?_)
    · refine r_aload_n dX12_needs_26 rfl ?_
      refine r_iload_n dX12_needs_27 rfl ?_
      refine c_OV rfl (inv_V (mi := mi_X12_needs) (b := 0) (rest := []) (X12_layMost_ok G x1 M1) rfl (by decide) dX12_needs_28 lkm_X12_475 cal_X12_layMost cM_0 rfl rfl (Nat.le_of_ble_eq_true rfl) rfl) (fun M5 => ?_)
      refine r_aload_n dX12_needs_31 rfl ?_
      refine c_OV rfl (inv_V (mi := mi_X12_needs) (b := 0) (rest := []) (X12_noRow_ok G M5) rfl (by decide) dX12_needs_32 lkm_X12_478 cal_X12_noRow cM_0 rfl rfl (Nat.le_of_ble_eq_true rfl) rfl) (fun M6 => ?_)
      refine r_iconst (x := 1) dX12_needs_35 rfl ?_
      refine r_istore_n (lv' := [some (.ref (G.2.2.2 (0))), some (.int x1), some (.int x2), some (.int 1), none, none, none]) dX12_needs_36 (Nat.le_of_ble_eq_true rfl) rfl rfl ?_
      refine r_iconst (x := (-1)) dX12_needs_37 rfl ?_
      refine r_istore (lv' := [some (.ref (G.2.2.2 (0))), some (.int x1), some (.int x2), some (.int 1), some (.int ((-1))), none, none]) dX12_needs_38 (Nat.le_of_ble_eq_true rfl) rfl rfl ?_
      refine r_jB2 (j := 154) (lvj := fun e28 M29 => [none, none, none, none, some (.int e28), none, none]) (stj := fun e28 M29 => []) (Mj := fun e28 M29 => M29) (fun e28 M29 => ?_) (fun hj154 => ?_)
      · refine r_iload dX12_needs_154 rfl ?_
        exact r_iret (ty := .int) dX12_needs_156 rfl rfl rfl
      exact r_lk (X12_needs_L1_ok G x1 x2 rfl hj154 zFU 1 (-1) M6) (And.intro rfl (And.intro rfl (And.intro rfl (And.intro rfl (And.intro rfl True.intro)))))
    refine r_iconst (x := (-1)) dX12_needs_24 rfl ?_
    exact r_iret (ty := .int) dX12_needs_25 rfl rfl rfl
  refine r_iconst (x := (-1)) dX12_needs_24 rfl ?_
  exact r_iret (ty := .int) dX12_needs_25 rfl rfl rfl

theorem dX12_areTwo_0 : decode cX12_areTwo 0 = .ok (.aload_n 0, 1) := by decide +kernel
theorem dX12_areTwo_1 : decode cX12_areTwo 1 = .ok (.iload_n 1, 1) := by decide +kernel
theorem dX12_areTwo_2 : decode cX12_areTwo 2 = .ok (.invokevirtual 426, 3) := by decide +kernel
theorem dX12_areTwo_5 : decode cX12_areTwo 5 = .ok (.ifCond .eq 20, 3) := by decide +kernel
theorem dX12_areTwo_8 : decode cX12_areTwo 8 = .ok (.aload_n 0, 1) := by decide +kernel
theorem dX12_areTwo_9 : decode cX12_areTwo 9 = .ok (.iload_n 2, 1) := by decide +kernel
theorem dX12_areTwo_10 : decode cX12_areTwo 10 = .ok (.invokevirtual 426, 3) := by decide +kernel
theorem dX12_areTwo_13 : decode cX12_areTwo 13 = .ok (.ifCond .eq 12, 3) := by decide +kernel
theorem dX12_areTwo_16 : decode cX12_areTwo 16 = .ok (.iload_n 1, 1) := by decide +kernel
theorem dX12_areTwo_17 : decode cX12_areTwo 17 = .ok (.iload_n 2, 1) := by decide +kernel
theorem dX12_areTwo_18 : decode cX12_areTwo 18 = .ok (.if_icmp .eq 7, 3) := by decide +kernel
theorem dX12_areTwo_21 : decode cX12_areTwo 21 = .ok (.iconst 1, 1) := by decide +kernel
theorem dX12_areTwo_22 : decode cX12_areTwo 22 = .ok (.goto 4, 3) := by decide +kernel
theorem dX12_areTwo_25 : decode cX12_areTwo 25 = .ok (.iconst 0, 1) := by decide +kernel
theorem dX12_areTwo_26 : decode cX12_areTwo 26 = .ok (.ireturn, 1) := by decide +kernel
abbrev mi_X12_areTwo : MI := (zTM, RX12, yX12_areTwo, cX12_areTwo, 3, (some .boolean), 4)
theorem cal_X12_areTwo : zCalV mi_X12_areTwo 2 := ⟨⟨zTB_i8 231 (by decide +kernel), zTB_i8 230 (by decide +kernel), zTB_i0 104 (by decide +kernel), zTB_i1 13 (by decide +kernel)⟩, ⟨by decide, by decide, by decide +kernel⟩, by decide⟩
noncomputable def X12_areTwo (x1 : Int32) (x2 : Int32) (M : Mem) : Option (Bool) :=
  bo_ (X12_isMan x1 M) fun b1 =>
  if b1 = true then
    bo_ (X12_isMan x2 M) fun b3 =>
    if b3 = true then
      if x1 = x2 then
        some false
      else
      some true
    else
    some false
  else
  some false
set_option maxRecDepth 100000 in
set_option maxHeartbeats 4000000 in
theorem X12_areTwo_ok (G : Gh) (x1 : Int32) (x2 : Int32) (M : Mem) : Mt G mi_X12_areTwo [.ref (G.2.2.2 (0)), .int x1, .int x2] M ((dO (dZ M)) (X12_areTwo x1 x2 M)) := by
  refine Mt_of (lv := [some (.ref (G.2.2.2 (0))), some (.int x1), some (.int x2)]) (by decide) rfl (Nat.le_of_ble_eq_true rfl) rfl ?_
  unfold X12_areTwo
  refine r_aload_n dX12_areTwo_0 rfl ?_
  refine r_iload_n dX12_areTwo_1 rfl ?_
  refine c_OZ rfl (inv_V (mi := mi_X12_areTwo) (b := 0) (rest := []) (X12_isMan_ok G x1 M) rfl (by decide) dX12_areTwo_2 lkm_X12_426 cal_X12_isMan cM_0 rfl rfl (Nat.le_of_ble_eq_true rfl) rfl) (fun b1 => ?_)
  refine r_ifz_eq (tgt := 25) dX12_areTwo_5 rfl (fun h2 => ?_) (fun h2 => ?_)
  · refine r_aload_n dX12_areTwo_8 rfl ?_
    refine r_iload_n dX12_areTwo_9 rfl ?_
    refine c_OZ rfl (inv_V (mi := mi_X12_areTwo) (b := 0) (rest := []) (X12_isMan_ok G x2 M) rfl (by decide) dX12_areTwo_10 lkm_X12_426 cal_X12_isMan cM_0 rfl rfl (Nat.le_of_ble_eq_true rfl) rfl) (fun b3 => ?_)
    refine r_ifz_eq (tgt := 25) dX12_areTwo_13 rfl (fun h4 => ?_) (fun h4 => ?_)
    · refine r_iload_n dX12_areTwo_16 rfl ?_
      refine r_iload_n dX12_areTwo_17 rfl ?_
      refine r_icmp_eq (tgt := 25) dX12_areTwo_18 rfl (fun h5 => ?_) (fun h5 => ?_)
      · refine r_iconst (x := 0) dX12_areTwo_25 rfl ?_
        exact r_iret (ty := .boolean) dX12_areTwo_26 rfl rfl rfl
      refine r_iconst (x := 1) dX12_areTwo_21 rfl ?_
      refine r_goto (tgt := 26) dX12_areTwo_22 rfl ?_
      exact r_iret (ty := .boolean) dX12_areTwo_26 rfl rfl rfl
    refine r_iconst (x := 0) dX12_areTwo_25 rfl ?_
    exact r_iret (ty := .boolean) dX12_areTwo_26 rfl rfl rfl
  refine r_iconst (x := 0) dX12_areTwo_25 rfl ?_
  exact r_iret (ty := .boolean) dX12_areTwo_26 rfl rfl rfl

theorem dX12_layOther_0 : decode cX12_layOther 0 = .ok (.iconst 0, 1) := by decide +kernel
theorem dX12_layOther_1 : decode cX12_layOther 1 = .ok (.istore 4, 2) := by decide +kernel
theorem dX12_layOther_3 : decode cX12_layOther 3 = .ok (.iload 4, 2) := by decide +kernel
theorem dX12_layOther_5 : decode cX12_layOther 5 = .ok (.iconst 3, 1) := by decide +kernel
theorem dX12_layOther_6 : decode cX12_layOther 6 = .ok (.if_icmp .ge 31, 3) := by decide +kernel
theorem dX12_layOther_9 : decode cX12_layOther 9 = .ok (.aload_n 0, 1) := by decide +kernel
theorem dX12_layOther_10 : decode cX12_layOther 10 = .ok (.getfield 137, 3) := by decide +kernel
theorem dX12_layOther_13 : decode cX12_layOther 13 = .ok (.iload 4, 2) := by decide +kernel
theorem dX12_layOther_15 : decode cX12_layOther 15 = .ok (.aload_n 0, 1) := by decide +kernel
theorem dX12_layOther_16 : decode cX12_layOther 16 = .ok (.getfield 134, 3) := by decide +kernel
theorem dX12_layOther_19 : decode cX12_layOther 19 = .ok (.iload 4, 2) := by decide +kernel
theorem dX12_layOther_21 : decode cX12_layOther 21 = .ok (.iaload, 1) := by decide +kernel
theorem dX12_layOther_22 : decode cX12_layOther 22 = .ok (.aload_n 0, 1) := by decide +kernel
theorem dX12_layOther_23 : decode cX12_layOther 23 = .ok (.getfield 131, 3) := by decide +kernel
theorem dX12_layOther_26 : decode cX12_layOther 26 = .ok (.iload 4, 2) := by decide +kernel
theorem dX12_layOther_28 : decode cX12_layOther 28 = .ok (.iaload, 1) := by decide +kernel
theorem dX12_layOther_29 : decode cX12_layOther 29 = .ok (.isub, 1) := by decide +kernel
theorem dX12_layOther_30 : decode cX12_layOther 30 = .ok (.iastore, 1) := by decide +kernel
theorem dX12_layOther_31 : decode cX12_layOther 31 = .ok (.iinc 4 1, 3) := by decide +kernel
theorem dX12_layOther_34 : decode cX12_layOther 34 = .ok (.goto (-31), 3) := by decide +kernel
theorem dX12_layOther_37 : decode cX12_layOther 37 = .ok (.aload_n 0, 1) := by decide +kernel
theorem dX12_layOther_38 : decode cX12_layOther 38 = .ok (.invokevirtual 478, 3) := by decide +kernel
theorem dX12_layOther_41 : decode cX12_layOther 41 = .ok (.iconst 1, 1) := by decide +kernel
theorem dX12_layOther_42 : decode cX12_layOther 42 = .ok (.istore 4, 2) := by decide +kernel
theorem dX12_layOther_44 : decode cX12_layOther 44 = .ok (.iload 4, 2) := by decide +kernel
theorem dX12_layOther_46 : decode cX12_layOther 46 = .ok (.ifCond .eq 146, 3) := by decide +kernel
theorem dX12_layOther_49 : decode cX12_layOther 49 = .ok (.aload_n 0, 1) := by decide +kernel
theorem dX12_layOther_50 : decode cX12_layOther 50 = .ok (.iload_n 2, 1) := by decide +kernel
theorem dX12_layOther_51 : decode cX12_layOther 51 = .ok (.iconst 1, 1) := by decide +kernel
theorem dX12_layOther_52 : decode cX12_layOther 52 = .ok (.invokevirtual 484, 3) := by decide +kernel
theorem dX12_layOther_55 : decode cX12_layOther 55 = .ok (.aload_n 0, 1) := by decide +kernel
theorem dX12_layOther_56 : decode cX12_layOther 56 = .ok (.iload_n 1, 1) := by decide +kernel
theorem dX12_layOther_57 : decode cX12_layOther 57 = .ok (.invokevirtual 420, 3) := by decide +kernel
theorem dX12_layOther_60 : decode cX12_layOther 60 = .ok (.aload_n 0, 1) := by decide +kernel
theorem dX12_layOther_61 : decode cX12_layOther 61 = .ok (.iload_n 2, 1) := by decide +kernel
theorem dX12_layOther_62 : decode cX12_layOther 62 = .ok (.invokevirtual 420, 3) := by decide +kernel
theorem dX12_layOther_65 : decode cX12_layOther 65 = .ok (.iadd, 1) := by decide +kernel
theorem dX12_layOther_66 : decode cX12_layOther 66 = .ok (.istore 5, 2) := by decide +kernel
theorem dX12_layOther_68 : decode cX12_layOther 68 = .ok (.aload_n 0, 1) := by decide +kernel
theorem dX12_layOther_69 : decode cX12_layOther 69 = .ok (.iload_n 2, 1) := by decide +kernel
theorem dX12_layOther_70 : decode cX12_layOther 70 = .ok (.iconst (-1), 1) := by decide +kernel
theorem dX12_layOther_71 : decode cX12_layOther 71 = .ok (.invokevirtual 484, 3) := by decide +kernel
theorem dX12_layOther_74 : decode cX12_layOther 74 = .ok (.iload_n 3, 1) := by decide +kernel
theorem dX12_layOther_75 : decode cX12_layOther 75 = .ok (.aload_n 0, 1) := by decide +kernel
theorem dX12_layOther_76 : decode cX12_layOther 76 = .ok (.getfield 119, 3) := by decide +kernel
theorem dX12_layOther_79 : decode cX12_layOther 79 = .ok (.iconst 0, 1) := by decide +kernel
theorem dX12_layOther_80 : decode cX12_layOther 80 = .ok (.iaload, 1) := by decide +kernel
theorem dX12_layOther_81 : decode cX12_layOther 81 = .ok (.iadd, 1) := by decide +kernel
theorem dX12_layOther_82 : decode cX12_layOther 82 = .ok (.aload_n 0, 1) := by decide +kernel
theorem dX12_layOther_83 : decode cX12_layOther 83 = .ok (.getfield 119, 3) := by decide +kernel
theorem dX12_layOther_86 : decode cX12_layOther 86 = .ok (.iconst 1, 1) := by decide +kernel
theorem dX12_layOther_87 : decode cX12_layOther 87 = .ok (.iaload, 1) := by decide +kernel
theorem dX12_layOther_88 : decode cX12_layOther 88 = .ok (.iadd, 1) := by decide +kernel
theorem dX12_layOther_89 : decode cX12_layOther 89 = .ok (.aload_n 0, 1) := by decide +kernel
theorem dX12_layOther_90 : decode cX12_layOther 90 = .ok (.getfield 119, 3) := by decide +kernel
theorem dX12_layOther_93 : decode cX12_layOther 93 = .ok (.iconst 2, 1) := by decide +kernel
theorem dX12_layOther_94 : decode cX12_layOther 94 = .ok (.iaload, 1) := by decide +kernel
theorem dX12_layOther_95 : decode cX12_layOther 95 = .ok (.iadd, 1) := by decide +kernel
theorem dX12_layOther_96 : decode cX12_layOther 96 = .ok (.istore 6, 2) := by decide +kernel
theorem dX12_layOther_98 : decode cX12_layOther 98 = .ok (.aload_n 0, 1) := by decide +kernel
theorem dX12_layOther_99 : decode cX12_layOther 99 = .ok (.getfield 507, 3) := by decide +kernel
theorem dX12_layOther_102 : decode cX12_layOther 102 = .ok (.ifCond .lt 30, 3) := by decide +kernel
theorem dX12_layOther_105 : decode cX12_layOther 105 = .ok (.iload 5, 2) := by decide +kernel
theorem dX12_layOther_107 : decode cX12_layOther 107 = .ok (.aload_n 0, 1) := by decide +kernel
theorem dX12_layOther_108 : decode cX12_layOther 108 = .ok (.getfield 510, 3) := by decide +kernel
theorem dX12_layOther_111 : decode cX12_layOther 111 = .ok (.if_icmp .gt 21, 3) := by decide +kernel
theorem dX12_layOther_114 : decode cX12_layOther 114 = .ok (.iload 5, 2) := by decide +kernel
theorem dX12_layOther_116 : decode cX12_layOther 116 = .ok (.aload_n 0, 1) := by decide +kernel
theorem dX12_layOther_117 : decode cX12_layOther 117 = .ok (.getfield 510, 3) := by decide +kernel
theorem dX12_layOther_120 : decode cX12_layOther 120 = .ok (.if_icmp .ne 50, 3) := by decide +kernel
theorem dX12_layOther_123 : decode cX12_layOther 123 = .ok (.iload 6, 2) := by decide +kernel
theorem dX12_layOther_125 : decode cX12_layOther 125 = .ok (.aload_n 0, 1) := by decide +kernel
theorem dX12_layOther_126 : decode cX12_layOther 126 = .ok (.getfield 507, 3) := by decide +kernel
theorem dX12_layOther_129 : decode cX12_layOther 129 = .ok (.if_icmp .ge 41, 3) := by decide +kernel
theorem dX12_layOther_132 : decode cX12_layOther 132 = .ok (.aload_n 0, 1) := by decide +kernel
theorem dX12_layOther_133 : decode cX12_layOther 133 = .ok (.iload 5, 2) := by decide +kernel
theorem dX12_layOther_135 : decode cX12_layOther 135 = .ok (.putfield 510, 3) := by decide +kernel
theorem dX12_layOther_138 : decode cX12_layOther 138 = .ok (.aload_n 0, 1) := by decide +kernel
theorem dX12_layOther_139 : decode cX12_layOther 139 = .ok (.iload 6, 2) := by decide +kernel
theorem dX12_layOther_141 : decode cX12_layOther 141 = .ok (.putfield 507, 3) := by decide +kernel
theorem dX12_layOther_144 : decode cX12_layOther 144 = .ok (.aload_n 0, 1) := by decide +kernel
theorem dX12_layOther_145 : decode cX12_layOther 145 = .ok (.aload_n 0, 1) := by decide +kernel
theorem dX12_layOther_146 : decode cX12_layOther 146 = .ok (.getfield 131, 3) := by decide +kernel
theorem dX12_layOther_149 : decode cX12_layOther 149 = .ok (.iconst 0, 1) := by decide +kernel
theorem dX12_layOther_150 : decode cX12_layOther 150 = .ok (.invokevirtual 494, 3) := by decide +kernel
theorem dX12_layOther_153 : decode cX12_layOther 153 = .ok (.aload_n 0, 1) := by decide +kernel
theorem dX12_layOther_154 : decode cX12_layOther 154 = .ok (.aload_n 0, 1) := by decide +kernel
theorem dX12_layOther_155 : decode cX12_layOther 155 = .ok (.getfield 119, 3) := by decide +kernel
theorem dX12_layOther_158 : decode cX12_layOther 158 = .ok (.aload_n 0, 1) := by decide +kernel
theorem dX12_layOther_159 : decode cX12_layOther 159 = .ok (.getfield 20, 3) := by decide +kernel
theorem dX12_layOther_162 : decode cX12_layOther 162 = .ok (.aload_n 0, 1) := by decide +kernel
theorem dX12_layOther_163 : decode cX12_layOther 163 = .ok (.getfield 301, 3) := by decide +kernel
theorem dX12_layOther_166 : decode cX12_layOther 166 = .ok (.iaload, 1) := by decide +kernel
theorem dX12_layOther_167 : decode cX12_layOther 167 = .ok (.invokevirtual 494, 3) := by decide +kernel
theorem dX12_layOther_170 : decode cX12_layOther 170 = .ok (.aload_n 0, 1) := by decide +kernel
theorem dX12_layOther_171 : decode cX12_layOther 171 = .ok (.aload_n 0, 1) := by decide +kernel
theorem dX12_layOther_172 : decode cX12_layOther 172 = .ok (.getfield 137, 3) := by decide +kernel
theorem dX12_layOther_175 : decode cX12_layOther 175 = .ok (.iconst 3, 1) := by decide +kernel
theorem dX12_layOther_176 : decode cX12_layOther 176 = .ok (.aload_n 0, 1) := by decide +kernel
theorem dX12_layOther_177 : decode cX12_layOther 177 = .ok (.iload_n 2, 1) := by decide +kernel
theorem dX12_layOther_178 : decode cX12_layOther 178 = .ok (.invokevirtual 442, 3) := by decide +kernel
theorem dX12_layOther_181 : decode cX12_layOther 181 = .ok (.invokestatic 452, 3) := by decide +kernel
theorem dX12_layOther_184 : decode cX12_layOther 184 = .ok (.invokevirtual 490, 3) := by decide +kernel
theorem dX12_layOther_187 : decode cX12_layOther 187 = .ok (.istore 4, 2) := by decide +kernel
theorem dX12_layOther_189 : decode cX12_layOther 189 = .ok (.goto (-145), 3) := by decide +kernel
theorem dX12_layOther_192 : decode cX12_layOther 192 = .ok (.return_, 1) := by decide +kernel
abbrev mi_X12_layOther : MI := (zTM, RX12, yX12_layOther, cX12_layOther, 7, none, 6)
theorem cal_X12_layOther : zCalV mi_X12_layOther 3 := ⟨⟨zTB_i8 239 (by decide +kernel), zTB_i8 238 (by decide +kernel), zTB_i0 106 (by decide +kernel), zTB_i1 13 (by decide +kernel)⟩, ⟨by decide, by decide, by decide +kernel⟩, by decide⟩
noncomputable def X12_layOther_L2 (x1 : Int32) (x2 : Int32) (x3 : Int32) : Nat → Int32 → Mem → Option (Mem)
  | 0, _, _ => none
  | n + 1, c4, M =>
    if c4 = 0 then
      some M
    else
    bo_ (X12_layRow x2 1 M) fun M9 =>
    bp_ (X12_growthOf x1 M9) fun v10 M11 =>
    bp_ (X12_growthOf x2 M11) fun v12 M13 =>
    bo_ (X12_layRow x2 (-1) M13) fun M14 =>
    lt_ (α := Int32) (((x3 + (M14.1 35 0)) + (M14.1 35 1)) + (M14.1 35 2)) fun y15 =>
    b1_ (α := Mem) (
      l1_ (α := Bool) (
        if (M14.1 0 62) < 0 then
          true
        else
        if (M14.1 0 63) < (v10 + v12) then
          true
        else
        false) fun t18 =>
      if t18 = true then
        lt_ (uI M14 0 63 (v10 + v12)) fun M20 =>
        lt_ (uI M20 0 62 y15) fun M21 =>
        bo_ (X12_showRow 39 0 M21) fun M22 =>
        gd_ (inb (M22.1 0 41) (2) = true) (
        bo_ (X12_showRow 35 (M22.1 3 ((M22.1 0 41).toNatClampNeg)) M22) fun M24 =>
        some M24)
      else
      if (v10 + v12) = (M14.1 0 63) then
        if (M14.1 0 62) ≤ y15 then
          some M14
        else
        lt_ (uI M14 0 63 (v10 + v12)) fun M27 =>
        lt_ (uI M27 0 62 y15) fun M28 =>
        bo_ (X12_showRow 39 0 M28) fun M29 =>
        gd_ (inb (M29.1 0 41) (2) = true) (
        bo_ (X12_showRow 35 (M29.1 3 ((M29.1 0 41).toNatClampNeg)) M29) fun M31 =>
        some M31)
      else
      some M14) fun M32 =>
    bo_ (X12_leftOf x2 M32) fun v33 =>
    bp_ (X12_nextRow 41 (X12_lesser 3 v33) M32) fun b34 M35 =>
    X12_layOther_L2 x1 x2 x3 n (b2i (b34)) M35
noncomputable def X12_layOther_L1 : Nat → Int32 → Mem → Option (Mem)
  | 0, _, _ => none
  | n + 1, c4, M =>
    if 3 ≤ c4 then
      some M
    else
    gd_ (inb c4 (3) = true) (
    gd_ (inb c4 (3) = true) (
    gd_ (inb c4 (3) = true) (
    lt_ (uI M 41 c4.toNatClampNeg ((M.1 40 c4.toNatClampNeg) - (M.1 39 c4.toNatClampNeg))) fun M5 =>
    X12_layOther_L1 n (c4 + 1) M5)))
noncomputable def X12_layOther (x1 : Int32) (x2 : Int32) (x3 : Int32) (M : Mem) : Option (Mem) :=
  b1_ (α := Mem) (X12_layOther_L1 zFU 0 M) fun M6 =>
  bo_ (X12_noRow M6) fun M7 =>
  b1_ (α := Mem) (X12_layOther_L2 x1 x2 x3 zFU 1 M7) fun M36 =>
  some M36
set_option maxRecDepth 100000 in
set_option maxHeartbeats 4000000 in
theorem X12_layOther_L2_ok (G : Gh) (x1 : Int32) (x2 : Int32) (x3 : Int32) {dn : Option (Mem) → Option (Option Value × Mem)} (hs : dn none = none) (hx : ∀ (M36 : Mem), Wr G mi_X12_layOther dn 192 [none, none, none, none, none, none, none] [] M36 (some M36)) : ∀ (n : Nat) (c4 : Int32) (M : Mem), Wr G mi_X12_layOther dn 44 [some (.ref (G.2.2.2 (0))), some (.int x1), some (.int x2), some (.int x3), some (.int c4), none, none] [] M (X12_layOther_L2 x1 x2 x3 n c4 M) := by
  intro n
  induction n with
  | zero => intro c4 M; exact r_none (by exact hs)
  | succ n ih =>
    intro c4 M
    rw [X12_layOther_L2]
    refine r_iload dX12_layOther_44 rfl ?_
    refine r_if_eq (tgt := 192) dX12_layOther_46 rfl (fun h8 => ?_) (fun h8 => ?_)
    · exact r_lk (hx M) True.intro
    refine r_aload_n dX12_layOther_49 rfl ?_
    refine r_iload_n dX12_layOther_50 rfl ?_
    refine r_iconst (x := 1) dX12_layOther_51 rfl ?_
    refine c_OV (by exact hs) (inv_V (mi := mi_X12_layOther) (b := 0) (rest := []) (X12_layRow_ok G x2 1 M) rfl (by decide) dX12_layOther_52 lkm_X12_484 cal_X12_layRow cM_0 rfl rfl (Nat.le_of_ble_eq_true rfl) rfl) (fun M9 => ?_)
    refine r_aload_n dX12_layOther_55 rfl ?_
    refine r_iload_n dX12_layOther_56 rfl ?_
    refine c_OIM (by exact hs) (inv_V (mi := mi_X12_layOther) (b := 0) (rest := []) (X12_growthOf_ok G x1 M9) rfl (by decide) dX12_layOther_57 lkm_X12_420 cal_X12_growthOf cM_0 rfl rfl (Nat.le_of_ble_eq_true rfl) rfl) (fun v10 M11 => ?_)
    refine r_aload_n dX12_layOther_60 rfl ?_
    refine r_iload_n dX12_layOther_61 rfl ?_
    refine c_OIM (by exact hs) (inv_V (mi := mi_X12_layOther) (b := 0) (rest := [.int v10]) (X12_growthOf_ok G x2 M11) rfl (by decide) dX12_layOther_62 lkm_X12_420 cal_X12_growthOf cM_0 rfl rfl (Nat.le_of_ble_eq_true rfl) rfl) (fun v12 M13 => ?_)
    refine r_iadd dX12_layOther_65 ?_
    refine r_istore (lv' := [some (.ref (G.2.2.2 (0))), some (.int x1), some (.int x2), some (.int x3), some (.int c4), some (.int (v10 + v12)), none]) dX12_layOther_66 (Nat.le_of_ble_eq_true rfl) rfl rfl ?_
    refine r_aload_n dX12_layOther_68 rfl ?_
    refine r_iload_n dX12_layOther_69 rfl ?_
    refine r_iconst (x := (-1)) dX12_layOther_70 rfl ?_
    refine c_OV (by exact hs) (inv_V (mi := mi_X12_layOther) (b := 0) (rest := []) (X12_layRow_ok G x2 (-1) M13) rfl (by decide) dX12_layOther_71 lkm_X12_484 cal_X12_layRow cM_0 rfl rfl (Nat.le_of_ble_eq_true rfl) rfl) (fun M14 => ?_)
    refine r_iload_n dX12_layOther_74 rfl ?_
    refine r_aload_n dX12_layOther_75 rfl ?_
    refine r_getf (v := .ref (G.2.2.2 (35))) dX12_layOther_76 fM_0_52 kX12 (by decide) lkf_X12_119 rfl ?_
    refine r_iconst (x := 0) dX12_layOther_79 rfl ?_
    refine r_iald dX12_layOther_80 aM_35 (inb_in (i := 0) (n := 3) rfl) (m := 0) rfl ?_
    refine r_iadd dX12_layOther_81 ?_
    refine r_aload_n dX12_layOther_82 rfl ?_
    refine r_getf (v := .ref (G.2.2.2 (35))) dX12_layOther_83 fM_0_52 kX12 (by decide) lkf_X12_119 rfl ?_
    refine r_iconst (x := 1) dX12_layOther_86 rfl ?_
    refine r_iald dX12_layOther_87 aM_35 (inb_in (i := 1) (n := 3) rfl) (m := 1) rfl ?_
    refine r_iadd dX12_layOther_88 ?_
    refine r_aload_n dX12_layOther_89 rfl ?_
    refine r_getf (v := .ref (G.2.2.2 (35))) dX12_layOther_90 fM_0_52 kX12 (by decide) lkf_X12_119 rfl ?_
    refine r_iconst (x := 2) dX12_layOther_93 rfl ?_
    refine r_iald dX12_layOther_94 aM_35 (inb_in (i := 2) (n := 3) rfl) (m := 2) rfl ?_
    refine r_iadd dX12_layOther_95 ?_
    refine r_letI (fun y15 => ?_)
    refine r_istore (lv' := [some (.ref (G.2.2.2 (0))), some (.int x1), some (.int x2), some (.int x3), some (.int c4), some (.int (v10 + v12)), some (.int y15)]) dX12_layOther_96 (Nat.le_of_ble_eq_true rfl) rfl rfl ?_
    refine r_aload_n dX12_layOther_98 rfl ?_
    refine r_getf (v := .int (M14.1 0 62)) dX12_layOther_99 fM_0_62 kX12 (by decide) lkf_X12_507 rfl ?_
    refine r_jB1 (j := 170) (lvj := fun M32 => [some (.ref (G.2.2.2 (0))), some (.int x1), some (.int x2), some (.int x3), none, none, none]) (stj := fun M32 => []) (Mj := fun M32 => M32) (fun M32 => ?_) (fun hj170 => ?_)
    · refine r_aload_n dX12_layOther_170 rfl ?_
      refine r_aload_n dX12_layOther_171 rfl ?_
      refine r_getf (v := .ref (G.2.2.2 (41))) dX12_layOther_172 fM_0_61 kX12 (by decide) lkf_X12_137 rfl ?_
      refine r_iconst (x := 3) dX12_layOther_175 rfl ?_
      refine r_aload_n dX12_layOther_176 rfl ?_
      refine r_iload_n dX12_layOther_177 rfl ?_
      refine c_OI (by exact hs) (inv_V (mi := mi_X12_layOther) (b := 0) (rest := [.int 3, .ref (G.2.2.2 (41)), .ref (G.2.2.2 (0))]) (X12_leftOf_ok G x2 M32) rfl (by decide) dX12_layOther_178 lkm_X12_442 cal_X12_leftOf cM_0 rfl rfl (Nat.le_of_ble_eq_true rfl) rfl) (fun v33 => ?_)
      refine c_I (inv_S (mi := mi_X12_layOther) (rest := [.ref (G.2.2.2 (41)), .ref (G.2.2.2 (0))]) (X12_lesser_ok G 3 v33 M32) rfl (by decide) dX12_layOther_181 lkm_X12_452 cal_X12_lesser rfl (Nat.le_of_ble_eq_true rfl) rfl) ?_
      refine c_OZM (by exact hs) (inv_V (mi := mi_X12_layOther) (b := 0) (rest := []) (X12_nextRow_ok G aM_41p (X12_lesser 3 v33) M32) rfl (by decide) dX12_layOther_184 lkm_X12_490 cal_X12_nextRow cM_0 rfl rfl (Nat.le_of_ble_eq_true rfl) rfl) (fun b34 M35 => ?_)
      refine r_istore (lv' := [some (.ref (G.2.2.2 (0))), some (.int x1), some (.int x2), some (.int x3), some (.int (b2i (b34))), none, none]) dX12_layOther_187 (Nat.le_of_ble_eq_true rfl) rfl rfl ?_
      refine r_goto (tgt := 44) dX12_layOther_189 rfl ?_
      exact r_lk (ih (b2i (b34)) M35) (And.intro rfl (And.intro rfl (And.intro rfl (And.intro rfl (And.intro rfl True.intro)))))
    refine r_cL (jX := 132) (jY := 114) (lvX := [some (.ref (G.2.2.2 (0))), some (.int x1), some (.int x2), some (.int x3), none, some (.int (v10 + v12)), some (.int y15)]) (lvY := [some (.ref (G.2.2.2 (0))), some (.int x1), some (.int x2), some (.int x3), none, some (.int (v10 + v12)), some (.int y15)]) (stX := []) (M1 := M14) (fun h19 => ?_) (fun h19 => ?_) (fun hX132 hY114 => ?_)
    · refine r_eq (if_pos rfl) ?_
      refine r_aload_n dX12_layOther_132 rfl ?_
      refine r_iload dX12_layOther_133 rfl ?_
      refine r_putI dX12_layOther_135 fM_0_63 kX12 (by decide) rfl rfl lkf_X12_510 (fun _ => rfl) rfl rfl (fun M20 => ?_)
      refine r_aload_n dX12_layOther_138 rfl ?_
      refine r_iload dX12_layOther_139 rfl ?_
      refine r_putI dX12_layOther_141 fM_0_62 kX12 (by decide) rfl rfl lkf_X12_507 (fun _ => rfl) rfl rfl (fun M21 => ?_)
      refine r_aload_n dX12_layOther_144 rfl ?_
      refine r_aload_n dX12_layOther_145 rfl ?_
      refine r_getf (v := .ref (G.2.2.2 (39))) dX12_layOther_146 fM_0_59 kX12 (by decide) lkf_X12_131 rfl ?_
      refine r_iconst (x := 0) dX12_layOther_149 rfl ?_
      refine c_OV (by exact hs) (inv_V (mi := mi_X12_layOther) (b := 0) (rest := []) (X12_showRow_ok G aM_39p 0 M21) rfl (by decide) dX12_layOther_150 lkm_X12_494 cal_X12_showRow cM_0 rfl rfl (Nat.le_of_ble_eq_true rfl) rfl) (fun M22 => ?_)
      refine r_aload_n dX12_layOther_153 rfl ?_
      refine r_aload_n dX12_layOther_154 rfl ?_
      refine r_getf (v := .ref (G.2.2.2 (35))) dX12_layOther_155 fM_0_52 kX12 (by decide) lkf_X12_119 rfl ?_
      refine r_aload_n dX12_layOther_158 rfl ?_
      refine r_getf (v := .ref (G.2.2.2 (3))) dX12_layOther_159 fM_0_11 kX12 (by decide) lkf_X12_20 rfl ?_
      refine r_aload_n dX12_layOther_162 rfl ?_
      refine r_getf (v := .int (M22.1 0 41)) dX12_layOther_163 fM_0_41 kX12 (by decide) lkf_X12_301 rfl ?_
      refine r_gd (by exact hs) (fun g23 => ?_)
      refine r_iald dX12_layOther_166 aM_3 (inb_in g23) rfl ?_
      refine c_OV (by exact hs) (inv_V (mi := mi_X12_layOther) (b := 0) (rest := []) (X12_showRow_ok G aM_35p (M22.1 3 ((M22.1 0 41).toNatClampNeg)) M22) rfl (by decide) dX12_layOther_167 lkm_X12_494 cal_X12_showRow cM_0 rfl rfl (Nat.le_of_ble_eq_true rfl) rfl) (fun M24 => ?_)
      exact r_lk (hj170 M24) (And.intro rfl (And.intro rfl (And.intro rfl (And.intro rfl True.intro))))
    · refine r_eq (if_neg (by decide)) ?_
      refine r_iload dX12_layOther_114 rfl ?_
      refine r_aload_n dX12_layOther_116 rfl ?_
      refine r_getf (v := .int (M14.1 0 63)) dX12_layOther_117 fM_0_63 kX12 (by decide) lkf_X12_510 rfl ?_
      refine r_icmp_ne (tgt := 170) dX12_layOther_120 rfl (fun h25 => ?_) (fun h25 => ?_)
      · refine r_iload dX12_layOther_123 rfl ?_
        refine r_aload_n dX12_layOther_125 rfl ?_
        refine r_getf (v := .int (M14.1 0 62)) dX12_layOther_126 fM_0_62 kX12 (by decide) lkf_X12_507 rfl ?_
        refine r_icmp_ge (tgt := 170) dX12_layOther_129 rfl (fun h26 => ?_) (fun h26 => ?_)
        · exact r_lk (hj170 M14) (And.intro rfl (And.intro rfl (And.intro rfl (And.intro rfl True.intro))))
        refine r_aload_n dX12_layOther_132 rfl ?_
        refine r_iload dX12_layOther_133 rfl ?_
        refine r_putI dX12_layOther_135 fM_0_63 kX12 (by decide) rfl rfl lkf_X12_510 (fun _ => rfl) rfl rfl (fun M27 => ?_)
        refine r_aload_n dX12_layOther_138 rfl ?_
        refine r_iload dX12_layOther_139 rfl ?_
        refine r_putI dX12_layOther_141 fM_0_62 kX12 (by decide) rfl rfl lkf_X12_507 (fun _ => rfl) rfl rfl (fun M28 => ?_)
        refine r_aload_n dX12_layOther_144 rfl ?_
        refine r_aload_n dX12_layOther_145 rfl ?_
        refine r_getf (v := .ref (G.2.2.2 (39))) dX12_layOther_146 fM_0_59 kX12 (by decide) lkf_X12_131 rfl ?_
        refine r_iconst (x := 0) dX12_layOther_149 rfl ?_
        refine c_OV (by exact hs) (inv_V (mi := mi_X12_layOther) (b := 0) (rest := []) (X12_showRow_ok G aM_39p 0 M28) rfl (by decide) dX12_layOther_150 lkm_X12_494 cal_X12_showRow cM_0 rfl rfl (Nat.le_of_ble_eq_true rfl) rfl) (fun M29 => ?_)
        refine r_aload_n dX12_layOther_153 rfl ?_
        refine r_aload_n dX12_layOther_154 rfl ?_
        refine r_getf (v := .ref (G.2.2.2 (35))) dX12_layOther_155 fM_0_52 kX12 (by decide) lkf_X12_119 rfl ?_
        refine r_aload_n dX12_layOther_158 rfl ?_
        refine r_getf (v := .ref (G.2.2.2 (3))) dX12_layOther_159 fM_0_11 kX12 (by decide) lkf_X12_20 rfl ?_
        refine r_aload_n dX12_layOther_162 rfl ?_
        refine r_getf (v := .int (M29.1 0 41)) dX12_layOther_163 fM_0_41 kX12 (by decide) lkf_X12_301 rfl ?_
        refine r_gd (by exact hs) (fun g30 => ?_)
        refine r_iald dX12_layOther_166 aM_3 (inb_in g30) rfl ?_
        refine c_OV (by exact hs) (inv_V (mi := mi_X12_layOther) (b := 0) (rest := []) (X12_showRow_ok G aM_35p (M29.1 3 ((M29.1 0 41).toNatClampNeg)) M29) rfl (by decide) dX12_layOther_167 lkm_X12_494 cal_X12_showRow cM_0 rfl rfl (Nat.le_of_ble_eq_true rfl) rfl) (fun M31 => ?_)
        exact r_lk (hj170 M31) (And.intro rfl (And.intro rfl (And.intro rfl (And.intro rfl True.intro))))
      exact r_lk (hj170 M14) (And.intro rfl (And.intro rfl (And.intro rfl (And.intro rfl True.intro))))
    refine r_if_lt (tgt := 132) dX12_layOther_102 rfl (fun h16 => ?_) (fun h16 => ?_)
    · exact r_lk hX132 (And.intro rfl (And.intro rfl (And.intro rfl (And.intro rfl (And.intro rfl (And.intro rfl True.intro))))))
    refine r_iload dX12_layOther_105 rfl ?_
    refine r_aload_n dX12_layOther_107 rfl ?_
    refine r_getf (v := .int (M14.1 0 63)) dX12_layOther_108 fM_0_63 kX12 (by decide) lkf_X12_510 rfl ?_
    refine r_icmp_gt (tgt := 132) dX12_layOther_111 rfl (fun h17 => ?_) (fun h17 => ?_)
    · exact r_lk hX132 (And.intro rfl (And.intro rfl (And.intro rfl (And.intro rfl (And.intro rfl (And.intro rfl True.intro))))))
    exact r_lk hY114 (And.intro rfl (And.intro rfl (And.intro rfl (And.intro rfl (And.intro rfl (And.intro rfl True.intro))))))
set_option maxRecDepth 100000 in
set_option maxHeartbeats 4000000 in
theorem X12_layOther_L1_ok (G : Gh) (x1 : Int32) (x2 : Int32) (x3 : Int32) {dn : Option (Mem) → Option (Option Value × Mem)} (hs : dn none = none) (hx : ∀ (M6 : Mem), Wr G mi_X12_layOther dn 37 [some (.ref (G.2.2.2 (0))), some (.int x1), some (.int x2), some (.int x3), none, none, none] [] M6 (some M6)) : ∀ (n : Nat) (c4 : Int32) (M : Mem), Wr G mi_X12_layOther dn 3 [some (.ref (G.2.2.2 (0))), some (.int x1), some (.int x2), some (.int x3), some (.int c4), none, none] [] M (X12_layOther_L1 n c4 M) := by
  intro n
  induction n with
  | zero => intro c4 M; exact r_none (by exact hs)
  | succ n ih =>
    intro c4 M
    rw [X12_layOther_L1]
    refine r_iload dX12_layOther_3 rfl ?_
    refine r_iconst (x := 3) dX12_layOther_5 rfl ?_
    refine r_icmp_ge (tgt := 37) dX12_layOther_6 rfl (fun h1 => ?_) (fun h1 => ?_)
    · exact r_lk (hx M) (And.intro rfl (And.intro rfl (And.intro rfl (And.intro rfl True.intro))))
    refine r_aload_n dX12_layOther_9 rfl ?_
    refine r_getf (v := .ref (G.2.2.2 (41))) dX12_layOther_10 fM_0_61 kX12 (by decide) lkf_X12_137 rfl ?_
    refine r_iload dX12_layOther_13 rfl ?_
    refine r_aload_n dX12_layOther_15 rfl ?_
    refine r_getf (v := .ref (G.2.2.2 (40))) dX12_layOther_16 fM_0_60 kX12 (by decide) lkf_X12_134 rfl ?_
    refine r_iload dX12_layOther_19 rfl ?_
    refine r_gd (by exact hs) (fun g2 => ?_)
    refine r_iald dX12_layOther_21 aM_40 (inb_in g2) rfl ?_
    refine r_aload_n dX12_layOther_22 rfl ?_
    refine r_getf (v := .ref (G.2.2.2 (39))) dX12_layOther_23 fM_0_59 kX12 (by decide) lkf_X12_131 rfl ?_
    refine r_iload dX12_layOther_26 rfl ?_
    refine r_gd (by exact hs) (fun g3 => ?_)
    refine r_iald dX12_layOther_28 aM_39 (inb_in g3) rfl ?_
    refine r_isub dX12_layOther_29 ?_
    refine r_gd (by exact hs) (fun g4 => ?_)
    refine r_iast dX12_layOther_30 aM_41 (inb_in g4) rfl (fun M5 => ?_)
    refine r_iinc (y := c4 + 1) (lv' := [some (.ref (G.2.2.2 (0))), some (.int x1), some (.int x2), some (.int x3), some (.int (c4 + 1)), none, none]) dX12_layOther_31 rfl rfl (Nat.le_of_ble_eq_true rfl) rfl rfl ?_
    refine r_goto (tgt := 3) dX12_layOther_34 rfl ?_
    exact r_lk (ih (c4 + 1) M5) (And.intro rfl (And.intro rfl (And.intro rfl (And.intro rfl (And.intro rfl True.intro)))))
set_option maxRecDepth 100000 in
set_option maxHeartbeats 4000000 in
theorem X12_layOther_ok (G : Gh) (x1 : Int32) (x2 : Int32) (x3 : Int32) (M : Mem) : Mt G mi_X12_layOther [.ref (G.2.2.2 (0)), .int x1, .int x2, .int x3] M ((dO dV) (X12_layOther x1 x2 x3 M)) := by
  refine Mt_of (lv := [some (.ref (G.2.2.2 (0))), some (.int x1), some (.int x2), some (.int x3)]) (by decide) rfl (Nat.le_of_ble_eq_true rfl) rfl ?_
  refine r_le (lv' := [some (.ref (G.2.2.2 (0))), some (.int x1), some (.int x2), some (.int x3), none, none, none]) (And.intro rfl (And.intro rfl (And.intro rfl (And.intro rfl True.intro)))) ?_
  unfold X12_layOther
  refine r_iconst (x := 0) dX12_layOther_0 rfl ?_
  refine r_istore (lv' := [some (.ref (G.2.2.2 (0))), some (.int x1), some (.int x2), some (.int x3), some (.int 0), none, none]) dX12_layOther_1 (Nat.le_of_ble_eq_true rfl) rfl rfl ?_
  refine r_jB1 (j := 37) (lvj := fun M6 => [some (.ref (G.2.2.2 (0))), some (.int x1), some (.int x2), some (.int x3), none, none, none]) (stj := fun M6 => []) (Mj := fun M6 => M6) (fun M6 => ?_) (fun hj37 => ?_)
  · refine r_aload_n dX12_layOther_37 rfl ?_
    refine c_OV rfl (inv_V (mi := mi_X12_layOther) (b := 0) (rest := []) (X12_noRow_ok G M6) rfl (by decide) dX12_layOther_38 lkm_X12_478 cal_X12_noRow cM_0 rfl rfl (Nat.le_of_ble_eq_true rfl) rfl) (fun M7 => ?_)
    refine r_iconst (x := 1) dX12_layOther_41 rfl ?_
    refine r_istore (lv' := [some (.ref (G.2.2.2 (0))), some (.int x1), some (.int x2), some (.int x3), some (.int 1), none, none]) dX12_layOther_42 (Nat.le_of_ble_eq_true rfl) rfl rfl ?_
    refine r_jB1 (j := 192) (lvj := fun M36 => [none, none, none, none, none, none, none]) (stj := fun M36 => []) (Mj := fun M36 => M36) (fun M36 => ?_) (fun hj192 => ?_)
    · exact r_vret dX12_layOther_192 rfl rfl
    exact r_lk (X12_layOther_L2_ok G x1 x2 x3 rfl hj192 zFU 1 M7) (And.intro rfl (And.intro rfl (And.intro rfl (And.intro rfl (And.intro rfl True.intro)))))
  exact r_lk (X12_layOther_L1_ok G x1 x2 x3 rfl hj37 zFU 0 M) (And.intro rfl (And.intro rfl (And.intro rfl (And.intro rfl (And.intro rfl True.intro)))))

theorem dX12_layPool_0 : decode cX12_layPool 0 = .ok (.iconst 0, 1) := by decide +kernel
theorem dX12_layPool_1 : decode cX12_layPool 1 = .ok (.istore_n 3, 1) := by decide +kernel
theorem dX12_layPool_2 : decode cX12_layPool 2 = .ok (.iload_n 3, 1) := by decide +kernel
theorem dX12_layPool_3 : decode cX12_layPool 3 = .ok (.iconst 3, 1) := by decide +kernel
theorem dX12_layPool_4 : decode cX12_layPool 4 = .ok (.if_icmp .ge 45, 3) := by decide +kernel
theorem dX12_layPool_7 : decode cX12_layPool 7 = .ok (.aload_n 0, 1) := by decide +kernel
theorem dX12_layPool_8 : decode cX12_layPool 8 = .ok (.getfield 134, 3) := by decide +kernel
theorem dX12_layPool_11 : decode cX12_layPool 11 = .ok (.iload_n 3, 1) := by decide +kernel
theorem dX12_layPool_12 : decode cX12_layPool 12 = .ok (.iload_n 3, 1) := by decide +kernel
theorem dX12_layPool_13 : decode cX12_layPool 13 = .ok (.aload_n 0, 1) := by decide +kernel
theorem dX12_layPool_14 : decode cX12_layPool 14 = .ok (.getfield 20, 3) := by decide +kernel
theorem dX12_layPool_17 : decode cX12_layPool 17 = .ok (.aload_n 0, 1) := by decide +kernel
theorem dX12_layPool_18 : decode cX12_layPool 18 = .ok (.getfield 301, 3) := by decide +kernel
theorem dX12_layPool_21 : decode cX12_layPool 21 = .ok (.iaload, 1) := by decide +kernel
theorem dX12_layPool_22 : decode cX12_layPool 22 = .ok (.if_icmp .ge 19, 3) := by decide +kernel
theorem dX12_layPool_25 : decode cX12_layPool 25 = .ok (.aload_n 0, 1) := by decide +kernel
theorem dX12_layPool_26 : decode cX12_layPool 26 = .ok (.iload_n 1, 1) := by decide +kernel
theorem dX12_layPool_27 : decode cX12_layPool 27 = .ok (.iload_n 3, 1) := by decide +kernel
theorem dX12_layPool_28 : decode cX12_layPool 28 = .ok (.invokevirtual 439, 3) := by decide +kernel
theorem dX12_layPool_31 : decode cX12_layPool 31 = .ok (.aload_n 0, 1) := by decide +kernel
theorem dX12_layPool_32 : decode cX12_layPool 32 = .ok (.iload_n 2, 1) := by decide +kernel
theorem dX12_layPool_33 : decode cX12_layPool 33 = .ok (.iload_n 3, 1) := by decide +kernel
theorem dX12_layPool_34 : decode cX12_layPool 34 = .ok (.invokevirtual 439, 3) := by decide +kernel
theorem dX12_layPool_37 : decode cX12_layPool 37 = .ok (.iadd, 1) := by decide +kernel
theorem dX12_layPool_38 : decode cX12_layPool 38 = .ok (.goto 4, 3) := by decide +kernel
theorem dX12_layPool_41 : decode cX12_layPool 41 = .ok (.iconst 0, 1) := by decide +kernel
theorem dX12_layPool_42 : decode cX12_layPool 42 = .ok (.iastore, 1) := by decide +kernel
theorem dX12_layPool_43 : decode cX12_layPool 43 = .ok (.iinc 3 1, 3) := by decide +kernel
theorem dX12_layPool_46 : decode cX12_layPool 46 = .ok (.goto (-44), 3) := by decide +kernel
theorem dX12_layPool_49 : decode cX12_layPool 49 = .ok (.aload_n 0, 1) := by decide +kernel
theorem dX12_layPool_50 : decode cX12_layPool 50 = .ok (.iconst (-1), 1) := by decide +kernel
theorem dX12_layPool_51 : decode cX12_layPool 51 = .ok (.putfield 507, 3) := by decide +kernel
theorem dX12_layPool_54 : decode cX12_layPool 54 = .ok (.iconst 0, 1) := by decide +kernel
theorem dX12_layPool_55 : decode cX12_layPool 55 = .ok (.istore_n 3, 1) := by decide +kernel
theorem dX12_layPool_56 : decode cX12_layPool 56 = .ok (.iload_n 3, 1) := by decide +kernel
theorem dX12_layPool_57 : decode cX12_layPool 57 = .ok (.iconst 3, 1) := by decide +kernel
theorem dX12_layPool_58 : decode cX12_layPool 58 = .ok (.if_icmp .ge 16, 3) := by decide +kernel
theorem dX12_layPool_61 : decode cX12_layPool 61 = .ok (.aload_n 0, 1) := by decide +kernel
theorem dX12_layPool_62 : decode cX12_layPool 62 = .ok (.getfield 131, 3) := by decide +kernel
theorem dX12_layPool_65 : decode cX12_layPool 65 = .ok (.iload_n 3, 1) := by decide +kernel
theorem dX12_layPool_66 : decode cX12_layPool 66 = .ok (.iconst 0, 1) := by decide +kernel
theorem dX12_layPool_67 : decode cX12_layPool 67 = .ok (.iastore, 1) := by decide +kernel
theorem dX12_layPool_68 : decode cX12_layPool 68 = .ok (.iinc 3 1, 3) := by decide +kernel
theorem dX12_layPool_71 : decode cX12_layPool 71 = .ok (.goto (-15), 3) := by decide +kernel
theorem dX12_layPool_74 : decode cX12_layPool 74 = .ok (.iconst 1, 1) := by decide +kernel
theorem dX12_layPool_75 : decode cX12_layPool 75 = .ok (.istore_n 3, 1) := by decide +kernel
theorem dX12_layPool_76 : decode cX12_layPool 76 = .ok (.iload_n 3, 1) := by decide +kernel
theorem dX12_layPool_77 : decode cX12_layPool 77 = .ok (.ifCond .eq 153, 3) := by decide +kernel
theorem dX12_layPool_80 : decode cX12_layPool 80 = .ok (.iconst 0, 1) := by decide +kernel
theorem dX12_layPool_81 : decode cX12_layPool 81 = .ok (.istore 4, 2) := by decide +kernel
theorem dX12_layPool_83 : decode cX12_layPool 83 = .ok (.iload 4, 2) := by decide +kernel
theorem dX12_layPool_85 : decode cX12_layPool 85 = .ok (.iconst 3, 1) := by decide +kernel
theorem dX12_layPool_86 : decode cX12_layPool 86 = .ok (.if_icmp .ge 24, 3) := by decide +kernel
theorem dX12_layPool_89 : decode cX12_layPool 89 = .ok (.aload_n 0, 1) := by decide +kernel
theorem dX12_layPool_90 : decode cX12_layPool 90 = .ok (.iload_n 1, 1) := by decide +kernel
theorem dX12_layPool_91 : decode cX12_layPool 91 = .ok (.iload 4, 2) := by decide +kernel
theorem dX12_layPool_93 : decode cX12_layPool 93 = .ok (.aload_n 0, 1) := by decide +kernel
theorem dX12_layPool_94 : decode cX12_layPool 94 = .ok (.getfield 131, 3) := by decide +kernel
theorem dX12_layPool_97 : decode cX12_layPool 97 = .ok (.iload 4, 2) := by decide +kernel
theorem dX12_layPool_99 : decode cX12_layPool 99 = .ok (.iaload, 1) := by decide +kernel
theorem dX12_layPool_100 : decode cX12_layPool 100 = .ok (.iconst 1, 1) := by decide +kernel
theorem dX12_layPool_101 : decode cX12_layPool 101 = .ok (.invokevirtual 448, 3) := by decide +kernel
theorem dX12_layPool_104 : decode cX12_layPool 104 = .ok (.iinc 4 1, 3) := by decide +kernel
theorem dX12_layPool_107 : decode cX12_layPool 107 = .ok (.goto (-24), 3) := by decide +kernel
theorem dX12_layPool_110 : decode cX12_layPool 110 = .ok (.aload_n 0, 1) := by decide +kernel
theorem dX12_layPool_111 : decode cX12_layPool 111 = .ok (.iload_n 1, 1) := by decide +kernel
theorem dX12_layPool_112 : decode cX12_layPool 112 = .ok (.iload_n 2, 1) := by decide +kernel
theorem dX12_layPool_113 : decode cX12_layPool 113 = .ok (.aload_n 0, 1) := by decide +kernel
theorem dX12_layPool_114 : decode cX12_layPool 114 = .ok (.getfield 131, 3) := by decide +kernel
theorem dX12_layPool_117 : decode cX12_layPool 117 = .ok (.iconst 0, 1) := by decide +kernel
theorem dX12_layPool_118 : decode cX12_layPool 118 = .ok (.iaload, 1) := by decide +kernel
theorem dX12_layPool_119 : decode cX12_layPool 119 = .ok (.aload_n 0, 1) := by decide +kernel
theorem dX12_layPool_120 : decode cX12_layPool 120 = .ok (.getfield 131, 3) := by decide +kernel
theorem dX12_layPool_123 : decode cX12_layPool 123 = .ok (.iconst 1, 1) := by decide +kernel
theorem dX12_layPool_124 : decode cX12_layPool 124 = .ok (.iaload, 1) := by decide +kernel
theorem dX12_layPool_125 : decode cX12_layPool 125 = .ok (.iadd, 1) := by decide +kernel
theorem dX12_layPool_126 : decode cX12_layPool 126 = .ok (.aload_n 0, 1) := by decide +kernel
theorem dX12_layPool_127 : decode cX12_layPool 127 = .ok (.getfield 131, 3) := by decide +kernel
theorem dX12_layPool_130 : decode cX12_layPool 130 = .ok (.iconst 2, 1) := by decide +kernel
theorem dX12_layPool_131 : decode cX12_layPool 131 = .ok (.iaload, 1) := by decide +kernel
theorem dX12_layPool_132 : decode cX12_layPool 132 = .ok (.iadd, 1) := by decide +kernel
theorem dX12_layPool_133 : decode cX12_layPool 133 = .ok (.invokevirtual 513, 3) := by decide +kernel
theorem dX12_layPool_136 : decode cX12_layPool 136 = .ok (.iconst 0, 1) := by decide +kernel
theorem dX12_layPool_137 : decode cX12_layPool 137 = .ok (.istore 4, 2) := by decide +kernel
theorem dX12_layPool_139 : decode cX12_layPool 139 = .ok (.iload 4, 2) := by decide +kernel
theorem dX12_layPool_141 : decode cX12_layPool 141 = .ok (.iconst 3, 1) := by decide +kernel
theorem dX12_layPool_142 : decode cX12_layPool 142 = .ok (.if_icmp .ge 38, 3) := by decide +kernel
theorem dX12_layPool_145 : decode cX12_layPool 145 = .ok (.aload_n 0, 1) := by decide +kernel
theorem dX12_layPool_146 : decode cX12_layPool 146 = .ok (.iload_n 1, 1) := by decide +kernel
theorem dX12_layPool_147 : decode cX12_layPool 147 = .ok (.iload 4, 2) := by decide +kernel
theorem dX12_layPool_149 : decode cX12_layPool 149 = .ok (.aload_n 0, 1) := by decide +kernel
theorem dX12_layPool_150 : decode cX12_layPool 150 = .ok (.getfield 131, 3) := by decide +kernel
theorem dX12_layPool_153 : decode cX12_layPool 153 = .ok (.iload 4, 2) := by decide +kernel
theorem dX12_layPool_155 : decode cX12_layPool 155 = .ok (.iaload, 1) := by decide +kernel
theorem dX12_layPool_156 : decode cX12_layPool 156 = .ok (.iconst (-1), 1) := by decide +kernel
theorem dX12_layPool_157 : decode cX12_layPool 157 = .ok (.invokevirtual 448, 3) := by decide +kernel
theorem dX12_layPool_160 : decode cX12_layPool 160 = .ok (.aload_n 0, 1) := by decide +kernel
theorem dX12_layPool_161 : decode cX12_layPool 161 = .ok (.getfield 119, 3) := by decide +kernel
theorem dX12_layPool_164 : decode cX12_layPool 164 = .ok (.iload 4, 2) := by decide +kernel
theorem dX12_layPool_166 : decode cX12_layPool 166 = .ok (.aload_n 0, 1) := by decide +kernel
theorem dX12_layPool_167 : decode cX12_layPool 167 = .ok (.getfield 131, 3) := by decide +kernel
theorem dX12_layPool_170 : decode cX12_layPool 170 = .ok (.iload 4, 2) := by decide +kernel
theorem dX12_layPool_172 : decode cX12_layPool 172 = .ok (.iaload, 1) := by decide +kernel
theorem dX12_layPool_173 : decode cX12_layPool 173 = .ok (.iastore, 1) := by decide +kernel
theorem dX12_layPool_174 : decode cX12_layPool 174 = .ok (.iinc 4 1, 3) := by decide +kernel
theorem dX12_layPool_177 : decode cX12_layPool 177 = .ok (.goto (-38), 3) := by decide +kernel
theorem dX12_layPool_180 : decode cX12_layPool 180 = .ok (.aload_n 0, 1) := by decide +kernel
theorem dX12_layPool_181 : decode cX12_layPool 181 = .ok (.aload_n 0, 1) := by decide +kernel
theorem dX12_layPool_182 : decode cX12_layPool 182 = .ok (.getfield 134, 3) := by decide +kernel
theorem dX12_layPool_185 : decode cX12_layPool 185 = .ok (.iconst 3, 1) := by decide +kernel
theorem dX12_layPool_186 : decode cX12_layPool 186 = .ok (.aload_n 0, 1) := by decide +kernel
theorem dX12_layPool_187 : decode cX12_layPool 187 = .ok (.iload_n 1, 1) := by decide +kernel
theorem dX12_layPool_188 : decode cX12_layPool 188 = .ok (.invokevirtual 442, 3) := by decide +kernel
theorem dX12_layPool_191 : decode cX12_layPool 191 = .ok (.invokestatic 452, 3) := by decide +kernel
theorem dX12_layPool_194 : decode cX12_layPool 194 = .ok (.invokevirtual 490, 3) := by decide +kernel
theorem dX12_layPool_197 : decode cX12_layPool 197 = .ok (.istore_n 3, 1) := by decide +kernel
theorem dX12_layPool_198 : decode cX12_layPool 198 = .ok (.iconst 0, 1) := by decide +kernel
theorem dX12_layPool_199 : decode cX12_layPool 199 = .ok (.istore 4, 2) := by decide +kernel
theorem dX12_layPool_201 : decode cX12_layPool 201 = .ok (.iload 4, 2) := by decide +kernel
theorem dX12_layPool_203 : decode cX12_layPool 203 = .ok (.iconst 3, 1) := by decide +kernel
theorem dX12_layPool_204 : decode cX12_layPool 204 = .ok (.if_icmp .ge 23, 3) := by decide +kernel
theorem dX12_layPool_207 : decode cX12_layPool 207 = .ok (.aload_n 0, 1) := by decide +kernel
theorem dX12_layPool_208 : decode cX12_layPool 208 = .ok (.getfield 131, 3) := by decide +kernel
theorem dX12_layPool_211 : decode cX12_layPool 211 = .ok (.iload 4, 2) := by decide +kernel
theorem dX12_layPool_213 : decode cX12_layPool 213 = .ok (.aload_n 0, 1) := by decide +kernel
theorem dX12_layPool_214 : decode cX12_layPool 214 = .ok (.getfield 119, 3) := by decide +kernel
theorem dX12_layPool_217 : decode cX12_layPool 217 = .ok (.iload 4, 2) := by decide +kernel
theorem dX12_layPool_219 : decode cX12_layPool 219 = .ok (.iaload, 1) := by decide +kernel
theorem dX12_layPool_220 : decode cX12_layPool 220 = .ok (.iastore, 1) := by decide +kernel
theorem dX12_layPool_221 : decode cX12_layPool 221 = .ok (.iinc 4 1, 3) := by decide +kernel
theorem dX12_layPool_224 : decode cX12_layPool 224 = .ok (.goto (-23), 3) := by decide +kernel
theorem dX12_layPool_227 : decode cX12_layPool 227 = .ok (.goto (-151), 3) := by decide +kernel
theorem dX12_layPool_230 : decode cX12_layPool 230 = .ok (.aload_n 0, 1) := by decide +kernel
theorem dX12_layPool_231 : decode cX12_layPool 231 = .ok (.iconst 2, 1) := by decide +kernel
theorem dX12_layPool_232 : decode cX12_layPool 232 = .ok (.aload_n 0, 1) := by decide +kernel
theorem dX12_layPool_233 : decode cX12_layPool 233 = .ok (.getfield 20, 3) := by decide +kernel
theorem dX12_layPool_236 : decode cX12_layPool 236 = .ok (.aload_n 0, 1) := by decide +kernel
theorem dX12_layPool_237 : decode cX12_layPool 237 = .ok (.getfield 301, 3) := by decide +kernel
theorem dX12_layPool_240 : decode cX12_layPool 240 = .ok (.iaload, 1) := by decide +kernel
theorem dX12_layPool_241 : decode cX12_layPool 241 = .ok (.imul, 1) := by decide +kernel
theorem dX12_layPool_242 : decode cX12_layPool 242 = .ok (.putfield 414, 3) := by decide +kernel
theorem dX12_layPool_245 : decode cX12_layPool 245 = .ok (.return_, 1) := by decide +kernel
abbrev mi_X12_layPool : MI := (zTM, RX12, yX12_layPool, cX12_layPool, 5, none, 7)
theorem cal_X12_layPool : zCalV mi_X12_layPool 2 := ⟨⟨zTB_i8 235 (by decide +kernel), zTB_i8 234 (by decide +kernel), zTB_i0 105 (by decide +kernel), zTB_i1 13 (by decide +kernel)⟩, ⟨by decide, by decide, by decide +kernel⟩, by decide⟩
noncomputable def X12_layPool_L6 : Nat → Int32 → Mem → Option (Mem)
  | 0, _, _ => none
  | n + 1, c4, M =>
    if 3 ≤ c4 then
      some M
    else
    gd_ (inb c4 (3) = true) (
    gd_ (inb c4 (3) = true) (
    lt_ (uI M 39 c4.toNatClampNeg (M.1 35 c4.toNatClampNeg)) fun M33 =>
    X12_layPool_L6 n (c4 + 1) M33))
noncomputable def X12_layPool_L5 (x1 : Int32) : Nat → Int32 → Mem → Option (Mem)
  | 0, _, _ => none
  | n + 1, c4, M =>
    if 3 ≤ c4 then
      some M
    else
    gd_ (inb c4 (3) = true) (
    bo_ (X12_lay x1 c4 (M.1 39 c4.toNatClampNeg) (-1) M) fun M23 =>
    gd_ (inb c4 (3) = true) (
    lt_ (uI M23 35 c4.toNatClampNeg (M23.1 39 c4.toNatClampNeg)) fun M25 =>
    X12_layPool_L5 x1 n (c4 + 1) M25))
noncomputable def X12_layPool_L4 (x1 : Int32) : Nat → Int32 → Mem → Option (Mem)
  | 0, _, _ => none
  | n + 1, c4, M =>
    if 3 ≤ c4 then
      some M
    else
    gd_ (inb c4 (3) = true) (
    bo_ (X12_lay x1 c4 (M.1 39 c4.toNatClampNeg) 1 M) fun M18 =>
    X12_layPool_L4 x1 n (c4 + 1) M18)
noncomputable def X12_layPool_L3 (x1 : Int32) (x2 : Int32) : Nat → Int32 → Mem → Option (Mem)
  | 0, _, _ => none
  | n + 1, c3, M =>
    if c3 = 0 then
      some M
    else
    b1_ (α := Mem) (X12_layPool_L4 x1 zFU 0 M) fun M19 =>
    bo_ (X12_layOther x1 x2 (((M19.1 39 0) + (M19.1 39 1)) + (M19.1 39 2)) M19) fun M20 =>
    b1_ (α := Mem) (X12_layPool_L5 x1 zFU 0 M20) fun M26 =>
    bo_ (X12_leftOf x1 M26) fun v27 =>
    bp_ (X12_nextRow 40 (X12_lesser 3 v27) M26) fun b28 M29 =>
    b1_ (α := Mem) (X12_layPool_L6 zFU 0 M29) fun M34 =>
    X12_layPool_L3 x1 x2 n (b2i (b28)) M34
noncomputable def X12_layPool_L2 : Nat → Int32 → Mem → Option (Mem)
  | 0, _, _ => none
  | n + 1, c3, M =>
    if 3 ≤ c3 then
      some M
    else
    gd_ (inb c3 (3) = true) (
    lt_ (uI M 39 c3.toNatClampNeg 0) fun M13 =>
    X12_layPool_L2 n (c3 + 1) M13)
noncomputable def X12_layPool_L1 (x1 : Int32) (x2 : Int32) : Nat → Int32 → Mem → Option (Mem)
  | 0, _, _ => none
  | n + 1, c3, M =>
    if 3 ≤ c3 then
      some M
    else
    gd_ (inb (M.1 0 41) (2) = true) (
    b1_ (α := Int32) (
      if (M.1 3 ((M.1 0 41).toNatClampNeg)) ≤ c3 then
        some 0
      else
      bo_ (X12_inPurse x1 c3 M) fun v4 =>
      bo_ (X12_inPurse x2 c3 M) fun v5 =>
      some (v4 + v5)) fun y6 =>
    gd_ (inb c3 (3) = true) (
    lt_ (uI M 40 c3.toNatClampNeg y6) fun M8 =>
    X12_layPool_L1 x1 x2 n (c3 + 1) M8))
noncomputable def X12_layPool (x1 : Int32) (x2 : Int32) (M : Mem) : Option (Mem) :=
  b1_ (α := Mem) (X12_layPool_L1 x1 x2 zFU 0 M) fun M9 =>
  lt_ (uI M9 0 62 (-1)) fun M10 =>
  b1_ (α := Mem) (X12_layPool_L2 zFU 0 M10) fun M14 =>
  b1_ (α := Mem) (X12_layPool_L3 x1 x2 zFU 1 M14) fun M35 =>
  gd_ (inb (M35.1 0 41) (2) = true) (
  lt_ (uI M35 0 55 (2 * (M35.1 3 ((M35.1 0 41).toNatClampNeg)))) fun M37 =>
  some M37)
set_option maxRecDepth 100000 in
set_option maxHeartbeats 4000000 in
theorem X12_layPool_L6_ok (G : Gh) (x1 : Int32) (x2 : Int32) (b28 : Bool) {dn : Option (Mem) → Option (Option Value × Mem)} (hs : dn none = none) (hx : ∀ (M34 : Mem), Wr G mi_X12_layPool dn 227 [some (.ref (G.2.2.2 (0))), some (.int x1), some (.int x2), some (.int (b2i (b28))), none] [] M34 (some M34)) : ∀ (n : Nat) (c4 : Int32) (M : Mem), Wr G mi_X12_layPool dn 201 [some (.ref (G.2.2.2 (0))), some (.int x1), some (.int x2), some (.int (b2i (b28))), some (.int c4)] [] M (X12_layPool_L6 n c4 M) := by
  intro n
  induction n with
  | zero => intro c4 M; exact r_none (by exact hs)
  | succ n ih =>
    intro c4 M
    rw [X12_layPool_L6]
    refine r_iload dX12_layPool_201 rfl ?_
    refine r_iconst (x := 3) dX12_layPool_203 rfl ?_
    refine r_icmp_ge (tgt := 227) dX12_layPool_204 rfl (fun h30 => ?_) (fun h30 => ?_)
    · exact r_lk (hx M) (And.intro rfl (And.intro rfl (And.intro rfl (And.intro rfl True.intro))))
    refine r_aload_n dX12_layPool_207 rfl ?_
    refine r_getf (v := .ref (G.2.2.2 (39))) dX12_layPool_208 fM_0_59 kX12 (by decide) lkf_X12_131 rfl ?_
    refine r_iload dX12_layPool_211 rfl ?_
    refine r_aload_n dX12_layPool_213 rfl ?_
    refine r_getf (v := .ref (G.2.2.2 (35))) dX12_layPool_214 fM_0_52 kX12 (by decide) lkf_X12_119 rfl ?_
    refine r_iload dX12_layPool_217 rfl ?_
    refine r_gd (by exact hs) (fun g31 => ?_)
    refine r_iald dX12_layPool_219 aM_35 (inb_in g31) rfl ?_
    refine r_gd (by exact hs) (fun g32 => ?_)
    refine r_iast dX12_layPool_220 aM_39 (inb_in g32) rfl (fun M33 => ?_)
    refine r_iinc (y := c4 + 1) (lv' := [some (.ref (G.2.2.2 (0))), some (.int x1), some (.int x2), some (.int (b2i (b28))), some (.int (c4 + 1))]) dX12_layPool_221 rfl rfl (Nat.le_of_ble_eq_true rfl) rfl rfl ?_
    refine r_goto (tgt := 201) dX12_layPool_224 rfl ?_
    exact r_lk (ih (c4 + 1) M33) (And.intro rfl (And.intro rfl (And.intro rfl (And.intro rfl (And.intro rfl True.intro)))))
set_option maxRecDepth 100000 in
set_option maxHeartbeats 4000000 in
theorem X12_layPool_L5_ok (G : Gh) (x1 : Int32) (x2 : Int32) {dn : Option (Mem) → Option (Option Value × Mem)} (hs : dn none = none) (hx : ∀ (M26 : Mem), Wr G mi_X12_layPool dn 180 [some (.ref (G.2.2.2 (0))), some (.int x1), some (.int x2), none, none] [] M26 (some M26)) : ∀ (n : Nat) (c4 : Int32) (M : Mem), Wr G mi_X12_layPool dn 139 [some (.ref (G.2.2.2 (0))), some (.int x1), some (.int x2), none, some (.int c4)] [] M (X12_layPool_L5 x1 n c4 M) := by
  intro n
  induction n with
  | zero => intro c4 M; exact r_none (by exact hs)
  | succ n ih =>
    intro c4 M
    rw [X12_layPool_L5]
    refine r_iload dX12_layPool_139 rfl ?_
    refine r_iconst (x := 3) dX12_layPool_141 rfl ?_
    refine r_icmp_ge (tgt := 180) dX12_layPool_142 rfl (fun h21 => ?_) (fun h21 => ?_)
    · exact r_lk (hx M) (And.intro rfl (And.intro rfl (And.intro rfl True.intro)))
    refine r_aload_n dX12_layPool_145 rfl ?_
    refine r_iload_n dX12_layPool_146 rfl ?_
    refine r_iload dX12_layPool_147 rfl ?_
    refine r_aload_n dX12_layPool_149 rfl ?_
    refine r_getf (v := .ref (G.2.2.2 (39))) dX12_layPool_150 fM_0_59 kX12 (by decide) lkf_X12_131 rfl ?_
    refine r_iload dX12_layPool_153 rfl ?_
    refine r_gd (by exact hs) (fun g22 => ?_)
    refine r_iald dX12_layPool_155 aM_39 (inb_in g22) rfl ?_
    refine r_iconst (x := (-1)) dX12_layPool_156 rfl ?_
    refine c_OV (by exact hs) (inv_V (mi := mi_X12_layPool) (b := 0) (rest := []) (X12_lay_ok G x1 c4 (M.1 39 c4.toNatClampNeg) (-1) M) rfl (by decide) dX12_layPool_157 lkm_X12_448 cal_X12_lay cM_0 rfl rfl (Nat.le_of_ble_eq_true rfl) rfl) (fun M23 => ?_)
    refine r_aload_n dX12_layPool_160 rfl ?_
    refine r_getf (v := .ref (G.2.2.2 (35))) dX12_layPool_161 fM_0_52 kX12 (by decide) lkf_X12_119 rfl ?_
    refine r_iload dX12_layPool_164 rfl ?_
    refine r_aload_n dX12_layPool_166 rfl ?_
    refine r_getf (v := .ref (G.2.2.2 (39))) dX12_layPool_167 fM_0_59 kX12 (by decide) lkf_X12_131 rfl ?_
    refine r_iload dX12_layPool_170 rfl ?_
    refine r_iald dX12_layPool_172 aM_39 (inb_in g22) rfl ?_
    refine r_gd (by exact hs) (fun g24 => ?_)
    refine r_iast dX12_layPool_173 aM_35 (inb_in g24) rfl (fun M25 => ?_)
    refine r_iinc (y := c4 + 1) (lv' := [some (.ref (G.2.2.2 (0))), some (.int x1), some (.int x2), none, some (.int (c4 + 1))]) dX12_layPool_174 rfl rfl (Nat.le_of_ble_eq_true rfl) rfl rfl ?_
    refine r_goto (tgt := 139) dX12_layPool_177 rfl ?_
    exact r_lk (ih (c4 + 1) M25) (And.intro rfl (And.intro rfl (And.intro rfl (And.intro rfl True.intro))))
set_option maxRecDepth 100000 in
set_option maxHeartbeats 4000000 in
theorem X12_layPool_L4_ok (G : Gh) (x1 : Int32) (x2 : Int32) {dn : Option (Mem) → Option (Option Value × Mem)} (hs : dn none = none) (hx : ∀ (M19 : Mem), Wr G mi_X12_layPool dn 110 [some (.ref (G.2.2.2 (0))), some (.int x1), some (.int x2), none, none] [] M19 (some M19)) : ∀ (n : Nat) (c4 : Int32) (M : Mem), Wr G mi_X12_layPool dn 83 [some (.ref (G.2.2.2 (0))), some (.int x1), some (.int x2), none, some (.int c4)] [] M (X12_layPool_L4 x1 n c4 M) := by
  intro n
  induction n with
  | zero => intro c4 M; exact r_none (by exact hs)
  | succ n ih =>
    intro c4 M
    rw [X12_layPool_L4]
    refine r_iload dX12_layPool_83 rfl ?_
    refine r_iconst (x := 3) dX12_layPool_85 rfl ?_
    refine r_icmp_ge (tgt := 110) dX12_layPool_86 rfl (fun h16 => ?_) (fun h16 => ?_)
    · exact r_lk (hx M) (And.intro rfl (And.intro rfl (And.intro rfl True.intro)))
    refine r_aload_n dX12_layPool_89 rfl ?_
    refine r_iload_n dX12_layPool_90 rfl ?_
    refine r_iload dX12_layPool_91 rfl ?_
    refine r_aload_n dX12_layPool_93 rfl ?_
    refine r_getf (v := .ref (G.2.2.2 (39))) dX12_layPool_94 fM_0_59 kX12 (by decide) lkf_X12_131 rfl ?_
    refine r_iload dX12_layPool_97 rfl ?_
    refine r_gd (by exact hs) (fun g17 => ?_)
    refine r_iald dX12_layPool_99 aM_39 (inb_in g17) rfl ?_
    refine r_iconst (x := 1) dX12_layPool_100 rfl ?_
    refine c_OV (by exact hs) (inv_V (mi := mi_X12_layPool) (b := 0) (rest := []) (X12_lay_ok G x1 c4 (M.1 39 c4.toNatClampNeg) 1 M) rfl (by decide) dX12_layPool_101 lkm_X12_448 cal_X12_lay cM_0 rfl rfl (Nat.le_of_ble_eq_true rfl) rfl) (fun M18 => ?_)
    refine r_iinc (y := c4 + 1) (lv' := [some (.ref (G.2.2.2 (0))), some (.int x1), some (.int x2), none, some (.int (c4 + 1))]) dX12_layPool_104 rfl rfl (Nat.le_of_ble_eq_true rfl) rfl rfl ?_
    refine r_goto (tgt := 83) dX12_layPool_107 rfl ?_
    exact r_lk (ih (c4 + 1) M18) (And.intro rfl (And.intro rfl (And.intro rfl (And.intro rfl True.intro))))
set_option maxRecDepth 100000 in
set_option maxHeartbeats 4000000 in
theorem X12_layPool_L3_ok (G : Gh) (x1 : Int32) (x2 : Int32) {dn : Option (Mem) → Option (Option Value × Mem)} (hs : dn none = none) (hx : ∀ (M35 : Mem), Wr G mi_X12_layPool dn 230 [some (.ref (G.2.2.2 (0))), none, none, none, none] [] M35 (some M35)) : ∀ (n : Nat) (c3 : Int32) (M : Mem), Wr G mi_X12_layPool dn 76 [some (.ref (G.2.2.2 (0))), some (.int x1), some (.int x2), some (.int c3), none] [] M (X12_layPool_L3 x1 x2 n c3 M) := by
  intro n
  induction n with
  | zero => intro c3 M; exact r_none (by exact hs)
  | succ n ih =>
    intro c3 M
    rw [X12_layPool_L3]
    refine r_iload_n dX12_layPool_76 rfl ?_
    refine r_if_eq (tgt := 230) dX12_layPool_77 rfl (fun h15 => ?_) (fun h15 => ?_)
    · exact r_lk (hx M) (And.intro rfl True.intro)
    refine r_iconst (x := 0) dX12_layPool_80 rfl ?_
    refine r_istore (lv' := [some (.ref (G.2.2.2 (0))), some (.int x1), some (.int x2), some (.int c3), some (.int 0)]) dX12_layPool_81 (Nat.le_of_ble_eq_true rfl) rfl rfl ?_
    refine r_jB1 (j := 110) (lvj := fun M19 => [some (.ref (G.2.2.2 (0))), some (.int x1), some (.int x2), none, none]) (stj := fun M19 => []) (Mj := fun M19 => M19) (fun M19 => ?_) (fun hj110 => ?_)
    · refine r_aload_n dX12_layPool_110 rfl ?_
      refine r_iload_n dX12_layPool_111 rfl ?_
      refine r_iload_n dX12_layPool_112 rfl ?_
      refine r_aload_n dX12_layPool_113 rfl ?_
      refine r_getf (v := .ref (G.2.2.2 (39))) dX12_layPool_114 fM_0_59 kX12 (by decide) lkf_X12_131 rfl ?_
      refine r_iconst (x := 0) dX12_layPool_117 rfl ?_
      refine r_iald dX12_layPool_118 aM_39 (inb_in (i := 0) (n := 3) rfl) (m := 0) rfl ?_
      refine r_aload_n dX12_layPool_119 rfl ?_
      refine r_getf (v := .ref (G.2.2.2 (39))) dX12_layPool_120 fM_0_59 kX12 (by decide) lkf_X12_131 rfl ?_
      refine r_iconst (x := 1) dX12_layPool_123 rfl ?_
      refine r_iald dX12_layPool_124 aM_39 (inb_in (i := 1) (n := 3) rfl) (m := 1) rfl ?_
      refine r_iadd dX12_layPool_125 ?_
      refine r_aload_n dX12_layPool_126 rfl ?_
      refine r_getf (v := .ref (G.2.2.2 (39))) dX12_layPool_127 fM_0_59 kX12 (by decide) lkf_X12_131 rfl ?_
      refine r_iconst (x := 2) dX12_layPool_130 rfl ?_
      refine r_iald dX12_layPool_131 aM_39 (inb_in (i := 2) (n := 3) rfl) (m := 2) rfl ?_
      refine r_iadd dX12_layPool_132 ?_
      refine c_OV (by exact hs) (inv_V (mi := mi_X12_layPool) (b := 0) (rest := []) (X12_layOther_ok G x1 x2 (((M19.1 39 0) + (M19.1 39 1)) + (M19.1 39 2)) M19) rfl (by decide) dX12_layPool_133 lkm_X12_513 cal_X12_layOther cM_0 rfl rfl (Nat.le_of_ble_eq_true rfl) rfl) (fun M20 => ?_)
      refine r_iconst (x := 0) dX12_layPool_136 rfl ?_
      refine r_istore (lv' := [some (.ref (G.2.2.2 (0))), some (.int x1), some (.int x2), none, some (.int 0)]) dX12_layPool_137 (Nat.le_of_ble_eq_true rfl) rfl rfl ?_
      refine r_jB1 (j := 180) (lvj := fun M26 => [some (.ref (G.2.2.2 (0))), some (.int x1), some (.int x2), none, none]) (stj := fun M26 => []) (Mj := fun M26 => M26) (fun M26 => ?_) (fun hj180 => ?_)
      · refine r_aload_n dX12_layPool_180 rfl ?_
        refine r_aload_n dX12_layPool_181 rfl ?_
        refine r_getf (v := .ref (G.2.2.2 (40))) dX12_layPool_182 fM_0_60 kX12 (by decide) lkf_X12_134 rfl ?_
        refine r_iconst (x := 3) dX12_layPool_185 rfl ?_
        refine r_aload_n dX12_layPool_186 rfl ?_
        refine r_iload_n dX12_layPool_187 rfl ?_
        refine c_OI (by exact hs) (inv_V (mi := mi_X12_layPool) (b := 0) (rest := [.int 3, .ref (G.2.2.2 (40)), .ref (G.2.2.2 (0))]) (X12_leftOf_ok G x1 M26) rfl (by decide) dX12_layPool_188 lkm_X12_442 cal_X12_leftOf cM_0 rfl rfl (Nat.le_of_ble_eq_true rfl) rfl) (fun v27 => ?_)
        refine c_I (inv_S (mi := mi_X12_layPool) (rest := [.ref (G.2.2.2 (40)), .ref (G.2.2.2 (0))]) (X12_lesser_ok G 3 v27 M26) rfl (by decide) dX12_layPool_191 lkm_X12_452 cal_X12_lesser rfl (Nat.le_of_ble_eq_true rfl) rfl) ?_
        refine c_OZM (by exact hs) (inv_V (mi := mi_X12_layPool) (b := 0) (rest := []) (X12_nextRow_ok G aM_40p (X12_lesser 3 v27) M26) rfl (by decide) dX12_layPool_194 lkm_X12_490 cal_X12_nextRow cM_0 rfl rfl (Nat.le_of_ble_eq_true rfl) rfl) (fun b28 M29 => ?_)
        refine r_istore_n (lv' := [some (.ref (G.2.2.2 (0))), some (.int x1), some (.int x2), some (.int (b2i (b28))), none]) dX12_layPool_197 (Nat.le_of_ble_eq_true rfl) rfl rfl ?_
        refine r_iconst (x := 0) dX12_layPool_198 rfl ?_
        refine r_istore (lv' := [some (.ref (G.2.2.2 (0))), some (.int x1), some (.int x2), some (.int (b2i (b28))), some (.int 0)]) dX12_layPool_199 (Nat.le_of_ble_eq_true rfl) rfl rfl ?_
        refine r_jB1 (j := 227) (lvj := fun M34 => [some (.ref (G.2.2.2 (0))), some (.int x1), some (.int x2), some (.int (b2i (b28))), none]) (stj := fun M34 => []) (Mj := fun M34 => M34) (fun M34 => ?_) (fun hj227 => ?_)
        · refine r_goto (tgt := 76) dX12_layPool_227 rfl ?_
          exact r_lk (ih (b2i (b28)) M34) (And.intro rfl (And.intro rfl (And.intro rfl (And.intro rfl True.intro))))
        exact r_lk (X12_layPool_L6_ok G x1 x2 b28 (by exact hs) hj227 zFU 0 M29) (And.intro rfl (And.intro rfl (And.intro rfl (And.intro rfl (And.intro rfl True.intro)))))
      exact r_lk (X12_layPool_L5_ok G x1 x2 (by exact hs) hj180 zFU 0 M20) (And.intro rfl (And.intro rfl (And.intro rfl (And.intro rfl True.intro))))
    exact r_lk (X12_layPool_L4_ok G x1 x2 (by exact hs) hj110 zFU 0 M) (And.intro rfl (And.intro rfl (And.intro rfl (And.intro rfl True.intro))))
set_option maxRecDepth 100000 in
set_option maxHeartbeats 4000000 in
theorem X12_layPool_L2_ok (G : Gh) (x1 : Int32) (x2 : Int32) {dn : Option (Mem) → Option (Option Value × Mem)} (hs : dn none = none) (hx : ∀ (M14 : Mem), Wr G mi_X12_layPool dn 74 [some (.ref (G.2.2.2 (0))), some (.int x1), some (.int x2), none, none] [] M14 (some M14)) : ∀ (n : Nat) (c3 : Int32) (M : Mem), Wr G mi_X12_layPool dn 56 [some (.ref (G.2.2.2 (0))), some (.int x1), some (.int x2), some (.int c3), none] [] M (X12_layPool_L2 n c3 M) := by
  intro n
  induction n with
  | zero => intro c3 M; exact r_none (by exact hs)
  | succ n ih =>
    intro c3 M
    rw [X12_layPool_L2]
    refine r_iload_n dX12_layPool_56 rfl ?_
    refine r_iconst (x := 3) dX12_layPool_57 rfl ?_
    refine r_icmp_ge (tgt := 74) dX12_layPool_58 rfl (fun h11 => ?_) (fun h11 => ?_)
    · exact r_lk (hx M) (And.intro rfl (And.intro rfl (And.intro rfl True.intro)))
    refine r_aload_n dX12_layPool_61 rfl ?_
    refine r_getf (v := .ref (G.2.2.2 (39))) dX12_layPool_62 fM_0_59 kX12 (by decide) lkf_X12_131 rfl ?_
    refine r_iload_n dX12_layPool_65 rfl ?_
    refine r_iconst (x := 0) dX12_layPool_66 rfl ?_
    refine r_gd (by exact hs) (fun g12 => ?_)
    refine r_iast dX12_layPool_67 aM_39 (inb_in g12) rfl (fun M13 => ?_)
    refine r_iinc (y := c3 + 1) (lv' := [some (.ref (G.2.2.2 (0))), some (.int x1), some (.int x2), some (.int (c3 + 1)), none]) dX12_layPool_68 rfl rfl (Nat.le_of_ble_eq_true rfl) rfl rfl ?_
    refine r_goto (tgt := 56) dX12_layPool_71 rfl ?_
    exact r_lk (ih (c3 + 1) M13) (And.intro rfl (And.intro rfl (And.intro rfl (And.intro rfl True.intro))))
set_option maxRecDepth 100000 in
set_option maxHeartbeats 4000000 in
theorem X12_layPool_L1_ok (G : Gh) (x1 : Int32) (x2 : Int32) {dn : Option (Mem) → Option (Option Value × Mem)} (hs : dn none = none) (hx : ∀ (M9 : Mem), Wr G mi_X12_layPool dn 49 [some (.ref (G.2.2.2 (0))), some (.int x1), some (.int x2), none, none] [] M9 (some M9)) : ∀ (n : Nat) (c3 : Int32) (M : Mem), Wr G mi_X12_layPool dn 2 [some (.ref (G.2.2.2 (0))), some (.int x1), some (.int x2), some (.int c3), none] [] M (X12_layPool_L1 x1 x2 n c3 M) := by
  intro n
  induction n with
  | zero => intro c3 M; exact r_none (by exact hs)
  | succ n ih =>
    intro c3 M
    rw [X12_layPool_L1]
    refine r_iload_n dX12_layPool_2 rfl ?_
    refine r_iconst (x := 3) dX12_layPool_3 rfl ?_
    refine r_icmp_ge (tgt := 49) dX12_layPool_4 rfl (fun h1 => ?_) (fun h1 => ?_)
    · exact r_lk (hx M) (And.intro rfl (And.intro rfl (And.intro rfl True.intro)))
    refine r_aload_n dX12_layPool_7 rfl ?_
    refine r_getf (v := .ref (G.2.2.2 (40))) dX12_layPool_8 fM_0_60 kX12 (by decide) lkf_X12_134 rfl ?_
    refine r_iload_n dX12_layPool_11 rfl ?_
    refine r_iload_n dX12_layPool_12 rfl ?_
    refine r_aload_n dX12_layPool_13 rfl ?_
    refine r_getf (v := .ref (G.2.2.2 (3))) dX12_layPool_14 fM_0_11 kX12 (by decide) lkf_X12_20 rfl ?_
    refine r_aload_n dX12_layPool_17 rfl ?_
    refine r_getf (v := .int (M.1 0 41)) dX12_layPool_18 fM_0_41 kX12 (by decide) lkf_X12_301 rfl ?_
    refine r_gd (by exact hs) (fun g2 => ?_)
    refine r_iald dX12_layPool_21 aM_3 (inb_in g2) rfl ?_
    refine r_jB1 (j := 42) (lvj := fun y6 => [some (.ref (G.2.2.2 (0))), some (.int x1), some (.int x2), some (.int c3), none]) (stj := fun y6 => [.int y6, .int c3, .ref (G.2.2.2 (40))]) (Mj := fun y6 => M) (fun y6 => ?_) (fun hj42 => ?_)
    · refine r_gd (by exact hs) (fun g7 => ?_)
      refine r_iast dX12_layPool_42 aM_40 (inb_in g7) rfl (fun M8 => ?_)
      refine r_iinc (y := c3 + 1) (lv' := [some (.ref (G.2.2.2 (0))), some (.int x1), some (.int x2), some (.int (c3 + 1)), none]) dX12_layPool_43 rfl rfl (Nat.le_of_ble_eq_true rfl) rfl rfl ?_
      refine r_goto (tgt := 2) dX12_layPool_46 rfl ?_
      exact r_lk (ih (c3 + 1) M8) (And.intro rfl (And.intro rfl (And.intro rfl (And.intro rfl True.intro))))
    refine r_icmp_ge (tgt := 41) dX12_layPool_22 rfl (fun h3 => ?_) (fun h3 => ?_)
    · refine r_iconst (x := 0) dX12_layPool_41 rfl ?_
      exact r_lk (hj42 0) (And.intro rfl (And.intro rfl (And.intro rfl (And.intro rfl True.intro))))
    refine r_aload_n dX12_layPool_25 rfl ?_
    refine r_iload_n dX12_layPool_26 rfl ?_
    refine r_iload_n dX12_layPool_27 rfl ?_
    refine c_OI (by exact hs) (inv_V (mi := mi_X12_layPool) (b := 0) (rest := [.int c3, .ref (G.2.2.2 (40))]) (X12_inPurse_ok G x1 c3 M) rfl (by decide) dX12_layPool_28 lkm_X12_439 cal_X12_inPurse cM_0 rfl rfl (Nat.le_of_ble_eq_true rfl) rfl) (fun v4 => ?_)
    refine r_aload_n dX12_layPool_31 rfl ?_
    refine r_iload_n dX12_layPool_32 rfl ?_
    refine r_iload_n dX12_layPool_33 rfl ?_
    refine c_OI (by exact hs) (inv_V (mi := mi_X12_layPool) (b := 0) (rest := [.int v4, .int c3, .ref (G.2.2.2 (40))]) (X12_inPurse_ok G x2 c3 M) rfl (by decide) dX12_layPool_34 lkm_X12_439 cal_X12_inPurse cM_0 rfl rfl (Nat.le_of_ble_eq_true rfl) rfl) (fun v5 => ?_)
    refine r_iadd dX12_layPool_37 ?_
    refine r_goto (tgt := 42) dX12_layPool_38 rfl ?_
    exact r_lk (hj42 (v4 + v5)) (And.intro rfl (And.intro rfl (And.intro rfl (And.intro rfl True.intro))))
set_option maxRecDepth 100000 in
set_option maxHeartbeats 4000000 in
theorem X12_layPool_ok (G : Gh) (x1 : Int32) (x2 : Int32) (M : Mem) : Mt G mi_X12_layPool [.ref (G.2.2.2 (0)), .int x1, .int x2] M ((dO dV) (X12_layPool x1 x2 M)) := by
  refine Mt_of (lv := [some (.ref (G.2.2.2 (0))), some (.int x1), some (.int x2)]) (by decide) rfl (Nat.le_of_ble_eq_true rfl) rfl ?_
  refine r_le (lv' := [some (.ref (G.2.2.2 (0))), some (.int x1), some (.int x2), none, none]) (And.intro rfl (And.intro rfl (And.intro rfl True.intro))) ?_
  unfold X12_layPool
  refine r_iconst (x := 0) dX12_layPool_0 rfl ?_
  refine r_istore_n (lv' := [some (.ref (G.2.2.2 (0))), some (.int x1), some (.int x2), some (.int 0), none]) dX12_layPool_1 (Nat.le_of_ble_eq_true rfl) rfl rfl ?_
  refine r_jB1 (j := 49) (lvj := fun M9 => [some (.ref (G.2.2.2 (0))), some (.int x1), some (.int x2), none, none]) (stj := fun M9 => []) (Mj := fun M9 => M9) (fun M9 => ?_) (fun hj49 => ?_)
  · refine r_aload_n dX12_layPool_49 rfl ?_
    refine r_iconst (x := (-1)) dX12_layPool_50 rfl ?_
    refine r_putI dX12_layPool_51 fM_0_62 kX12 (by decide) rfl rfl lkf_X12_507 (fun _ => rfl) rfl rfl (fun M10 => ?_)
    refine r_iconst (x := 0) dX12_layPool_54 rfl ?_
    refine r_istore_n (lv' := [some (.ref (G.2.2.2 (0))), some (.int x1), some (.int x2), some (.int 0), none]) dX12_layPool_55 (Nat.le_of_ble_eq_true rfl) rfl rfl ?_
    refine r_jB1 (j := 74) (lvj := fun M14 => [some (.ref (G.2.2.2 (0))), some (.int x1), some (.int x2), none, none]) (stj := fun M14 => []) (Mj := fun M14 => M14) (fun M14 => ?_) (fun hj74 => ?_)
    · refine r_iconst (x := 1) dX12_layPool_74 rfl ?_
      refine r_istore_n (lv' := [some (.ref (G.2.2.2 (0))), some (.int x1), some (.int x2), some (.int 1), none]) dX12_layPool_75 (Nat.le_of_ble_eq_true rfl) rfl rfl ?_
      refine r_jB1 (j := 230) (lvj := fun M35 => [some (.ref (G.2.2.2 (0))), none, none, none, none]) (stj := fun M35 => []) (Mj := fun M35 => M35) (fun M35 => ?_) (fun hj230 => ?_)
      · refine r_aload_n dX12_layPool_230 rfl ?_
        refine r_iconst (x := 2) dX12_layPool_231 rfl ?_
        refine r_aload_n dX12_layPool_232 rfl ?_
        refine r_getf (v := .ref (G.2.2.2 (3))) dX12_layPool_233 fM_0_11 kX12 (by decide) lkf_X12_20 rfl ?_
        refine r_aload_n dX12_layPool_236 rfl ?_
        refine r_getf (v := .int (M35.1 0 41)) dX12_layPool_237 fM_0_41 kX12 (by decide) lkf_X12_301 rfl ?_
        refine r_gd rfl (fun g36 => ?_)
        refine r_iald dX12_layPool_240 aM_3 (inb_in g36) rfl ?_
        refine r_imul dX12_layPool_241 ?_
        refine r_putI dX12_layPool_242 fM_0_55 kX12 (by decide) rfl rfl lkf_X12_414 (fun _ => rfl) rfl rfl (fun M37 => ?_)
        exact r_vret dX12_layPool_245 rfl rfl
      exact r_lk (X12_layPool_L3_ok G x1 x2 rfl hj230 zFU 1 M14) (And.intro rfl (And.intro rfl (And.intro rfl (And.intro rfl True.intro))))
    exact r_lk (X12_layPool_L2_ok G x1 x2 rfl hj74 zFU 0 M10) (And.intro rfl (And.intro rfl (And.intro rfl (And.intro rfl True.intro))))
  exact r_lk (X12_layPool_L1_ok G x1 x2 rfl hj49 zFU 0 M) (And.intro rfl (And.intro rfl (And.intro rfl (And.intro rfl True.intro))))

theorem dX12_pool_0 : decode cX12_pool 0 = .ok (.aload_n 0, 1) := by decide +kernel
theorem dX12_pool_1 : decode cX12_pool 1 = .ok (.iconst 0, 1) := by decide +kernel
theorem dX12_pool_2 : decode cX12_pool 2 = .ok (.putfield 414, 3) := by decide +kernel
theorem dX12_pool_5 : decode cX12_pool 5 = .ok (.aload_n 0, 1) := by decide +kernel
theorem dX12_pool_6 : decode cX12_pool 6 = .ok (.iload_n 1, 1) := by decide +kernel
theorem dX12_pool_7 : decode cX12_pool 7 = .ok (.iload_n 2, 1) := by decide +kernel
theorem dX12_pool_8 : decode cX12_pool 8 = .ok (.invokevirtual 516, 3) := by decide +kernel
theorem dX12_pool_11 : decode cX12_pool 11 = .ok (.ifCond .ne 7, 3) := by decide +kernel
theorem dX12_pool_14 : decode cX12_pool 14 = .ok (.ldc_w 429, 3) := by decide +kernel
theorem dX12_pool_17 : decode cX12_pool 17 = .ok (.ireturn, 1) := by decide +kernel
theorem dX12_pool_18 : decode cX12_pool 18 = .ok (.aload_n 0, 1) := by decide +kernel
theorem dX12_pool_19 : decode cX12_pool 19 = .ok (.iload_n 1, 1) := by decide +kernel
theorem dX12_pool_20 : decode cX12_pool 20 = .ok (.iload_n 2, 1) := by decide +kernel
theorem dX12_pool_21 : decode cX12_pool 21 = .ok (.invokevirtual 519, 3) := by decide +kernel
theorem dX12_pool_24 : decode cX12_pool 24 = .ok (.aload_n 0, 1) := by decide +kernel
theorem dX12_pool_25 : decode cX12_pool 25 = .ok (.getfield 510, 3) := by decide +kernel
theorem dX12_pool_28 : decode cX12_pool 28 = .ok (.ireturn, 1) := by decide +kernel
abbrev mi_X12_pool : MI := (zTM, RX12, yX12_pool, cX12_pool, 3, (some .int), 8)
theorem cal_X12_pool : zCalV mi_X12_pool 2 := ⟨⟨zTB_i8 227 (by decide +kernel), zTB_i8 225 (by decide +kernel), zTB_i8 226 (by decide +kernel), zTB_i1 13 (by decide +kernel)⟩, ⟨by decide, by decide, by decide +kernel⟩, by decide⟩
noncomputable def X12_pool (x1 : Int32) (x2 : Int32) (M : Mem) : Option (Int32 × Mem) :=
  lt_ (uI M 0 55 0) fun M1 =>
  bo_ (X12_areTwo x1 x2 M1) fun b2 =>
  if b2 = true then
    bo_ (X12_layPool x1 x2 M1) fun M4 =>
    some (M4.1 0 63, M4)
  else
  some ((-1000000), M1)
set_option maxRecDepth 100000 in
set_option maxHeartbeats 4000000 in
theorem X12_pool_ok (G : Gh) (x1 : Int32) (x2 : Int32) (M : Mem) : Mt G mi_X12_pool [.ref (G.2.2.2 (0)), .int x1, .int x2] M ((dO dIM) (X12_pool x1 x2 M)) := by
  refine Mt_of (lv := [some (.ref (G.2.2.2 (0))), some (.int x1), some (.int x2)]) (by decide) rfl (Nat.le_of_ble_eq_true rfl) rfl ?_
  unfold X12_pool
  refine r_aload_n dX12_pool_0 rfl ?_
  refine r_iconst (x := 0) dX12_pool_1 rfl ?_
  refine r_putI dX12_pool_2 fM_0_55 kX12 (by decide) rfl rfl lkf_X12_414 (fun _ => rfl) rfl rfl (fun M1 => ?_)
  refine r_aload_n dX12_pool_5 rfl ?_
  refine r_iload_n dX12_pool_6 rfl ?_
  refine r_iload_n dX12_pool_7 rfl ?_
  refine c_OZ rfl (inv_V (mi := mi_X12_pool) (b := 0) (rest := []) (X12_areTwo_ok G x1 x2 M1) rfl (by decide) dX12_pool_8 lkm_X12_516 cal_X12_areTwo cM_0 rfl rfl (Nat.le_of_ble_eq_true rfl) rfl) (fun b2 => ?_)
  refine r_ifz_ne (tgt := 18) dX12_pool_11 rfl (fun h3 => ?_) (fun h3 => ?_)
  · refine r_aload_n dX12_pool_18 rfl ?_
    refine r_iload_n dX12_pool_19 rfl ?_
    refine r_iload_n dX12_pool_20 rfl ?_
    refine c_OV rfl (inv_V (mi := mi_X12_pool) (b := 0) (rest := []) (X12_layPool_ok G x1 x2 M1) rfl (by decide) dX12_pool_21 lkm_X12_519 cal_X12_layPool cM_0 rfl rfl (Nat.le_of_ble_eq_true rfl) rfl) (fun M4 => ?_)
    refine r_aload_n dX12_pool_24 rfl ?_
    refine r_getf (v := .int (M4.1 0 63)) dX12_pool_25 fM_0_63 kX12 (by decide) lkf_X12_510 rfl ?_
    exact r_iret (ty := .int) dX12_pool_28 rfl rfl rfl
  refine r_ldcwI (x := (-1000000)) dX12_pool_14 lkc_X12_429 ?_
  exact r_iret (ty := .int) dX12_pool_17 rfl rfl rfl

theorem dX12_keepNow_0 : decode cX12_keepNow 0 = .ok (.iconst 0, 1) := by decide +kernel
theorem dX12_keepNow_1 : decode cX12_keepNow 1 = .ok (.istore_n 1, 1) := by decide +kernel
theorem dX12_keepNow_2 : decode cX12_keepNow 2 = .ok (.iload_n 1, 1) := by decide +kernel
theorem dX12_keepNow_3 : decode cX12_keepNow 3 = .ok (.bipush 42, 2) := by decide +kernel
theorem dX12_keepNow_5 : decode cX12_keepNow 5 = .ok (.if_icmp .ge 21, 3) := by decide +kernel
theorem dX12_keepNow_8 : decode cX12_keepNow 8 = .ok (.aload_n 0, 1) := by decide +kernel
theorem dX12_keepNow_9 : decode cX12_keepNow 9 = .ok (.getfield 140, 3) := by decide +kernel
theorem dX12_keepNow_12 : decode cX12_keepNow 12 = .ok (.iload_n 1, 1) := by decide +kernel
theorem dX12_keepNow_13 : decode cX12_keepNow 13 = .ok (.aload_n 0, 1) := by decide +kernel
theorem dX12_keepNow_14 : decode cX12_keepNow 14 = .ok (.getfield 113, 3) := by decide +kernel
theorem dX12_keepNow_17 : decode cX12_keepNow 17 = .ok (.iload_n 1, 1) := by decide +kernel
theorem dX12_keepNow_18 : decode cX12_keepNow 18 = .ok (.iaload, 1) := by decide +kernel
theorem dX12_keepNow_19 : decode cX12_keepNow 19 = .ok (.iastore, 1) := by decide +kernel
theorem dX12_keepNow_20 : decode cX12_keepNow 20 = .ok (.iinc 1 1, 3) := by decide +kernel
theorem dX12_keepNow_23 : decode cX12_keepNow 23 = .ok (.goto (-21), 3) := by decide +kernel
theorem dX12_keepNow_26 : decode cX12_keepNow 26 = .ok (.return_, 1) := by decide +kernel
abbrev mi_X12_keepNow : MI := (zTM, RX12, yX12_keepNow, cX12_keepNow, 2, none, 2)
theorem cal_X12_keepNow : zCalV mi_X12_keepNow 0 := ⟨⟨zTB_i9 7 (by decide +kernel), zTB_i9 6 (by decide +kernel), zTB_i0 107 (by decide +kernel), zTB_i1 13 (by decide +kernel)⟩, ⟨by decide, by decide, by decide +kernel⟩, by decide⟩
noncomputable def X12_keepNow_L1 : Nat → Int32 → Mem → Option (Mem)
  | 0, _, _ => none
  | n + 1, c1, M =>
    if 42 ≤ c1 then
      some M
    else
    gd_ (inb c1 (42) = true) (
    gd_ (inb c1 (42) = true) (
    lt_ (uI M 42 c1.toNatClampNeg (M.1 33 c1.toNatClampNeg)) fun M4 =>
    X12_keepNow_L1 n (c1 + 1) M4))
noncomputable def X12_keepNow (M : Mem) : Option (Mem) :=
  b1_ (α := Mem) (X12_keepNow_L1 zFU 0 M) fun M5 =>
  some M5
set_option maxRecDepth 100000 in
set_option maxHeartbeats 4000000 in
theorem X12_keepNow_L1_ok (G : Gh) {dn : Option (Mem) → Option (Option Value × Mem)} (hs : dn none = none) (hx : ∀ (M5 : Mem), Wr G mi_X12_keepNow dn 26 [none, none] [] M5 (some M5)) : ∀ (n : Nat) (c1 : Int32) (M : Mem), Wr G mi_X12_keepNow dn 2 [some (.ref (G.2.2.2 (0))), some (.int c1)] [] M (X12_keepNow_L1 n c1 M) := by
  intro n
  induction n with
  | zero => intro c1 M; exact r_none (by exact hs)
  | succ n ih =>
    intro c1 M
    rw [X12_keepNow_L1]
    refine r_iload_n dX12_keepNow_2 rfl ?_
    refine r_bipush (x := 42) dX12_keepNow_3 rfl ?_
    refine r_icmp_ge (tgt := 26) dX12_keepNow_5 rfl (fun h1 => ?_) (fun h1 => ?_)
    · exact r_lk (hx M) True.intro
    refine r_aload_n dX12_keepNow_8 rfl ?_
    refine r_getf (v := .ref (G.2.2.2 (42))) dX12_keepNow_9 fM_0_64 kX12 (by decide) lkf_X12_140 rfl ?_
    refine r_iload_n dX12_keepNow_12 rfl ?_
    refine r_aload_n dX12_keepNow_13 rfl ?_
    refine r_getf (v := .ref (G.2.2.2 (33))) dX12_keepNow_14 fM_0_48 kX12 (by decide) lkf_X12_113 rfl ?_
    refine r_iload_n dX12_keepNow_17 rfl ?_
    refine r_gd (by exact hs) (fun g2 => ?_)
    refine r_iald dX12_keepNow_18 aM_33 (inb_in g2) rfl ?_
    refine r_gd (by exact hs) (fun g3 => ?_)
    refine r_iast dX12_keepNow_19 aM_42 (inb_in g3) rfl (fun M4 => ?_)
    refine r_iinc (y := c1 + 1) (lv' := [some (.ref (G.2.2.2 (0))), some (.int (c1 + 1))]) dX12_keepNow_20 rfl rfl (Nat.le_of_ble_eq_true rfl) rfl rfl ?_
    refine r_goto (tgt := 2) dX12_keepNow_23 rfl ?_
    exact r_lk (ih (c1 + 1) M4) (And.intro rfl (And.intro rfl True.intro))
set_option maxRecDepth 100000 in
set_option maxHeartbeats 4000000 in
theorem X12_keepNow_ok (G : Gh) (M : Mem) : Mt G mi_X12_keepNow [.ref (G.2.2.2 (0))] M ((dO dV) (X12_keepNow M)) := by
  refine Mt_of (lv := [some (.ref (G.2.2.2 (0)))]) (by decide) rfl (Nat.le_of_ble_eq_true rfl) rfl ?_
  refine r_le (lv' := [some (.ref (G.2.2.2 (0))), none]) (And.intro rfl True.intro) ?_
  unfold X12_keepNow
  refine r_iconst (x := 0) dX12_keepNow_0 rfl ?_
  refine r_istore_n (lv' := [some (.ref (G.2.2.2 (0))), some (.int 0)]) dX12_keepNow_1 (Nat.le_of_ble_eq_true rfl) rfl rfl ?_
  refine r_jB1 (j := 26) (lvj := fun M5 => [none, none]) (stj := fun M5 => []) (Mj := fun M5 => M5) (fun M5 => ?_) (fun hj26 => ?_)
  · exact r_vret dX12_keepNow_26 rfl rfl
  exact r_lk (X12_keepNow_L1_ok G rfl hj26 zFU 0 M) (And.intro rfl (And.intro rfl True.intro))

theorem dX12_bringBack_0 : decode cX12_bringBack 0 = .ok (.iconst 0, 1) := by decide +kernel
theorem dX12_bringBack_1 : decode cX12_bringBack 1 = .ok (.istore_n 1, 1) := by decide +kernel
theorem dX12_bringBack_2 : decode cX12_bringBack 2 = .ok (.iload_n 1, 1) := by decide +kernel
theorem dX12_bringBack_3 : decode cX12_bringBack 3 = .ok (.bipush 42, 2) := by decide +kernel
theorem dX12_bringBack_5 : decode cX12_bringBack 5 = .ok (.if_icmp .ge 21, 3) := by decide +kernel
theorem dX12_bringBack_8 : decode cX12_bringBack 8 = .ok (.aload_n 0, 1) := by decide +kernel
theorem dX12_bringBack_9 : decode cX12_bringBack 9 = .ok (.getfield 113, 3) := by decide +kernel
theorem dX12_bringBack_12 : decode cX12_bringBack 12 = .ok (.iload_n 1, 1) := by decide +kernel
theorem dX12_bringBack_13 : decode cX12_bringBack 13 = .ok (.aload_n 0, 1) := by decide +kernel
theorem dX12_bringBack_14 : decode cX12_bringBack 14 = .ok (.getfield 140, 3) := by decide +kernel
theorem dX12_bringBack_17 : decode cX12_bringBack 17 = .ok (.iload_n 1, 1) := by decide +kernel
theorem dX12_bringBack_18 : decode cX12_bringBack 18 = .ok (.iaload, 1) := by decide +kernel
theorem dX12_bringBack_19 : decode cX12_bringBack 19 = .ok (.iastore, 1) := by decide +kernel
theorem dX12_bringBack_20 : decode cX12_bringBack 20 = .ok (.iinc 1 1, 3) := by decide +kernel
theorem dX12_bringBack_23 : decode cX12_bringBack 23 = .ok (.goto (-21), 3) := by decide +kernel
theorem dX12_bringBack_26 : decode cX12_bringBack 26 = .ok (.return_, 1) := by decide +kernel
abbrev mi_X12_bringBack : MI := (zTM, RX12, yX12_bringBack, cX12_bringBack, 2, none, 2)
theorem cal_X12_bringBack : zCalV mi_X12_bringBack 0 := ⟨⟨zTB_i9 11 (by decide +kernel), zTB_i9 10 (by decide +kernel), zTB_i0 108 (by decide +kernel), zTB_i1 13 (by decide +kernel)⟩, ⟨by decide, by decide, by decide +kernel⟩, by decide⟩
noncomputable def X12_bringBack_L1 : Nat → Int32 → Mem → Option (Mem)
  | 0, _, _ => none
  | n + 1, c1, M =>
    if 42 ≤ c1 then
      some M
    else
    gd_ (inb c1 (42) = true) (
    gd_ (inb c1 (42) = true) (
    lt_ (uI M 33 c1.toNatClampNeg (M.1 42 c1.toNatClampNeg)) fun M4 =>
    X12_bringBack_L1 n (c1 + 1) M4))
noncomputable def X12_bringBack (M : Mem) : Option (Mem) :=
  b1_ (α := Mem) (X12_bringBack_L1 zFU 0 M) fun M5 =>
  some M5
set_option maxRecDepth 100000 in
set_option maxHeartbeats 4000000 in
theorem X12_bringBack_L1_ok (G : Gh) {dn : Option (Mem) → Option (Option Value × Mem)} (hs : dn none = none) (hx : ∀ (M5 : Mem), Wr G mi_X12_bringBack dn 26 [none, none] [] M5 (some M5)) : ∀ (n : Nat) (c1 : Int32) (M : Mem), Wr G mi_X12_bringBack dn 2 [some (.ref (G.2.2.2 (0))), some (.int c1)] [] M (X12_bringBack_L1 n c1 M) := by
  intro n
  induction n with
  | zero => intro c1 M; exact r_none (by exact hs)
  | succ n ih =>
    intro c1 M
    rw [X12_bringBack_L1]
    refine r_iload_n dX12_bringBack_2 rfl ?_
    refine r_bipush (x := 42) dX12_bringBack_3 rfl ?_
    refine r_icmp_ge (tgt := 26) dX12_bringBack_5 rfl (fun h1 => ?_) (fun h1 => ?_)
    · exact r_lk (hx M) True.intro
    refine r_aload_n dX12_bringBack_8 rfl ?_
    refine r_getf (v := .ref (G.2.2.2 (33))) dX12_bringBack_9 fM_0_48 kX12 (by decide) lkf_X12_113 rfl ?_
    refine r_iload_n dX12_bringBack_12 rfl ?_
    refine r_aload_n dX12_bringBack_13 rfl ?_
    refine r_getf (v := .ref (G.2.2.2 (42))) dX12_bringBack_14 fM_0_64 kX12 (by decide) lkf_X12_140 rfl ?_
    refine r_iload_n dX12_bringBack_17 rfl ?_
    refine r_gd (by exact hs) (fun g2 => ?_)
    refine r_iald dX12_bringBack_18 aM_42 (inb_in g2) rfl ?_
    refine r_gd (by exact hs) (fun g3 => ?_)
    refine r_iast dX12_bringBack_19 aM_33 (inb_in g3) rfl (fun M4 => ?_)
    refine r_iinc (y := c1 + 1) (lv' := [some (.ref (G.2.2.2 (0))), some (.int (c1 + 1))]) dX12_bringBack_20 rfl rfl (Nat.le_of_ble_eq_true rfl) rfl rfl ?_
    refine r_goto (tgt := 2) dX12_bringBack_23 rfl ?_
    exact r_lk (ih (c1 + 1) M4) (And.intro rfl (And.intro rfl True.intro))
set_option maxRecDepth 100000 in
set_option maxHeartbeats 4000000 in
theorem X12_bringBack_ok (G : Gh) (M : Mem) : Mt G mi_X12_bringBack [.ref (G.2.2.2 (0))] M ((dO dV) (X12_bringBack M)) := by
  refine Mt_of (lv := [some (.ref (G.2.2.2 (0)))]) (by decide) rfl (Nat.le_of_ble_eq_true rfl) rfl ?_
  refine r_le (lv' := [some (.ref (G.2.2.2 (0))), none]) (And.intro rfl True.intro) ?_
  unfold X12_bringBack
  refine r_iconst (x := 0) dX12_bringBack_0 rfl ?_
  refine r_istore_n (lv' := [some (.ref (G.2.2.2 (0))), some (.int 0)]) dX12_bringBack_1 (Nat.le_of_ble_eq_true rfl) rfl rfl ?_
  refine r_jB1 (j := 26) (lvj := fun M5 => [none, none]) (stj := fun M5 => []) (Mj := fun M5 => M5) (fun M5 => ?_) (fun hj26 => ?_)
  · exact r_vret dX12_bringBack_26 rfl rfl
  exact r_lk (X12_bringBack_L1_ok G rfl hj26 zFU 0 M) (And.intro rfl (And.intro rfl True.intro))

theorem dX12_joint_0 : decode cX12_joint 0 = .ok (.aload_n 0, 1) := by decide +kernel
theorem dX12_joint_1 : decode cX12_joint 1 = .ok (.iload_n 1, 1) := by decide +kernel
theorem dX12_joint_2 : decode cX12_joint 2 = .ok (.iload_n 2, 1) := by decide +kernel
theorem dX12_joint_3 : decode cX12_joint 3 = .ok (.invokevirtual 516, 3) := by decide +kernel
theorem dX12_joint_6 : decode cX12_joint 6 = .ok (.ifCond .ne 7, 3) := by decide +kernel
theorem dX12_joint_9 : decode cX12_joint 9 = .ok (.ldc_w 429, 3) := by decide +kernel
theorem dX12_joint_12 : decode cX12_joint 12 = .ok (.ireturn, 1) := by decide +kernel
theorem dX12_joint_13 : decode cX12_joint 13 = .ok (.aload_n 0, 1) := by decide +kernel
theorem dX12_joint_14 : decode cX12_joint 14 = .ok (.getfield 414, 3) := by decide +kernel
theorem dX12_joint_17 : decode cX12_joint 17 = .ok (.istore_n 3, 1) := by decide +kernel
theorem dX12_joint_18 : decode cX12_joint 18 = .ok (.iconst 0, 1) := by decide +kernel
theorem dX12_joint_19 : decode cX12_joint 19 = .ok (.istore 4, 2) := by decide +kernel
theorem dX12_joint_21 : decode cX12_joint 21 = .ok (.iload 4, 2) := by decide +kernel
theorem dX12_joint_23 : decode cX12_joint 23 = .ok (.bipush 8, 2) := by decide +kernel
theorem dX12_joint_25 : decode cX12_joint 25 = .ok (.if_icmp .ge 23, 3) := by decide +kernel
theorem dX12_joint_28 : decode cX12_joint 28 = .ok (.aload_n 0, 1) := by decide +kernel
theorem dX12_joint_29 : decode cX12_joint 29 = .ok (.getfield 143, 3) := by decide +kernel
theorem dX12_joint_32 : decode cX12_joint 32 = .ok (.iload 4, 2) := by decide +kernel
theorem dX12_joint_34 : decode cX12_joint 34 = .ok (.aload_n 0, 1) := by decide +kernel
theorem dX12_joint_35 : decode cX12_joint 35 = .ok (.getfield 125, 3) := by decide +kernel
theorem dX12_joint_38 : decode cX12_joint 38 = .ok (.iload 4, 2) := by decide +kernel
theorem dX12_joint_40 : decode cX12_joint 40 = .ok (.iaload, 1) := by decide +kernel
theorem dX12_joint_41 : decode cX12_joint 41 = .ok (.iastore, 1) := by decide +kernel
theorem dX12_joint_42 : decode cX12_joint 42 = .ok (.iinc 4 1, 3) := by decide +kernel
theorem dX12_joint_45 : decode cX12_joint 45 = .ok (.goto (-24), 3) := by decide +kernel
theorem dX12_joint_48 : decode cX12_joint 48 = .ok (.aload_n 0, 1) := by decide +kernel
theorem dX12_joint_49 : decode cX12_joint 49 = .ok (.iload_n 1, 1) := by decide +kernel
theorem dX12_joint_50 : decode cX12_joint 50 = .ok (.iload_n 2, 1) := by decide +kernel
theorem dX12_joint_51 : decode cX12_joint 51 = .ok (.invokevirtual 519, 3) := by decide +kernel
theorem dX12_joint_54 : decode cX12_joint 54 = .ok (.aload_n 0, 1) := by decide +kernel
theorem dX12_joint_55 : decode cX12_joint 55 = .ok (.iload_n 3, 1) := by decide +kernel
theorem dX12_joint_56 : decode cX12_joint 56 = .ok (.putfield 414, 3) := by decide +kernel
theorem dX12_joint_59 : decode cX12_joint 59 = .ok (.iconst 0, 1) := by decide +kernel
theorem dX12_joint_60 : decode cX12_joint 60 = .ok (.istore 4, 2) := by decide +kernel
theorem dX12_joint_62 : decode cX12_joint 62 = .ok (.iload 4, 2) := by decide +kernel
theorem dX12_joint_64 : decode cX12_joint 64 = .ok (.bipush 8, 2) := by decide +kernel
theorem dX12_joint_66 : decode cX12_joint 66 = .ok (.if_icmp .ge 23, 3) := by decide +kernel
theorem dX12_joint_69 : decode cX12_joint 69 = .ok (.aload_n 0, 1) := by decide +kernel
theorem dX12_joint_70 : decode cX12_joint 70 = .ok (.getfield 125, 3) := by decide +kernel
theorem dX12_joint_73 : decode cX12_joint 73 = .ok (.iload 4, 2) := by decide +kernel
theorem dX12_joint_75 : decode cX12_joint 75 = .ok (.aload_n 0, 1) := by decide +kernel
theorem dX12_joint_76 : decode cX12_joint 76 = .ok (.getfield 143, 3) := by decide +kernel
theorem dX12_joint_79 : decode cX12_joint 79 = .ok (.iload 4, 2) := by decide +kernel
theorem dX12_joint_81 : decode cX12_joint 81 = .ok (.iaload, 1) := by decide +kernel
theorem dX12_joint_82 : decode cX12_joint 82 = .ok (.iastore, 1) := by decide +kernel
theorem dX12_joint_83 : decode cX12_joint 83 = .ok (.iinc 4 1, 3) := by decide +kernel
theorem dX12_joint_86 : decode cX12_joint 86 = .ok (.goto (-24), 3) := by decide +kernel
theorem dX12_joint_89 : decode cX12_joint 89 = .ok (.aload_n 0, 1) := by decide +kernel
theorem dX12_joint_90 : decode cX12_joint 90 = .ok (.invokevirtual 522, 3) := by decide +kernel
theorem dX12_joint_93 : decode cX12_joint 93 = .ok (.aload_n 0, 1) := by decide +kernel
theorem dX12_joint_94 : decode cX12_joint 94 = .ok (.iload_n 1, 1) := by decide +kernel
theorem dX12_joint_95 : decode cX12_joint 95 = .ok (.iconst 0, 1) := by decide +kernel
theorem dX12_joint_96 : decode cX12_joint 96 = .ok (.invokevirtual 498, 3) := by decide +kernel
theorem dX12_joint_99 : decode cX12_joint 99 = .ok (.aload_n 0, 1) := by decide +kernel
theorem dX12_joint_100 : decode cX12_joint 100 = .ok (.iload_n 1, 1) := by decide +kernel
theorem dX12_joint_101 : decode cX12_joint 101 = .ok (.iconst 1, 1) := by decide +kernel
theorem dX12_joint_102 : decode cX12_joint 102 = .ok (.invokevirtual 504, 3) := by decide +kernel
theorem dX12_joint_105 : decode cX12_joint 105 = .ok (.aload_n 0, 1) := by decide +kernel
theorem dX12_joint_106 : decode cX12_joint 106 = .ok (.iload_n 2, 1) := by decide +kernel
theorem dX12_joint_107 : decode cX12_joint 107 = .ok (.iconst 0, 1) := by decide +kernel
theorem dX12_joint_108 : decode cX12_joint 108 = .ok (.invokevirtual 498, 3) := by decide +kernel
theorem dX12_joint_111 : decode cX12_joint 111 = .ok (.aload_n 0, 1) := by decide +kernel
theorem dX12_joint_112 : decode cX12_joint 112 = .ok (.iload_n 2, 1) := by decide +kernel
theorem dX12_joint_113 : decode cX12_joint 113 = .ok (.iconst 1, 1) := by decide +kernel
theorem dX12_joint_114 : decode cX12_joint 114 = .ok (.invokevirtual 504, 3) := by decide +kernel
theorem dX12_joint_117 : decode cX12_joint 117 = .ok (.aload_n 0, 1) := by decide +kernel
theorem dX12_joint_118 : decode cX12_joint 118 = .ok (.iload_n 1, 1) := by decide +kernel
theorem dX12_joint_119 : decode cX12_joint 119 = .ok (.invokevirtual 420, 3) := by decide +kernel
theorem dX12_joint_122 : decode cX12_joint 122 = .ok (.aload_n 0, 1) := by decide +kernel
theorem dX12_joint_123 : decode cX12_joint 123 = .ok (.iload_n 2, 1) := by decide +kernel
theorem dX12_joint_124 : decode cX12_joint 124 = .ok (.invokevirtual 420, 3) := by decide +kernel
theorem dX12_joint_127 : decode cX12_joint 127 = .ok (.iadd, 1) := by decide +kernel
theorem dX12_joint_128 : decode cX12_joint 128 = .ok (.istore 4, 2) := by decide +kernel
theorem dX12_joint_130 : decode cX12_joint 130 = .ok (.aload_n 0, 1) := by decide +kernel
theorem dX12_joint_131 : decode cX12_joint 131 = .ok (.invokevirtual 525, 3) := by decide +kernel
theorem dX12_joint_134 : decode cX12_joint 134 = .ok (.aload_n 0, 1) := by decide +kernel
theorem dX12_joint_135 : decode cX12_joint 135 = .ok (.getfield 510, 3) := by decide +kernel
theorem dX12_joint_138 : decode cX12_joint 138 = .ok (.iload 4, 2) := by decide +kernel
theorem dX12_joint_140 : decode cX12_joint 140 = .ok (.isub, 1) := by decide +kernel
theorem dX12_joint_141 : decode cX12_joint 141 = .ok (.ireturn, 1) := by decide +kernel
abbrev mi_X12_joint : MI := (zTM, RX12, yX12_joint, cX12_joint, 5, (some .int), 8)
theorem cal_X12_joint : zCalV mi_X12_joint 2 := ⟨⟨zTB_i9 3 (by decide +kernel), zTB_i9 1 (by decide +kernel), zTB_i9 2 (by decide +kernel), zTB_i1 13 (by decide +kernel)⟩, ⟨by decide, by decide, by decide +kernel⟩, by decide⟩
noncomputable def X12_joint_L2 : Nat → Int32 → Mem → Option (Mem)
  | 0, _, _ => none
  | n + 1, c4, M =>
    if 8 ≤ c4 then
      some M
    else
    gd_ (inb c4 (8) = true) (
    gd_ (inb c4 (8) = true) (
    lt_ (uI M 37 c4.toNatClampNeg (M.1 43 c4.toNatClampNeg)) fun M14 =>
    X12_joint_L2 n (c4 + 1) M14))
noncomputable def X12_joint_L1 : Nat → Int32 → Mem → Option (Mem)
  | 0, _, _ => none
  | n + 1, c4, M =>
    if 8 ≤ c4 then
      some M
    else
    gd_ (inb c4 (8) = true) (
    gd_ (inb c4 (8) = true) (
    lt_ (uI M 43 c4.toNatClampNeg (M.1 37 c4.toNatClampNeg)) fun M7 =>
    X12_joint_L1 n (c4 + 1) M7))
noncomputable def X12_joint (x1 : Int32) (x2 : Int32) (M : Mem) : Option (Int32 × Mem) :=
  bo_ (X12_areTwo x1 x2 M) fun b1 =>
  if b1 = true then
    lt_ (α := Int32) (M.1 0 55) fun y3 =>
    b1_ (α := Mem) (X12_joint_L1 zFU 0 M) fun M8 =>
    bo_ (X12_layPool x1 x2 M8) fun M9 =>
    lt_ (uI M9 0 55 y3) fun M10 =>
    b1_ (α := Mem) (X12_joint_L2 zFU 0 M10) fun M15 =>
    bo_ (X12_keepNow M15) fun M16 =>
    bo_ (X12_layBest x1 0 M16) fun M17 =>
    bo_ (X12_layBestRow x1 1 M17) fun M18 =>
    bo_ (X12_layBest x2 0 M18) fun M19 =>
    bo_ (X12_layBestRow x2 1 M19) fun M20 =>
    bp_ (X12_growthOf x1 M20) fun v21 M22 =>
    bp_ (X12_growthOf x2 M22) fun v23 M24 =>
    bo_ (X12_bringBack M24) fun M25 =>
    some ((M25.1 0 63) - (v21 + v23), M25)
  else
  some ((-1000000), M)
set_option maxRecDepth 100000 in
set_option maxHeartbeats 4000000 in
theorem X12_joint_L2_ok (G : Gh) (x1 : Int32) (x2 : Int32) {dn : Option (Mem) → Option (Option Value × Mem)} (hs : dn none = none) (hx : ∀ (M15 : Mem), Wr G mi_X12_joint dn 89 [some (.ref (G.2.2.2 (0))), some (.int x1), some (.int x2), none, none] [] M15 (some M15)) : ∀ (n : Nat) (c4 : Int32) (M : Mem), Wr G mi_X12_joint dn 62 [some (.ref (G.2.2.2 (0))), some (.int x1), some (.int x2), none, some (.int c4)] [] M (X12_joint_L2 n c4 M) := by
  intro n
  induction n with
  | zero => intro c4 M; exact r_none (by exact hs)
  | succ n ih =>
    intro c4 M
    rw [X12_joint_L2]
    refine r_iload dX12_joint_62 rfl ?_
    refine r_bipush (x := 8) dX12_joint_64 rfl ?_
    refine r_icmp_ge (tgt := 89) dX12_joint_66 rfl (fun h11 => ?_) (fun h11 => ?_)
    · exact r_lk (hx M) (And.intro rfl (And.intro rfl (And.intro rfl True.intro)))
    refine r_aload_n dX12_joint_69 rfl ?_
    refine r_getf (v := .ref (G.2.2.2 (37))) dX12_joint_70 fM_0_54 kX12 (by decide) lkf_X12_125 rfl ?_
    refine r_iload dX12_joint_73 rfl ?_
    refine r_aload_n dX12_joint_75 rfl ?_
    refine r_getf (v := .ref (G.2.2.2 (43))) dX12_joint_76 fM_0_65 kX12 (by decide) lkf_X12_143 rfl ?_
    refine r_iload dX12_joint_79 rfl ?_
    refine r_gd (by exact hs) (fun g12 => ?_)
    refine r_iald dX12_joint_81 aM_43 (inb_in g12) rfl ?_
    refine r_gd (by exact hs) (fun g13 => ?_)
    refine r_iast dX12_joint_82 aM_37 (inb_in g13) rfl (fun M14 => ?_)
    refine r_iinc (y := c4 + 1) (lv' := [some (.ref (G.2.2.2 (0))), some (.int x1), some (.int x2), none, some (.int (c4 + 1))]) dX12_joint_83 rfl rfl (Nat.le_of_ble_eq_true rfl) rfl rfl ?_
    refine r_goto (tgt := 62) dX12_joint_86 rfl ?_
    exact r_lk (ih (c4 + 1) M14) (And.intro rfl (And.intro rfl (And.intro rfl (And.intro rfl True.intro))))
set_option maxRecDepth 100000 in
set_option maxHeartbeats 4000000 in
theorem X12_joint_L1_ok (G : Gh) (x1 : Int32) (x2 : Int32) (y3 : Int32) {dn : Option (Mem) → Option (Option Value × Mem)} (hs : dn none = none) (hx : ∀ (M8 : Mem), Wr G mi_X12_joint dn 48 [some (.ref (G.2.2.2 (0))), some (.int x1), some (.int x2), some (.int y3), none] [] M8 (some M8)) : ∀ (n : Nat) (c4 : Int32) (M : Mem), Wr G mi_X12_joint dn 21 [some (.ref (G.2.2.2 (0))), some (.int x1), some (.int x2), some (.int y3), some (.int c4)] [] M (X12_joint_L1 n c4 M) := by
  intro n
  induction n with
  | zero => intro c4 M; exact r_none (by exact hs)
  | succ n ih =>
    intro c4 M
    rw [X12_joint_L1]
    refine r_iload dX12_joint_21 rfl ?_
    refine r_bipush (x := 8) dX12_joint_23 rfl ?_
    refine r_icmp_ge (tgt := 48) dX12_joint_25 rfl (fun h4 => ?_) (fun h4 => ?_)
    · exact r_lk (hx M) (And.intro rfl (And.intro rfl (And.intro rfl (And.intro rfl True.intro))))
    refine r_aload_n dX12_joint_28 rfl ?_
    refine r_getf (v := .ref (G.2.2.2 (43))) dX12_joint_29 fM_0_65 kX12 (by decide) lkf_X12_143 rfl ?_
    refine r_iload dX12_joint_32 rfl ?_
    refine r_aload_n dX12_joint_34 rfl ?_
    refine r_getf (v := .ref (G.2.2.2 (37))) dX12_joint_35 fM_0_54 kX12 (by decide) lkf_X12_125 rfl ?_
    refine r_iload dX12_joint_38 rfl ?_
    refine r_gd (by exact hs) (fun g5 => ?_)
    refine r_iald dX12_joint_40 aM_37 (inb_in g5) rfl ?_
    refine r_gd (by exact hs) (fun g6 => ?_)
    refine r_iast dX12_joint_41 aM_43 (inb_in g6) rfl (fun M7 => ?_)
    refine r_iinc (y := c4 + 1) (lv' := [some (.ref (G.2.2.2 (0))), some (.int x1), some (.int x2), some (.int y3), some (.int (c4 + 1))]) dX12_joint_42 rfl rfl (Nat.le_of_ble_eq_true rfl) rfl rfl ?_
    refine r_goto (tgt := 21) dX12_joint_45 rfl ?_
    exact r_lk (ih (c4 + 1) M7) (And.intro rfl (And.intro rfl (And.intro rfl (And.intro rfl (And.intro rfl True.intro)))))
set_option maxRecDepth 100000 in
set_option maxHeartbeats 4000000 in
theorem X12_joint_ok (G : Gh) (x1 : Int32) (x2 : Int32) (M : Mem) : Mt G mi_X12_joint [.ref (G.2.2.2 (0)), .int x1, .int x2] M ((dO dIM) (X12_joint x1 x2 M)) := by
  refine Mt_of (lv := [some (.ref (G.2.2.2 (0))), some (.int x1), some (.int x2)]) (by decide) rfl (Nat.le_of_ble_eq_true rfl) rfl ?_
  refine r_le (lv' := [some (.ref (G.2.2.2 (0))), some (.int x1), some (.int x2), none, none]) (And.intro rfl (And.intro rfl (And.intro rfl True.intro))) ?_
  unfold X12_joint
  refine r_aload_n dX12_joint_0 rfl ?_
  refine r_iload_n dX12_joint_1 rfl ?_
  refine r_iload_n dX12_joint_2 rfl ?_
  refine c_OZ rfl (inv_V (mi := mi_X12_joint) (b := 0) (rest := []) (X12_areTwo_ok G x1 x2 M) rfl (by decide) dX12_joint_3 lkm_X12_516 cal_X12_areTwo cM_0 rfl rfl (Nat.le_of_ble_eq_true rfl) rfl) (fun b1 => ?_)
  refine r_ifz_ne (tgt := 13) dX12_joint_6 rfl (fun h2 => ?_) (fun h2 => ?_)
  · refine r_aload_n dX12_joint_13 rfl ?_
    refine r_getf (v := .int (M.1 0 55)) dX12_joint_14 fM_0_55 kX12 (by decide) lkf_X12_414 rfl ?_
    refine r_letI (fun y3 => ?_)
    refine r_istore_n (lv' := [some (.ref (G.2.2.2 (0))), some (.int x1), some (.int x2), some (.int y3), none]) dX12_joint_17 (Nat.le_of_ble_eq_true rfl) rfl rfl ?_
    refine r_iconst (x := 0) dX12_joint_18 rfl ?_
    refine r_istore (lv' := [some (.ref (G.2.2.2 (0))), some (.int x1), some (.int x2), some (.int y3), some (.int 0)]) dX12_joint_19 (Nat.le_of_ble_eq_true rfl) rfl rfl ?_
    refine r_jB1 (j := 48) (lvj := fun M8 => [some (.ref (G.2.2.2 (0))), some (.int x1), some (.int x2), some (.int y3), none]) (stj := fun M8 => []) (Mj := fun M8 => M8) (fun M8 => ?_) (fun hj48 => ?_)
    · refine r_aload_n dX12_joint_48 rfl ?_
      refine r_iload_n dX12_joint_49 rfl ?_
      refine r_iload_n dX12_joint_50 rfl ?_
      refine c_OV rfl (inv_V (mi := mi_X12_joint) (b := 0) (rest := []) (X12_layPool_ok G x1 x2 M8) rfl (by decide) dX12_joint_51 lkm_X12_519 cal_X12_layPool cM_0 rfl rfl (Nat.le_of_ble_eq_true rfl) rfl) (fun M9 => ?_)
      refine r_aload_n dX12_joint_54 rfl ?_
      refine r_iload_n dX12_joint_55 rfl ?_
      refine r_putI dX12_joint_56 fM_0_55 kX12 (by decide) rfl rfl lkf_X12_414 (fun _ => rfl) rfl rfl (fun M10 => ?_)
      refine r_iconst (x := 0) dX12_joint_59 rfl ?_
      refine r_istore (lv' := [some (.ref (G.2.2.2 (0))), some (.int x1), some (.int x2), some (.int y3), some (.int 0)]) dX12_joint_60 (Nat.le_of_ble_eq_true rfl) rfl rfl ?_
      refine r_jB1 (j := 89) (lvj := fun M15 => [some (.ref (G.2.2.2 (0))), some (.int x1), some (.int x2), none, none]) (stj := fun M15 => []) (Mj := fun M15 => M15) (fun M15 => ?_) (fun hj89 => ?_)
      · refine r_aload_n dX12_joint_89 rfl ?_
        refine c_OV rfl (inv_V (mi := mi_X12_joint) (b := 0) (rest := []) (X12_keepNow_ok G M15) rfl (by decide) dX12_joint_90 lkm_X12_522 cal_X12_keepNow cM_0 rfl rfl (Nat.le_of_ble_eq_true rfl) rfl) (fun M16 => ?_)
        refine r_aload_n dX12_joint_93 rfl ?_
        refine r_iload_n dX12_joint_94 rfl ?_
        refine r_iconst (x := 0) dX12_joint_95 rfl ?_
        refine c_OV rfl (inv_V (mi := mi_X12_joint) (b := 0) (rest := []) (X12_layBest_ok G x1 0 M16) rfl (by decide) dX12_joint_96 lkm_X12_498 cal_X12_layBest cM_0 rfl rfl (Nat.le_of_ble_eq_true rfl) rfl) (fun M17 => ?_)
        refine r_aload_n dX12_joint_99 rfl ?_
        refine r_iload_n dX12_joint_100 rfl ?_
        refine r_iconst (x := 1) dX12_joint_101 rfl ?_
        refine c_OV rfl (inv_V (mi := mi_X12_joint) (b := 0) (rest := []) (X12_layBestRow_ok G x1 1 M17) rfl (by decide) dX12_joint_102 lkm_X12_504 cal_X12_layBestRow cM_0 rfl rfl (Nat.le_of_ble_eq_true rfl) rfl) (fun M18 => ?_)
        refine r_aload_n dX12_joint_105 rfl ?_
        refine r_iload_n dX12_joint_106 rfl ?_
        refine r_iconst (x := 0) dX12_joint_107 rfl ?_
        refine c_OV rfl (inv_V (mi := mi_X12_joint) (b := 0) (rest := []) (X12_layBest_ok G x2 0 M18) rfl (by decide) dX12_joint_108 lkm_X12_498 cal_X12_layBest cM_0 rfl rfl (Nat.le_of_ble_eq_true rfl) rfl) (fun M19 => ?_)
        refine r_aload_n dX12_joint_111 rfl ?_
        refine r_iload_n dX12_joint_112 rfl ?_
        refine r_iconst (x := 1) dX12_joint_113 rfl ?_
        refine c_OV rfl (inv_V (mi := mi_X12_joint) (b := 0) (rest := []) (X12_layBestRow_ok G x2 1 M19) rfl (by decide) dX12_joint_114 lkm_X12_504 cal_X12_layBestRow cM_0 rfl rfl (Nat.le_of_ble_eq_true rfl) rfl) (fun M20 => ?_)
        refine r_aload_n dX12_joint_117 rfl ?_
        refine r_iload_n dX12_joint_118 rfl ?_
        refine c_OIM rfl (inv_V (mi := mi_X12_joint) (b := 0) (rest := []) (X12_growthOf_ok G x1 M20) rfl (by decide) dX12_joint_119 lkm_X12_420 cal_X12_growthOf cM_0 rfl rfl (Nat.le_of_ble_eq_true rfl) rfl) (fun v21 M22 => ?_)
        refine r_aload_n dX12_joint_122 rfl ?_
        refine r_iload_n dX12_joint_123 rfl ?_
        refine c_OIM rfl (inv_V (mi := mi_X12_joint) (b := 0) (rest := [.int v21]) (X12_growthOf_ok G x2 M22) rfl (by decide) dX12_joint_124 lkm_X12_420 cal_X12_growthOf cM_0 rfl rfl (Nat.le_of_ble_eq_true rfl) rfl) (fun v23 M24 => ?_)
        refine r_iadd dX12_joint_127 ?_
        refine r_istore (lv' := [some (.ref (G.2.2.2 (0))), some (.int x1), some (.int x2), none, some (.int (v21 + v23))]) dX12_joint_128 (Nat.le_of_ble_eq_true rfl) rfl rfl ?_
        refine r_aload_n dX12_joint_130 rfl ?_
        refine c_OV rfl (inv_V (mi := mi_X12_joint) (b := 0) (rest := []) (X12_bringBack_ok G M24) rfl (by decide) dX12_joint_131 lkm_X12_525 cal_X12_bringBack cM_0 rfl rfl (Nat.le_of_ble_eq_true rfl) rfl) (fun M25 => ?_)
        refine r_aload_n dX12_joint_134 rfl ?_
        refine r_getf (v := .int (M25.1 0 63)) dX12_joint_135 fM_0_63 kX12 (by decide) lkf_X12_510 rfl ?_
        refine r_iload dX12_joint_138 rfl ?_
        refine r_isub dX12_joint_140 ?_
        exact r_iret (ty := .int) dX12_joint_141 rfl rfl rfl
      exact r_lk (X12_joint_L2_ok G x1 x2 rfl hj89 zFU 0 M10) (And.intro rfl (And.intro rfl (And.intro rfl (And.intro rfl True.intro))))
    exact r_lk (X12_joint_L1_ok G x1 x2 y3 rfl hj48 zFU 0 M) (And.intro rfl (And.intro rfl (And.intro rfl (And.intro rfl (And.intro rfl True.intro)))))
  refine r_ldcwI (x := (-1000000)) dX12_joint_9 lkc_X12_429 ?_
  exact r_iret (ty := .int) dX12_joint_12 rfl rfl rfl

theorem dX12_goRound_0 : decode cX12_goRound 0 = .ok (.iconst 0, 1) := by decide +kernel
theorem dX12_goRound_1 : decode cX12_goRound 1 = .ok (.istore_n 1, 1) := by decide +kernel
theorem dX12_goRound_2 : decode cX12_goRound 2 = .ok (.iconst 0, 1) := by decide +kernel
theorem dX12_goRound_3 : decode cX12_goRound 3 = .ok (.istore_n 2, 1) := by decide +kernel
theorem dX12_goRound_4 : decode cX12_goRound 4 = .ok (.iload_n 2, 1) := by decide +kernel
theorem dX12_goRound_5 : decode cX12_goRound 5 = .ok (.aload_n 0, 1) := by decide +kernel
theorem dX12_goRound_6 : decode cX12_goRound 6 = .ok (.invokevirtual 398, 3) := by decide +kernel
theorem dX12_goRound_9 : decode cX12_goRound 9 = .ok (.if_icmp .ge 109, 3) := by decide +kernel
theorem dX12_goRound_12 : decode cX12_goRound 12 = .ok (.iconst 0, 1) := by decide +kernel
theorem dX12_goRound_13 : decode cX12_goRound 13 = .ok (.istore_n 3, 1) := by decide +kernel
theorem dX12_goRound_14 : decode cX12_goRound 14 = .ok (.iload_n 3, 1) := by decide +kernel
theorem dX12_goRound_15 : decode cX12_goRound 15 = .ok (.iconst 3, 1) := by decide +kernel
theorem dX12_goRound_16 : decode cX12_goRound 16 = .ok (.if_icmp .ge 26, 3) := by decide +kernel
theorem dX12_goRound_19 : decode cX12_goRound 19 = .ok (.aload_n 0, 1) := by decide +kernel
theorem dX12_goRound_20 : decode cX12_goRound 20 = .ok (.iload_n 2, 1) := by decide +kernel
theorem dX12_goRound_21 : decode cX12_goRound 21 = .ok (.iload_n 3, 1) := by decide +kernel
theorem dX12_goRound_22 : decode cX12_goRound 22 = .ok (.aload_n 0, 1) := by decide +kernel
theorem dX12_goRound_23 : decode cX12_goRound 23 = .ok (.getfield 146, 3) := by decide +kernel
theorem dX12_goRound_26 : decode cX12_goRound 26 = .ok (.iconst 3, 1) := by decide +kernel
theorem dX12_goRound_27 : decode cX12_goRound 27 = .ok (.iload_n 2, 1) := by decide +kernel
theorem dX12_goRound_28 : decode cX12_goRound 28 = .ok (.imul, 1) := by decide +kernel
theorem dX12_goRound_29 : decode cX12_goRound 29 = .ok (.iload_n 3, 1) := by decide +kernel
theorem dX12_goRound_30 : decode cX12_goRound 30 = .ok (.iadd, 1) := by decide +kernel
theorem dX12_goRound_31 : decode cX12_goRound 31 = .ok (.iaload, 1) := by decide +kernel
theorem dX12_goRound_32 : decode cX12_goRound 32 = .ok (.iconst (-1), 1) := by decide +kernel
theorem dX12_goRound_33 : decode cX12_goRound 33 = .ok (.invokevirtual 448, 3) := by decide +kernel
theorem dX12_goRound_36 : decode cX12_goRound 36 = .ok (.iinc 3 1, 3) := by decide +kernel
theorem dX12_goRound_39 : decode cX12_goRound 39 = .ok (.goto (-25), 3) := by decide +kernel
theorem dX12_goRound_42 : decode cX12_goRound 42 = .ok (.aload_n 0, 1) := by decide +kernel
theorem dX12_goRound_43 : decode cX12_goRound 43 = .ok (.iload_n 2, 1) := by decide +kernel
theorem dX12_goRound_44 : decode cX12_goRound 44 = .ok (.iconst 0, 1) := by decide +kernel
theorem dX12_goRound_45 : decode cX12_goRound 45 = .ok (.invokevirtual 498, 3) := by decide +kernel
theorem dX12_goRound_48 : decode cX12_goRound 48 = .ok (.iconst 0, 1) := by decide +kernel
theorem dX12_goRound_49 : decode cX12_goRound 49 = .ok (.istore_n 3, 1) := by decide +kernel
theorem dX12_goRound_50 : decode cX12_goRound 50 = .ok (.iload_n 3, 1) := by decide +kernel
theorem dX12_goRound_51 : decode cX12_goRound 51 = .ok (.iconst 3, 1) := by decide +kernel
theorem dX12_goRound_52 : decode cX12_goRound 52 = .ok (.if_icmp .ge 54, 3) := by decide +kernel
theorem dX12_goRound_55 : decode cX12_goRound 55 = .ok (.iload_n 1, 1) := by decide +kernel
theorem dX12_goRound_56 : decode cX12_goRound 56 = .ok (.ifCond .ne 22, 3) := by decide +kernel
theorem dX12_goRound_59 : decode cX12_goRound 59 = .ok (.aload_n 0, 1) := by decide +kernel
theorem dX12_goRound_60 : decode cX12_goRound 60 = .ok (.getfield 146, 3) := by decide +kernel
theorem dX12_goRound_63 : decode cX12_goRound 63 = .ok (.iconst 3, 1) := by decide +kernel
theorem dX12_goRound_64 : decode cX12_goRound 64 = .ok (.iload_n 2, 1) := by decide +kernel
theorem dX12_goRound_65 : decode cX12_goRound 65 = .ok (.imul, 1) := by decide +kernel
theorem dX12_goRound_66 : decode cX12_goRound 66 = .ok (.iload_n 3, 1) := by decide +kernel
theorem dX12_goRound_67 : decode cX12_goRound 67 = .ok (.iadd, 1) := by decide +kernel
theorem dX12_goRound_68 : decode cX12_goRound 68 = .ok (.iaload, 1) := by decide +kernel
theorem dX12_goRound_69 : decode cX12_goRound 69 = .ok (.aload_n 0, 1) := by decide +kernel
theorem dX12_goRound_70 : decode cX12_goRound 70 = .ok (.getfield 122, 3) := by decide +kernel
theorem dX12_goRound_73 : decode cX12_goRound 73 = .ok (.iload_n 3, 1) := by decide +kernel
theorem dX12_goRound_74 : decode cX12_goRound 74 = .ok (.iaload, 1) := by decide +kernel
theorem dX12_goRound_75 : decode cX12_goRound 75 = .ok (.if_icmp .eq 7, 3) := by decide +kernel
theorem dX12_goRound_78 : decode cX12_goRound 78 = .ok (.iconst 1, 1) := by decide +kernel
theorem dX12_goRound_79 : decode cX12_goRound 79 = .ok (.goto 4, 3) := by decide +kernel
theorem dX12_goRound_82 : decode cX12_goRound 82 = .ok (.iconst 0, 1) := by decide +kernel
theorem dX12_goRound_83 : decode cX12_goRound 83 = .ok (.istore_n 1, 1) := by decide +kernel
theorem dX12_goRound_84 : decode cX12_goRound 84 = .ok (.aload_n 0, 1) := by decide +kernel
theorem dX12_goRound_85 : decode cX12_goRound 85 = .ok (.getfield 146, 3) := by decide +kernel
theorem dX12_goRound_88 : decode cX12_goRound 88 = .ok (.iconst 3, 1) := by decide +kernel
theorem dX12_goRound_89 : decode cX12_goRound 89 = .ok (.iload_n 2, 1) := by decide +kernel
theorem dX12_goRound_90 : decode cX12_goRound 90 = .ok (.imul, 1) := by decide +kernel
theorem dX12_goRound_91 : decode cX12_goRound 91 = .ok (.iload_n 3, 1) := by decide +kernel
theorem dX12_goRound_92 : decode cX12_goRound 92 = .ok (.iadd, 1) := by decide +kernel
theorem dX12_goRound_93 : decode cX12_goRound 93 = .ok (.aload_n 0, 1) := by decide +kernel
theorem dX12_goRound_94 : decode cX12_goRound 94 = .ok (.getfield 122, 3) := by decide +kernel
theorem dX12_goRound_97 : decode cX12_goRound 97 = .ok (.iload_n 3, 1) := by decide +kernel
theorem dX12_goRound_98 : decode cX12_goRound 98 = .ok (.iaload, 1) := by decide +kernel
theorem dX12_goRound_99 : decode cX12_goRound 99 = .ok (.iastore, 1) := by decide +kernel
theorem dX12_goRound_100 : decode cX12_goRound 100 = .ok (.iinc 3 1, 3) := by decide +kernel
theorem dX12_goRound_103 : decode cX12_goRound 103 = .ok (.goto (-53), 3) := by decide +kernel
theorem dX12_goRound_106 : decode cX12_goRound 106 = .ok (.aload_n 0, 1) := by decide +kernel
theorem dX12_goRound_107 : decode cX12_goRound 107 = .ok (.iload_n 2, 1) := by decide +kernel
theorem dX12_goRound_108 : decode cX12_goRound 108 = .ok (.iconst 1, 1) := by decide +kernel
theorem dX12_goRound_109 : decode cX12_goRound 109 = .ok (.invokevirtual 504, 3) := by decide +kernel
theorem dX12_goRound_112 : decode cX12_goRound 112 = .ok (.iinc 2 1, 3) := by decide +kernel
theorem dX12_goRound_115 : decode cX12_goRound 115 = .ok (.goto (-111), 3) := by decide +kernel
theorem dX12_goRound_118 : decode cX12_goRound 118 = .ok (.iload_n 1, 1) := by decide +kernel
theorem dX12_goRound_119 : decode cX12_goRound 119 = .ok (.ireturn, 1) := by decide +kernel
abbrev mi_X12_goRound : MI := (zTM, RX12, yX12_goRound, cX12_goRound, 4, (some .boolean), 8)
theorem cal_X12_goRound : zCalV mi_X12_goRound 0 := ⟨⟨zTB_i9 19 (by decide +kernel), zTB_i9 18 (by decide +kernel), zTB_i0 109 (by decide +kernel), zTB_i1 13 (by decide +kernel)⟩, ⟨by decide, by decide, by decide +kernel⟩, by decide⟩
noncomputable def X12_goRound_L3 (c2 : Int32) : Nat → Int32 → Int32 → Mem → Option (Int32 × Mem)
  | 0, _, _, _ => none
  | n + 1, c1, c3, M =>
    if 3 ≤ c3 then
      some (c1, M)
    else
    b1_ (α := Int32) (
      b1_ (α := Bool) (
        if c1 = 0 then
          gd_ (inb ((3 * c2) + c3) (15) = true) (
          gd_ (inb c3 (3) = true) (
          if (M.1 44 (((3 * c2) + c3).toNatClampNeg)) = (M.1 36 c3.toNatClampNeg) then
            some false
          else
          some true))
        else
        some true) fun t13 =>
      if t13 = true then
        some 1
      else
      some 0) fun y15 =>
    gd_ (inb c3 (3) = true) (
    gd_ (inb ((3 * c2) + c3) (15) = true) (
    lt_ (uI M 44 (((3 * c2) + c3).toNatClampNeg) (M.1 36 c3.toNatClampNeg)) fun M18 =>
    X12_goRound_L3 c2 n y15 (c3 + 1) M18))
noncomputable def X12_goRound_L2 (c2 : Int32) : Nat → Int32 → Mem → Option (Mem)
  | 0, _, _ => none
  | n + 1, c3, M =>
    if 3 ≤ c3 then
      some M
    else
    gd_ (inb ((3 * c2) + c3) (15) = true) (
    bo_ (X12_lay c2 c3 (M.1 44 (((3 * c2) + c3).toNatClampNeg)) (-1) M) fun M5 =>
    X12_goRound_L2 c2 n (c3 + 1) M5)
noncomputable def X12_goRound_L1 : Nat → Int32 → Int32 → Mem → Option (Int32 × Mem)
  | 0, _, _, _ => none
  | n + 1, c1, c2, M =>
    bo_ (X12_many M) fun v1 =>
    if v1 ≤ c2 then
      some (c1, M)
    else
    b1_ (α := Mem) (X12_goRound_L2 c2 zFU 0 M) fun M6 =>
    bo_ (X12_layBest c2 0 M6) fun M7 =>
    b2_ (α := Int32) (β := Mem) (X12_goRound_L3 c2 zFU c1 0 M7) fun e19 M20 =>
    bo_ (X12_layBestRow c2 1 M20) fun M21 =>
    X12_goRound_L1 n e19 (c2 + 1) M21
noncomputable def X12_goRound (M : Mem) : Option (Bool × Mem) :=
  b2_ (α := Int32) (β := Mem) (X12_goRound_L1 zFU 0 0 M) fun e22 M23 =>
  gd_ (e22 = 0 ∨ e22 = 1) (some ((decide (e22 = 1)), M23))
set_option maxRecDepth 100000 in
set_option maxHeartbeats 4000000 in
theorem X12_goRound_L3_ok (G : Gh) (c2 : Int32) {dn : Option (Int32 × Mem) → Option (Option Value × Mem)} (hs : dn none = none) (hx : ∀ (e19 : Int32) (M20 : Mem), Wr G mi_X12_goRound dn 106 [some (.ref (G.2.2.2 (0))), some (.int e19), some (.int c2), none] [] M20 (some (e19, M20))) : ∀ (n : Nat) (c1 : Int32) (c3 : Int32) (M : Mem), Wr G mi_X12_goRound dn 50 [some (.ref (G.2.2.2 (0))), some (.int c1), some (.int c2), some (.int c3)] [] M (X12_goRound_L3 c2 n c1 c3 M) := by
  intro n
  induction n with
  | zero => intro c1 c3 M; exact r_none (by exact hs)
  | succ n ih =>
    intro c1 c3 M
    rw [X12_goRound_L3]
    refine r_iload_n dX12_goRound_50 rfl ?_
    refine r_iconst (x := 3) dX12_goRound_51 rfl ?_
    refine r_icmp_ge (tgt := 106) dX12_goRound_52 rfl (fun h8 => ?_) (fun h8 => ?_)
    · exact r_lk (hx c1 M) (And.intro rfl (And.intro rfl (And.intro rfl True.intro)))
    refine r_iload_n dX12_goRound_55 rfl ?_
    refine r_jB1 (j := 83) (lvj := fun y15 => [some (.ref (G.2.2.2 (0))), none, some (.int c2), some (.int c3)]) (stj := fun y15 => [.int y15]) (Mj := fun y15 => M) (fun y15 => ?_) (fun hj83 => ?_)
    · refine r_istore_n (lv' := [some (.ref (G.2.2.2 (0))), some (.int y15), some (.int c2), some (.int c3)]) dX12_goRound_83 (Nat.le_of_ble_eq_true rfl) rfl rfl ?_
      refine r_aload_n dX12_goRound_84 rfl ?_
      refine r_getf (v := .ref (G.2.2.2 (44))) dX12_goRound_85 fM_0_66 kX12 (by decide) lkf_X12_146 rfl ?_
      refine r_iconst (x := 3) dX12_goRound_88 rfl ?_
      refine r_iload_n dX12_goRound_89 rfl ?_
      refine r_imul dX12_goRound_90 ?_
      refine r_iload_n dX12_goRound_91 rfl ?_
      refine r_iadd dX12_goRound_92 ?_
      refine r_aload_n dX12_goRound_93 rfl ?_
      refine r_getf (v := .ref (G.2.2.2 (36))) dX12_goRound_94 fM_0_53 kX12 (by decide) lkf_X12_122 rfl ?_
      refine r_iload_n dX12_goRound_97 rfl ?_
      refine r_gd (by exact hs) (fun g16 => ?_)
      refine r_iald dX12_goRound_98 aM_36 (inb_in g16) rfl ?_
      refine r_gd (by exact hs) (fun g17 => ?_)
      refine r_iast dX12_goRound_99 aM_44 (inb_in g17) rfl (fun M18 => ?_)
      refine r_iinc (y := c3 + 1) (lv' := [some (.ref (G.2.2.2 (0))), some (.int y15), some (.int c2), some (.int (c3 + 1))]) dX12_goRound_100 rfl rfl (Nat.le_of_ble_eq_true rfl) rfl rfl ?_
      refine r_goto (tgt := 50) dX12_goRound_103 rfl ?_
      exact r_lk (ih y15 (c3 + 1) M18) (And.intro rfl (And.intro rfl (And.intro rfl (And.intro rfl True.intro))))
    refine r_cB (jX := 78) (jY := 82) (lvX := [some (.ref (G.2.2.2 (0))), none, some (.int c2), some (.int c3)]) (lvY := [some (.ref (G.2.2.2 (0))), none, some (.int c2), some (.int c3)]) (stX := []) (M1 := M) (fun h14 => ?_) (fun h14 => ?_) (fun hX78 hY82 => ?_)
    · refine r_eq (if_pos rfl) ?_
      refine r_iconst (x := 1) dX12_goRound_78 rfl ?_
      refine r_goto (tgt := 83) dX12_goRound_79 rfl ?_
      exact r_lk (hj83 1) (And.intro rfl (And.intro rfl (And.intro rfl True.intro)))
    · refine r_eq (if_neg (by decide)) ?_
      refine r_iconst (x := 0) dX12_goRound_82 rfl ?_
      exact r_lk (hj83 0) (And.intro rfl (And.intro rfl (And.intro rfl True.intro)))
    refine r_if_ne (tgt := 78) dX12_goRound_56 rfl (fun h9 => ?_) (fun h9 => ?_)
    · refine r_aload_n dX12_goRound_59 rfl ?_
      refine r_getf (v := .ref (G.2.2.2 (44))) dX12_goRound_60 fM_0_66 kX12 (by decide) lkf_X12_146 rfl ?_
      refine r_iconst (x := 3) dX12_goRound_63 rfl ?_
      refine r_iload_n dX12_goRound_64 rfl ?_
      refine r_imul dX12_goRound_65 ?_
      refine r_iload_n dX12_goRound_66 rfl ?_
      refine r_iadd dX12_goRound_67 ?_
      refine r_gd (by exact hs) (fun g10 => ?_)
      refine r_iald dX12_goRound_68 aM_44 (inb_in g10) rfl ?_
      refine r_aload_n dX12_goRound_69 rfl ?_
      refine r_getf (v := .ref (G.2.2.2 (36))) dX12_goRound_70 fM_0_53 kX12 (by decide) lkf_X12_122 rfl ?_
      refine r_iload_n dX12_goRound_73 rfl ?_
      refine r_gd (by exact hs) (fun g11 => ?_)
      refine r_iald dX12_goRound_74 aM_36 (inb_in g11) rfl ?_
      refine r_icmp_eq (tgt := 82) dX12_goRound_75 rfl (fun h12 => ?_) (fun h12 => ?_)
      · exact r_lk hY82 (And.intro rfl (And.intro rfl (And.intro rfl True.intro)))
      exact r_lk hX78 (And.intro rfl (And.intro rfl (And.intro rfl True.intro)))
    exact r_lk hX78 (And.intro rfl (And.intro rfl (And.intro rfl True.intro)))
set_option maxRecDepth 100000 in
set_option maxHeartbeats 4000000 in
theorem X12_goRound_L2_ok (G : Gh) (c1 : Int32) (c2 : Int32) {dn : Option (Mem) → Option (Option Value × Mem)} (hs : dn none = none) (hx : ∀ (M6 : Mem), Wr G mi_X12_goRound dn 42 [some (.ref (G.2.2.2 (0))), some (.int c1), some (.int c2), none] [] M6 (some M6)) : ∀ (n : Nat) (c3 : Int32) (M : Mem), Wr G mi_X12_goRound dn 14 [some (.ref (G.2.2.2 (0))), some (.int c1), some (.int c2), some (.int c3)] [] M (X12_goRound_L2 c2 n c3 M) := by
  intro n
  induction n with
  | zero => intro c3 M; exact r_none (by exact hs)
  | succ n ih =>
    intro c3 M
    rw [X12_goRound_L2]
    refine r_iload_n dX12_goRound_14 rfl ?_
    refine r_iconst (x := 3) dX12_goRound_15 rfl ?_
    refine r_icmp_ge (tgt := 42) dX12_goRound_16 rfl (fun h3 => ?_) (fun h3 => ?_)
    · exact r_lk (hx M) (And.intro rfl (And.intro rfl (And.intro rfl True.intro)))
    refine r_aload_n dX12_goRound_19 rfl ?_
    refine r_iload_n dX12_goRound_20 rfl ?_
    refine r_iload_n dX12_goRound_21 rfl ?_
    refine r_aload_n dX12_goRound_22 rfl ?_
    refine r_getf (v := .ref (G.2.2.2 (44))) dX12_goRound_23 fM_0_66 kX12 (by decide) lkf_X12_146 rfl ?_
    refine r_iconst (x := 3) dX12_goRound_26 rfl ?_
    refine r_iload_n dX12_goRound_27 rfl ?_
    refine r_imul dX12_goRound_28 ?_
    refine r_iload_n dX12_goRound_29 rfl ?_
    refine r_iadd dX12_goRound_30 ?_
    refine r_gd (by exact hs) (fun g4 => ?_)
    refine r_iald dX12_goRound_31 aM_44 (inb_in g4) rfl ?_
    refine r_iconst (x := (-1)) dX12_goRound_32 rfl ?_
    refine c_OV (by exact hs) (inv_V (mi := mi_X12_goRound) (b := 0) (rest := []) (X12_lay_ok G c2 c3 (M.1 44 (((3 * c2) + c3).toNatClampNeg)) (-1) M) rfl (by decide) dX12_goRound_33 lkm_X12_448 cal_X12_lay cM_0 rfl rfl (Nat.le_of_ble_eq_true rfl) rfl) (fun M5 => ?_)
    refine r_iinc (y := c3 + 1) (lv' := [some (.ref (G.2.2.2 (0))), some (.int c1), some (.int c2), some (.int (c3 + 1))]) dX12_goRound_36 rfl rfl (Nat.le_of_ble_eq_true rfl) rfl rfl ?_
    refine r_goto (tgt := 14) dX12_goRound_39 rfl ?_
    exact r_lk (ih (c3 + 1) M5) (And.intro rfl (And.intro rfl (And.intro rfl (And.intro rfl True.intro))))
set_option maxRecDepth 100000 in
set_option maxHeartbeats 4000000 in
theorem X12_goRound_L1_ok (G : Gh) {dn : Option (Int32 × Mem) → Option (Option Value × Mem)} (hs : dn none = none) (hx : ∀ (e22 : Int32) (M23 : Mem), Wr G mi_X12_goRound dn 118 [none, some (.int e22), none, none] [] M23 (some (e22, M23))) : ∀ (n : Nat) (c1 : Int32) (c2 : Int32) (M : Mem), Wr G mi_X12_goRound dn 4 [some (.ref (G.2.2.2 (0))), some (.int c1), some (.int c2), none] [] M (X12_goRound_L1 n c1 c2 M) := by
  intro n
  induction n with
  | zero => intro c1 c2 M; exact r_none (by exact hs)
  | succ n ih =>
    intro c1 c2 M
    rw [X12_goRound_L1]
    refine r_iload_n dX12_goRound_4 rfl ?_
    refine r_aload_n dX12_goRound_5 rfl ?_
    refine c_OI (by exact hs) (inv_V (mi := mi_X12_goRound) (b := 0) (rest := [.int c2]) (X12_many_ok G M) rfl (by decide) dX12_goRound_6 lkm_X12_398 cal_X12_many cM_0 rfl rfl (Nat.le_of_ble_eq_true rfl) rfl) (fun v1 => ?_)
    refine r_icmp_ge (tgt := 118) dX12_goRound_9 rfl (fun h2 => ?_) (fun h2 => ?_)
    · exact r_lk (hx c1 M) (And.intro rfl True.intro)
    refine r_iconst (x := 0) dX12_goRound_12 rfl ?_
    refine r_istore_n (lv' := [some (.ref (G.2.2.2 (0))), some (.int c1), some (.int c2), some (.int 0)]) dX12_goRound_13 (Nat.le_of_ble_eq_true rfl) rfl rfl ?_
    refine r_jB1 (j := 42) (lvj := fun M6 => [some (.ref (G.2.2.2 (0))), some (.int c1), some (.int c2), none]) (stj := fun M6 => []) (Mj := fun M6 => M6) (fun M6 => ?_) (fun hj42 => ?_)
    · refine r_aload_n dX12_goRound_42 rfl ?_
      refine r_iload_n dX12_goRound_43 rfl ?_
      refine r_iconst (x := 0) dX12_goRound_44 rfl ?_
      refine c_OV (by exact hs) (inv_V (mi := mi_X12_goRound) (b := 0) (rest := []) (X12_layBest_ok G c2 0 M6) rfl (by decide) dX12_goRound_45 lkm_X12_498 cal_X12_layBest cM_0 rfl rfl (Nat.le_of_ble_eq_true rfl) rfl) (fun M7 => ?_)
      refine r_iconst (x := 0) dX12_goRound_48 rfl ?_
      refine r_istore_n (lv' := [some (.ref (G.2.2.2 (0))), some (.int c1), some (.int c2), some (.int 0)]) dX12_goRound_49 (Nat.le_of_ble_eq_true rfl) rfl rfl ?_
      refine r_jB2 (j := 106) (lvj := fun e19 M20 => [some (.ref (G.2.2.2 (0))), some (.int e19), some (.int c2), none]) (stj := fun e19 M20 => []) (Mj := fun e19 M20 => M20) (fun e19 M20 => ?_) (fun hj106 => ?_)
      · refine r_aload_n dX12_goRound_106 rfl ?_
        refine r_iload_n dX12_goRound_107 rfl ?_
        refine r_iconst (x := 1) dX12_goRound_108 rfl ?_
        refine c_OV (by exact hs) (inv_V (mi := mi_X12_goRound) (b := 0) (rest := []) (X12_layBestRow_ok G c2 1 M20) rfl (by decide) dX12_goRound_109 lkm_X12_504 cal_X12_layBestRow cM_0 rfl rfl (Nat.le_of_ble_eq_true rfl) rfl) (fun M21 => ?_)
        refine r_iinc (y := c2 + 1) (lv' := [some (.ref (G.2.2.2 (0))), some (.int e19), some (.int (c2 + 1)), none]) dX12_goRound_112 rfl rfl (Nat.le_of_ble_eq_true rfl) rfl rfl ?_
        refine r_goto (tgt := 4) dX12_goRound_115 rfl ?_
        exact r_lk (ih e19 (c2 + 1) M21) (And.intro rfl (And.intro rfl (And.intro rfl True.intro)))
      exact r_lk (X12_goRound_L3_ok G c2 (by exact hs) hj106 zFU c1 0 M7) (And.intro rfl (And.intro rfl (And.intro rfl (And.intro rfl True.intro))))
    exact r_lk (X12_goRound_L2_ok G c1 c2 (by exact hs) hj42 zFU 0 M) (And.intro rfl (And.intro rfl (And.intro rfl (And.intro rfl True.intro))))
set_option maxRecDepth 100000 in
set_option maxHeartbeats 4000000 in
theorem X12_goRound_ok (G : Gh) (M : Mem) : Mt G mi_X12_goRound [.ref (G.2.2.2 (0))] M ((dO dZM) (X12_goRound M)) := by
  refine Mt_of (lv := [some (.ref (G.2.2.2 (0)))]) (by decide) rfl (Nat.le_of_ble_eq_true rfl) rfl ?_
  refine r_le (lv' := [some (.ref (G.2.2.2 (0))), none, none, none]) (And.intro rfl True.intro) ?_
  unfold X12_goRound
  refine r_iconst (x := 0) dX12_goRound_0 rfl ?_
  refine r_istore_n (lv' := [some (.ref (G.2.2.2 (0))), some (.int 0), none, none]) dX12_goRound_1 (Nat.le_of_ble_eq_true rfl) rfl rfl ?_
  refine r_iconst (x := 0) dX12_goRound_2 rfl ?_
  refine r_istore_n (lv' := [some (.ref (G.2.2.2 (0))), some (.int 0), some (.int 0), none]) dX12_goRound_3 (Nat.le_of_ble_eq_true rfl) rfl rfl ?_
  refine r_jB2 (j := 118) (lvj := fun e22 M23 => [none, some (.int e22), none, none]) (stj := fun e22 M23 => []) (Mj := fun e22 M23 => M23) (fun e22 M23 => ?_) (fun hj118 => ?_)
  · refine r_iload_n dX12_goRound_118 rfl ?_
    refine r_gd rfl (fun gz => ?_)
    exact r_zretI dX12_goRound_119 rfl gz rfl
  exact r_lk (X12_goRound_L1_ok G rfl hj118 zFU 0 0 M) (And.intro rfl (And.intro rfl (And.intro rfl True.intro)))

theorem dX12_spendsOf_0 : decode cX12_spendsOf 0 = .ok (.aload_n 0, 1) := by decide +kernel
theorem dX12_spendsOf_1 : decode cX12_spendsOf 1 = .ok (.getfield 146, 3) := by decide +kernel
theorem dX12_spendsOf_4 : decode cX12_spendsOf 4 = .ok (.iconst 3, 1) := by decide +kernel
theorem dX12_spendsOf_5 : decode cX12_spendsOf 5 = .ok (.iload_n 1, 1) := by decide +kernel
theorem dX12_spendsOf_6 : decode cX12_spendsOf 6 = .ok (.imul, 1) := by decide +kernel
theorem dX12_spendsOf_7 : decode cX12_spendsOf 7 = .ok (.iaload, 1) := by decide +kernel
theorem dX12_spendsOf_8 : decode cX12_spendsOf 8 = .ok (.aload_n 0, 1) := by decide +kernel
theorem dX12_spendsOf_9 : decode cX12_spendsOf 9 = .ok (.getfield 146, 3) := by decide +kernel
theorem dX12_spendsOf_12 : decode cX12_spendsOf 12 = .ok (.iconst 3, 1) := by decide +kernel
theorem dX12_spendsOf_13 : decode cX12_spendsOf 13 = .ok (.iload_n 1, 1) := by decide +kernel
theorem dX12_spendsOf_14 : decode cX12_spendsOf 14 = .ok (.imul, 1) := by decide +kernel
theorem dX12_spendsOf_15 : decode cX12_spendsOf 15 = .ok (.iconst 1, 1) := by decide +kernel
theorem dX12_spendsOf_16 : decode cX12_spendsOf 16 = .ok (.iadd, 1) := by decide +kernel
theorem dX12_spendsOf_17 : decode cX12_spendsOf 17 = .ok (.iaload, 1) := by decide +kernel
theorem dX12_spendsOf_18 : decode cX12_spendsOf 18 = .ok (.iadd, 1) := by decide +kernel
theorem dX12_spendsOf_19 : decode cX12_spendsOf 19 = .ok (.aload_n 0, 1) := by decide +kernel
theorem dX12_spendsOf_20 : decode cX12_spendsOf 20 = .ok (.getfield 146, 3) := by decide +kernel
theorem dX12_spendsOf_23 : decode cX12_spendsOf 23 = .ok (.iconst 3, 1) := by decide +kernel
theorem dX12_spendsOf_24 : decode cX12_spendsOf 24 = .ok (.iload_n 1, 1) := by decide +kernel
theorem dX12_spendsOf_25 : decode cX12_spendsOf 25 = .ok (.imul, 1) := by decide +kernel
theorem dX12_spendsOf_26 : decode cX12_spendsOf 26 = .ok (.iconst 2, 1) := by decide +kernel
theorem dX12_spendsOf_27 : decode cX12_spendsOf 27 = .ok (.iadd, 1) := by decide +kernel
theorem dX12_spendsOf_28 : decode cX12_spendsOf 28 = .ok (.iaload, 1) := by decide +kernel
theorem dX12_spendsOf_29 : decode cX12_spendsOf 29 = .ok (.iadd, 1) := by decide +kernel
theorem dX12_spendsOf_30 : decode cX12_spendsOf 30 = .ok (.ireturn, 1) := by decide +kernel
abbrev mi_X12_spendsOf : MI := (zTM, RX12, yX12_spendsOf, cX12_spendsOf, 2, (some .int), 2)
theorem cal_X12_spendsOf : zCalV mi_X12_spendsOf 1 := ⟨⟨zTB_i9 23 (by decide +kernel), zTB_i9 22 (by decide +kernel), zTB_i0 110 (by decide +kernel), zTB_i1 13 (by decide +kernel)⟩, ⟨by decide, by decide, by decide +kernel⟩, by decide⟩
noncomputable def X12_spendsOf (x1 : Int32) (M : Mem) : Option (Int32) :=
  gd_ (inb (3 * x1) (15) = true) (
  gd_ (inb ((3 * x1) + 1) (15) = true) (
  gd_ (inb ((3 * x1) + 2) (15) = true) (
  some (((M.1 44 ((3 * x1).toNatClampNeg)) + (M.1 44 (((3 * x1) + 1).toNatClampNeg))) + (M.1 44 (((3 * x1) + 2).toNatClampNeg))))))
set_option maxRecDepth 100000 in
set_option maxHeartbeats 4000000 in
theorem X12_spendsOf_ok (G : Gh) (x1 : Int32) (M : Mem) : Mt G mi_X12_spendsOf [.ref (G.2.2.2 (0)), .int x1] M ((dO (dI M)) (X12_spendsOf x1 M)) := by
  refine Mt_of (lv := [some (.ref (G.2.2.2 (0))), some (.int x1)]) (by decide) rfl (Nat.le_of_ble_eq_true rfl) rfl ?_
  unfold X12_spendsOf
  refine r_aload_n dX12_spendsOf_0 rfl ?_
  refine r_getf (v := .ref (G.2.2.2 (44))) dX12_spendsOf_1 fM_0_66 kX12 (by decide) lkf_X12_146 rfl ?_
  refine r_iconst (x := 3) dX12_spendsOf_4 rfl ?_
  refine r_iload_n dX12_spendsOf_5 rfl ?_
  refine r_imul dX12_spendsOf_6 ?_
  refine r_gd rfl (fun g1 => ?_)
  refine r_iald dX12_spendsOf_7 aM_44 (inb_in g1) rfl ?_
  refine r_aload_n dX12_spendsOf_8 rfl ?_
  refine r_getf (v := .ref (G.2.2.2 (44))) dX12_spendsOf_9 fM_0_66 kX12 (by decide) lkf_X12_146 rfl ?_
  refine r_iconst (x := 3) dX12_spendsOf_12 rfl ?_
  refine r_iload_n dX12_spendsOf_13 rfl ?_
  refine r_imul dX12_spendsOf_14 ?_
  refine r_iconst (x := 1) dX12_spendsOf_15 rfl ?_
  refine r_iadd dX12_spendsOf_16 ?_
  refine r_gd rfl (fun g2 => ?_)
  refine r_iald dX12_spendsOf_17 aM_44 (inb_in g2) rfl ?_
  refine r_iadd dX12_spendsOf_18 ?_
  refine r_aload_n dX12_spendsOf_19 rfl ?_
  refine r_getf (v := .ref (G.2.2.2 (44))) dX12_spendsOf_20 fM_0_66 kX12 (by decide) lkf_X12_146 rfl ?_
  refine r_iconst (x := 3) dX12_spendsOf_23 rfl ?_
  refine r_iload_n dX12_spendsOf_24 rfl ?_
  refine r_imul dX12_spendsOf_25 ?_
  refine r_iconst (x := 2) dX12_spendsOf_26 rfl ?_
  refine r_iadd dX12_spendsOf_27 ?_
  refine r_gd rfl (fun g3 => ?_)
  refine r_iald dX12_spendsOf_28 aM_44 (inb_in g3) rfl ?_
  refine r_iadd dX12_spendsOf_29 ?_
  exact r_iret (ty := .int) dX12_spendsOf_30 rfl rfl rfl

